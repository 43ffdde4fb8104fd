def pmask (u : Nat → Bool) : Nat → Int32
  | 0 => 0
  | j + 1 => pmask u j ||| (if u j then (1 : Int32) <<< (nI j &&& 31) else 0)
theorem shl0 {c : Nat} (hc : c < 32) : (0 : Int32) <<< (nI c &&& 31) = 0 := by
  have h := shlN (s := 0) hc (by omega)
  rw [Nat.zero_mul] at h
  exact h
theorem papersC {M : xM} {t : Txt} (hG : G M) (hw : wfT t) (hL : LandC M 14 t) {c : Nat} (hc : c < tN t) : F_X11_papers_15 0 (nI c) 0 0 M = some (pmask (fun p => (((tPapers t)[p]?).map (fun q => under (tW t) q.1 q.2 c)).getD false) (tPapers t).length, M) := by
  have hn := hw.2.2.2.2.2.1.1
  have hN := tN_le hw
  unfold F_X11_papers_15
  refine xit_run (fun j => (pmask (fun p => (((tPapers t)[p]?).map (fun q => under (tW t) q.1 q.2 c)).getD false) j, nI j, M)) (tPapers t).length rfl (fun j hj => ?_) ?_ (by omega)
  · unfold F_X11_papers_15b
    dsimp only
    obtain ⟨q, hq⟩ : ∃ q, (tPapers t)[j]? = some q := ⟨_, List.getElem?_eq_getElem hj⟩
    obtain ⟨s, s1, s2, s3⟩ := hL.2.2.2.2.2.2.2.2.1 j q hq
    rw [G_gP hG (v := 14) (by decide +kernel) (by decide +kernel), Option.bind_some, G_gI hG (by decide +kernel), Option.bind_some, hL.2.2.2.2.2.2.1, if_neg (nI_ge hj (by omega)), Option.bind_some, G_gP hG (v := 18) (by decide +kernel) (by decide +kernel), Option.bind_some, G_aI hG (n := 6) (by decide +kernel) rfl (by omega) (by omega), Option.bind_some, s2, bitN (by omega) (by omega), s3 c, nI_1, Option.bind_some]
    simp only [pmask, hq, Option.map_some, Option.getD_some, hc, decide_true, Bool.true_and]
    by_cases hu : under (tW t) q.1 q.2 c = true
    · simp [hu]
    · simp [hu, shl0 (c := j) (by omega)]
  · unfold F_X11_papers_15b F_X11_papers_50
    dsimp only
    rw [G_gP hG (v := 14) (by decide +kernel) (by decide +kernel), Option.bind_some, G_gI hG (by decide +kernel), Option.bind_some, hL.2.2.2.2.2.2.1, if_pos (nI_le (Nat.le_refl _) (by omega))]
theorem papersM {M : xM} {t : Txt} (hG : G M) (hw : wfT t) (hA : LandA (M.2.1 165) 0 t) {c : Nat} (hc : c < tN t) : F_X12_papers_21 164 (nI c) 0 0 M = some (pmask (fun p => (((tPapers t)[p]?).map (fun q => under (tW t) q.1 q.2 c)).getD false) (tPapers t).length, M) := by
  have hn := hw.2.2.2.2.2.1.1
  have h5 := hA.2.2.2.2.2.1
  simp only [Nat.zero_add] at h5
  unfold F_X12_papers_21
  refine xit_run (fun j => (pmask (fun p => (((tPapers t)[p]?).map (fun q => under (tW t) q.1 q.2 c)).getD false) j, nI j, M)) (tPapers t).length rfl (fun j hj => ?_) ?_ (by omega)
  · unfold F_X12_papers_21b F_X12_papers_48
    dsimp only
    obtain ⟨q, hq⟩ : ∃ q, (tPapers t)[j]? = some q := ⟨_, List.getElem?_eq_getElem hj⟩
    rw [g_all hG, Option.bind_some, all_at hG 5 (by decide) (by omega), Option.bind_some, h5, if_neg (nI_ge hj (by omega)), G_ck hG (by decide +kernel), Option.bind_some, overM hG hw hA hq hc, Option.bind_some]
    simp only [pmask, hq, Option.map_some, Option.getD_some, nI_1, Option.bind_some]
    by_cases hu : under (tW t) q.1 q.2 c = true
    · simp [hu]
    · simp [hu]
  · unfold F_X12_papers_21b F_X12_papers_56
    dsimp only
    rw [g_all hG, Option.bind_some, all_at hG 5 (by decide) (by omega), Option.bind_some, h5, if_pos (nI_le (Nat.le_refl _) (by omega))]
theorem sim_papers (a1 : Int32) : xSim INV (F_X11_papers 0 a1) (F_X12_papers 164 a1) := by
  refine xSim_query fun n M hI => ?_
  have hG := hI.1
  obtain ⟨t, ⟨hw, hL, hA, -⟩, -⟩ := hI.2.2.2.1
  have hN := tN_le hw
  have hG1 := thr_G hG
  have hA1 : LandA ((thr M).2.1 165) 0 t := by rw [thr_165]; exact hA
  by_cases h : 0 ≤ a1.toInt ∧ a1.toInt < tN t
  · obtain ⟨c, hc, rfl⟩ := cell_of h (by omega)
    refine ⟨pmask (fun p => (((tPapers t)[p]?).map (fun q => under (tW t) q.1 q.2 c)).getD false) (tPapers t).length, M, thr M, ?_, Sc.rf, ?_, thr_Sc⟩
    · unfold F_X11_papers
      rw [G_ck hG (by decide +kernel), Option.bind_some, isCellC hG hw hL, if_pos h, Option.bind_some]
      dsimp only
      rw [if_neg one_ne]
      exact papersC hG hw hL hc
    · unfold F_X12_papers
      rw [thr_ok hG, Option.bind_some, G_ck hG1 (by decide +kernel), Option.bind_some, isCellM hG1 hw hA1, if_pos h, Option.bind_some]
      dsimp only
      rw [if_neg one_ne]
      exact papersM hG1 hw hA1 hc
  · refine ⟨-2, M, thr M, ?_, Sc.rf, ?_, thr_Sc⟩
    · unfold F_X11_papers
      rw [G_ck hG (by decide +kernel), Option.bind_some, isCellC hG hw hL, if_neg h, Option.bind_some, if_pos rfl]
    · unfold F_X12_papers
      rw [thr_ok hG, Option.bind_some, G_ck hG1 (by decide +kernel), Option.bind_some, isCellM hG1 hw hA1, if_neg h, Option.bind_some, if_pos rfl]
