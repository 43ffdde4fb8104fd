theorem G_sJ {M : xM} {k n j : Nat} {i : Int32} {v : Int64} (h : G M) (hs : SH[k]? = some (24, n)) (hi : i = nI j) (hj : j < n) (hn : n < 2 ^ 31) : xsJ M k i v = some (M.1, M.2.1, xu M.2.2.1 k j v, M.2.2.2) := by
  subst hi
  unfold xsJ
  rw [G_ln h hs, Option.bind_some, if_pos (xin_nI hj hn), nI_clamp (by omega)]
def cutV (v : Int64) (s : Int32) : Int64 := if s = 0 then v.toInt32.toInt8.toInt32.toInt64 else if s = 1 then v.toInt32.toInt16.toInt32.toInt64 else if s = 2 then v.toInt32.toInt64 else v
theorem cutM (v : Int64) (s : Int32) (M : xM) : F_X12_cut v s M = some (cutV v s, M) := by
  unfold F_X12_cut cutV
  repeat' split
  all_goals rfl
theorem putC {M : xM} (hG : G M) {j i : Nat} (hj : j < 4) (hi : i < 40) (v : Int64) : F_X10_put (82 + 2 * j) (nI i) v M = some (cutV v (M.2.1 (82 + 2 * j) 1), (M.1, M.2.1, xu M.2.2.1 (83 + 2 * j) i (cutV v (M.2.1 (82 + 2 * j) 1)), M.2.2.2)) := by
  have fin : ∀ w : Int64, (xsJ M (83 + 2 * j) (nI i) w).bind (fun t => F_X10_put_89 (82 + 2 * j) (nI i) t) = some (w, (M.1, M.2.1, xu M.2.2.1 (83 + 2 * j) i w, M.2.2.2)) := by
    intro w
    rw [G_sJ hG (trayLen hj) rfl hi (by omega)]
    simp only [Option.bind_some]
    unfold F_X10_put_89
    have hG2 : G (M.1, M.2.1, xu M.2.2.1 (83 + 2 * j) i w, M.2.2.2) := hG
    rw [trayNum hG2 hj]
    simp only [Option.bind_some]
    rw [G_aJ hG2 (trayLen hj) rfl hi (by omega)]
    simp only [Option.bind_some, xu_self]
  unfold F_X10_put
  rw [if_neg (nI_pos (by omega)), if_pos (show nI i < (40 : Int32) from nI_lt (b := 40) hi (by omega)), G_gI hG (traySh hj)]
  simp only [Option.bind_some]
  rw [trayNum hG hj]
  simp only [Option.bind_some, fin]
  unfold cutV
  repeat' split
  all_goals rfl
theorem trayWhy_J {M M' : xM} (h : M'.2.1 182 = M.2.1 182) (a : Int32) : trayWhy M' a = trayWhy M a := by unfold trayWhy; rw [h]
theorem sim_write (a1 a2 : Int32) (a3 : Int64) : xSimL INV (F_X11_write 0 a1 a2 a3) (F_X12_write 164 a1 a2 a3) := by
  intro n M _ hI
  have hG := hI.1
  have hT := hI.2.2.2.2.1
  have kC : xck M 0 11 = some () := G_ck hG (by decide +kernel)
  have kM : ∀ M' : xM, G M' → xck M' 164 12 = some () := fun M' h => G_ck h (by decide +kernel)
  have quiet : ∀ r : Int64, F_X11_write 0 a1 a2 a3 M = some (r, M) → F_X12_write 164 a1 a2 a3 M = some (r, thr M) → ∃ (r : Int64) (M1 M2 : xM), F_X11_write 0 a1 a2 a3 M = some (r, M1) ∧ F_X12_write 164 a1 a2 a3 M1 = some (r, M2) ∧ xck M 0 11 = some () ∧ xck M1 164 12 = some () ∧ INV (n + 1) M2 :=
    fun r h1 h2 => ⟨r, M, thr M, h1, h2, kC, kM M hG, INV_mono _ _ (INV_Sc hI thr_Sc)⟩
  have hG1 := thr_G hG
  have tw : trayWhy (thr M) a1 = trayWhy M a1 := trayWhy_J (thr_k (by omega)) a1
  by_cases hz : trayWhy M a1 = 0
  · have hr : 0 ≤ a1.toInt ∧ a1.toInt < 4 := by
      unfold trayWhy at hz
      split at hz
      · assumption
      · exact absurd hz (by decide)
    obtain ⟨j, hj, rfl⟩ := cell_of (n := 4) hr (by omega)
    have hm : ¬ M.2.1 182 j = -1 := by
      intro e
      unfold trayWhy at hz
      rw [if_pos hr, nI_clamp (by omega), if_pos e] at hz
      exact absurd hz (by decide)
    rcases hT j hj with ⟨b1, b2⟩ | ⟨sz, so, b1, b2, b3, b4, b5, b6, b7⟩
    · exact absurd b2 hm
    · have wM : ∀ M' : xM, G M' → M'.2.1 = M.2.1 → F_X12_write 164 (nI j) a2 a3 M' = (if 0 ≤ a2.toInt ∧ a2.toInt < sz then (xsJ (thr M') 184 ((40 : Int32) * nI j + a2) (cutV a3 (nI so))).bind (fun t11 => (xgP t11 164 12 35).bind fun t12 => (xaJ t11 t12 ((40 : Int32) * nI j + a2)).bind fun t13 => some (t13, t11)) else some (-7, thr M')) := by
        intro M' g' e'
        have g1 := thr_G g'
        have i182 : (thr M').2.1 182 = M.2.1 182 := by rw [thr_k (by omega), e']
        have i183 : (thr M').2.1 183 = M.2.1 183 := by rw [thr_k (by omega), e']
        unfold F_X12_write
        rw [thr_ok g']
        simp only [Option.bind_some]
        rw [kM _ g1]
        simp only [Option.bind_some]
        rw [noTrayM g1, trayWhy_J i182, hz]
        simp only [Option.bind_some]
        rw [if_pos trivial, G_gP g1 (v := 183) (by decide +kernel) (by decide +kernel)]
        simp only [Option.bind_some]
        rw [G_aI g1 (n := 4) (by decide +kernel) rfl hj (by omega), i183, b6]
        simp only [Option.bind_some]
        rw [within_nI _ (by omega)]
        simp only [Option.bind_some]
        by_cases hx : 0 ≤ a2.toInt ∧ a2.toInt < sz
        · rw [if_pos hx, if_pos hx, if_neg one_ne, G_gP g1 (v := 184) (by decide +kernel) (by decide +kernel)]
          simp only [Option.bind_some]
          rw [G_gP g1 (v := 182) (by decide +kernel) (by decide +kernel)]
          simp only [Option.bind_some]
          rw [G_aI g1 (n := 4) (by decide +kernel) rfl hj (by omega), i182, b5]
          simp only [Option.bind_some, cutM]
        · rw [if_neg hx, if_neg hx, if_pos rfl]
      by_cases hx : 0 ≤ a2.toInt ∧ a2.toInt < sz
      · obtain ⟨i, hi, rfl⟩ := cell_of hx (by omega)
        have hC : F_X11_write 0 (nI j) (nI i) a3 M = some (cutV a3 (nI so), (M.1, M.2.1, xu M.2.2.1 (83 + 2 * j) i (cutV a3 (nI so)), M.2.2.2)) := by
          unfold F_X11_write
          rw [kC]
          simp only [Option.bind_some]
          rw [refusedC hG hT, hz]
          simp only [Option.bind_some]
          rw [if_pos trivial, if_neg (nI_pos (by omega)), g_trays hG]
          simp only [Option.bind_some]
          rw [trayP hG hj]
          simp only [Option.bind_some]
          rw [G_gI hG (traySh hj), b3]
          simp only [Option.bind_some]
          rw [if_pos (nI_lt hi (by omega)), G_ck hG (traySh hj)]
          simp only [Option.bind_some]
          rw [putC hG hj (by omega), b4]
          simp only [Option.bind_some]
        have g1 : G (M.1, M.2.1, xu M.2.2.1 (83 + 2 * j) i (cutV a3 (nI so)), M.2.2.2) := hG
        have ix : (40 : Int32) * nI j + nI i = nI (40 * j + i) := by rw [show (40 : Int32) = nI 40 from rfl, pk_mul, nI_add]
        have hM := wM _ g1 rfl
        rw [if_pos hx, ix, G_sJ (thr_G g1) (n := 160) (by decide +kernel) rfl (by omega) (by omega)] at hM
        simp only [Option.bind_some] at hM
        have g2 : G ((thr (M.1, M.2.1, xu M.2.2.1 (83 + 2 * j) i (cutV a3 (nI so)), M.2.2.2)).1, (thr (M.1, M.2.1, xu M.2.2.1 (83 + 2 * j) i (cutV a3 (nI so)), M.2.2.2)).2.1, xu (thr (M.1, M.2.1, xu M.2.2.1 (83 + 2 * j) i (cutV a3 (nI so)), M.2.2.2)).2.2.1 184 (40 * j + i) (cutV a3 (nI so)), (thr (M.1, M.2.1, xu M.2.2.1 (83 + 2 * j) i (cutV a3 (nI so)), M.2.2.2)).2.2.2) := hG
        rw [G_gP g2 (v := 184) (by decide +kernel) (by decide +kernel)] at hM
        simp only [Option.bind_some] at hM
        rw [G_aJ g2 (n := 160) (by decide +kernel) rfl (by omega) (by omega)] at hM
        simp only [Option.bind_some, xu_self] at hM
        refine ⟨_, _, _, hC, hM, kC, kM _ g1, INV_mono _ _ ?_⟩
        have hk : ∀ k x, k ≠ 164 → xu M.2.1 164 0 0 k x = M.2.1 k x := fun k x hne => xu_other (fun z => hne z.1)
        have hq : ∀ x, x ≠ 0 → xu M.2.1 164 0 0 164 x = M.2.1 164 x := fun x hne => xu_other (fun z => hne z.2)
        obtain ⟨-, f1, f2, ⟨t, f3⟩, -, f5, f6⟩ := hI
        refine ⟨g2, Ifault_fr (M := M) (fun k x hh => ?_) f1, Itape_fr (M := M) (fun k x hh => ?_) f2, ⟨t, Ishore_fr (M := M) (fun k x hh => hk k x (by omega)) f3⟩, fun u hu => ?_, Iimg_fr (M := M) (fun k x hh => hk k x (by omega)) f5, Inim_fr (M := M) (fun x => hk 124 x (by omega)) f6⟩
        · by_cases e : k = 164
          · subst e; exact hq x (by omega)
          · exact hk k x e
        · by_cases e : k = 164
          · subst e; exact hq x (by omega)
          · exact hk k x e
        · have ek : ∀ k x, k ≠ 164 → (thr (M.1, M.2.1, xu M.2.2.1 (83 + 2 * j) i (cutV a3 (nI so)), M.2.2.2)).2.1 k x = M.2.1 k x := hk
          rcases hT u hu with ⟨c1, c2⟩ | ⟨sz', so', c1, c2, c3, c4, c5, c6, c7⟩
          · exact Or.inl ⟨(hk _ _ (by omega)).trans c1, (hk _ _ (by omega)).trans c2⟩
          · refine Or.inr ⟨sz', so', c1, c2, (hk _ _ (by omega)).trans c3, (hk _ _ (by omega)).trans c4, (hk _ _ (by omega)).trans c5, (hk _ _ (by omega)).trans c6, fun x hx2 => ?_⟩
            show xu (xu M.2.2.1 (83 + 2 * j) i (cutV a3 (nI so))) 184 (40 * j + i) (cutV a3 (nI so)) (83 + 2 * u) x = xu (xu M.2.2.1 (83 + 2 * j) i (cutV a3 (nI so))) 184 (40 * j + i) (cutV a3 (nI so)) 184 (40 * u + x)
            rw [xu_other (show ¬ (83 + 2 * u = 184 ∧ x = 40 * j + i) by omega)]
            by_cases e : u = j ∧ x = i
            · rw [e.1, e.2, xu_self, xu_self]
            · rw [xu_other (show ¬ (83 + 2 * u = 83 + 2 * j ∧ x = i) by omega), xu_other (show ¬ (184 = 184 ∧ 40 * u + x = 40 * j + i) by omega), xu_other (show ¬ (184 = 83 + 2 * j ∧ 40 * u + x = i) by omega)]
              exact c7 x hx2
      · refine quiet (-7) ?_ ?_
        · unfold F_X11_write
          rw [kC]
          simp only [Option.bind_some]
          rw [refusedC hG hT, hz]
          simp only [Option.bind_some]
          rw [if_pos trivial]
          by_cases h0 : a2 < 0
          · rw [if_pos h0]
          · have h1 := toInt_nneg h0
            rw [if_neg h0, g_trays hG]
            simp only [Option.bind_some]
            rw [trayP hG hj]
            simp only [Option.bind_some]
            rw [G_gI hG (traySh hj), b3]
            simp only [Option.bind_some]
            have e : (nI sz).toInt = (sz : Int) := nI_toInt (by omega)
            have hnl : ¬ a2 < nI sz := fun z => by
              have := Int32.lt_iff_toInt_lt.mp z
              rw [e] at this
              omega
            rw [if_neg hnl]
        · rw [wM M hG rfl, if_neg hx]
  · refine quiet (trayWhy M a1).toInt64 ?_ ?_
    · unfold F_X11_write
      rw [kC]
      simp only [Option.bind_some]
      rw [refusedC hG hT]
      simp only [Option.bind_some]
      rw [if_neg hz]
    · unfold F_X12_write
      rw [thr_ok hG]
      simp only [Option.bind_some]
      rw [kM _ hG1]
      simp only [Option.bind_some]
      rw [noTrayM hG1, tw]
      simp only [Option.bind_some]
      rw [if_neg hz]
