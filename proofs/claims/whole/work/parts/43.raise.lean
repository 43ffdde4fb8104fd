theorem sim_raise (a1 : Int32) : xSim INV (F_X11_raise 0 a1) (F_X12_raise 164 a1) := by
  intro n M _ hI
  obtain ⟨P, I, J, rfl, hP⟩ := G_mm hI.1
  obtain ⟨t, c, cs, nx, hS⟩ := INV_sh hI
  have hS' := hS
  obtain ⟨hw, hL, hA, hc, hC, hD, p1, p2, p3, p4, p5, -⟩ := hS'
  obtain ⟨I1, e1, k1⟩ := keep_C hP I J p4 p2
  have hN := tN_le hw
  have hL1 : LandC (mm P I1 J) 14 t := LandC_cg (M := mm P I J) (fun j hj => funext fun i => k1.1 _ i (by omega)) hL
  have hC1 : CoastC (mm P I1 J) 21 t c := CoastC_cg (M := mm P I J) (fun j hj => funext fun i => k1.1 _ i (by omega)) hC
  have cC := cellsC (mm_G hP) hL1
  have hv := kept_INV hI hS k1.1
  have e165 : xu I1 164 0 0 165 = I 165 := funext fun i => by rw [xu_o (by omega), k1.1 165 i (by omega)]
  have hA1 : LandA (xu I1 164 0 0 165) 0 t := by rw [e165]; exact hA
  have hD1 : CoastA (xu I1 164 0 0 165) 67 t c := by rw [e165]; exact hD
  by_cases h : 0 ≤ a1.toInt ∧ a1.toInt < tN t
  · obtain ⟨j, hj, rfl⟩ := cell_of h (by omega)
    have h9 := hc.1 j hj
    by_cases h8 : cSand c j < 9
    · have k2 : ∀ k i, ¬ inD k i → (xu I1 22 j (nI (cSand c j + 1))) k i = I1 k i := fun k i h => xu_o (by unfold inD at h; omega)
      have C : F_X11_raise 0 (nI j) (mm P I J) = some (nI (cSand c j + 1), mm P (cfI (xu I1 22 j (nI (cSand c j + 1))) nx cs.length) J) := by
        simp (disch := omega) only [F_X11_raise, OC hP, AC, Option.bind_some, e1, cC, heap_in hP (k := 21) (by decide) hw hc hC1 hj, if_pos h8, if_true, xu_self, confirmed_C hP p4 p2 p3 p1 k1 k2]
      have eA : (xu (cfI (xu I1 22 j (nI (cSand c j + 1))) nx cs.length) 164 0 0) 165 = I 165 := cf_165 p2 k1 k2
      have hA2 : LandA ((xu (cfI (xu I1 22 j (nI (cSand c j + 1))) nx cs.length) 164 0 0) 165) 0 t := by rw [eA]; exact hA
      have hD2 : CoastA ((xu (cfI (xu I1 22 j (nI (cSand c j + 1))) nx cs.length) 164 0 0) 165) 67 t c := by rw [eA]; exact hD
      have n8 : stI (cfI (xu I1 22 j (nI (cSand c j + 1))) nx cs.length) 165 108 = nI cs.length := by rw [st_165 p2 k1 k2]; exact p5
      have s1 : stI (cfI (xu I1 22 j (nI (cSand c j + 1))) nx cs.length) 165 (67 + j) = nI (cSand c j) := by rw [st_165 p2 k1 k2]; exact hD.1 j hj
      have n5 : (xu (stI (cfI (xu I1 22 j (nI (cSand c j + 1))) nx cs.length)) 165 (67 + j) (nI (cSand c j + 1))) 165 108 = nI cs.length := by rw [xu_o (by omega)]; exact n8
      have w : noteI (xu (stI (cfI (xu I1 22 j (nI (cSand c j + 1))) nx cs.length)) 165 (67 + j) (nI (cSand c j + 1))) cs.length 165 (67 + j) = nI (cSand c j + 1) := by
        rw [noteI_o p1 (by omega), xu_self]
      have hno : ¬ (cSand c j = (if (1 : Int32) ≤ 0 then 0 else 9)) := by
        rw [if_neg (by decide)]; omega
      have st := stores_M hP (xu (cfI (xu I1 22 j (nI (cSand c j + 1))) nx cs.length) 164 0 0) J
      have st' : F_X12_stores 164 (mm P (xu (cfI (xu I1 22 j (nI (cSand c j + 1))) nx cs.length) 164 0 0) J) = some (mm P (stI (cfI (xu I1 22 j (nI (cSand c j + 1))) nx cs.length)) J) := st
      have ad : nI (cSand c j) + (1 : Int32) = nI (cSand c j + 1) := nI_1 _
      have D : F_X12_raise 164 (nI j) (mm P (cfI (xu I1 22 j (nI (cSand c j + 1))) nx cs.length) J) = some (nI (cSand c j + 1), mm P (noteI (xu (stI (cfI (xu I1 22 j (nI (cSand c j + 1))) nx cs.length)) 165 (67 + j) (nI (cSand c j + 1))) cs.length) J) := by
        simp (disch := omega) only [F_X12_raise, F_X12_heaps, OM hP, AM, Option.bind_some, whySand_in hP hw hc hA2 hD2 hj, if_neg hno, if_true, st', show (67 : Int32) = nI 67 from rfl, nI_add, s1, ad, notes_M hP _ J n5 p1, w]
      refine ⟨_, _, _, C, D, m_ck (by decide +kernel) _ _, m_ck (by decide +kernel) _ _, deed_all (c' := cHeap c j (cSand c j + 1)) hI hS k1 k2 (fun k i h => xu_o (by unfold inE at h; omega)) ?_ ?_ ?_⟩
      · refine ⟨fun i hi => ?_, hc.2.1, hc.2.2.1, hc.2.2.2.1, by have h1 : cMinute c ≤ 99 * n := hc.2.2.2.2; show cMinute c ≤ 99 * (n + 1); omega⟩
        show (if i = j then (cSand c j + 1) else cSand c i) ≤ 9
        have := hc.1 i hi
        split <;> omega
      · obtain ⟨g1, g2, g3, g4, g5, g6⟩ := CoI_iff.mp hC1
        refine CoI_iff.mpr ⟨fun i hi => ?_, ?_, fun i q hq => ⟨?_, ?_⟩, ?_, ?_, ?_⟩
        · show xu I1 22 j (nI (cSand c j + 1)) 22 i = nI (if i = j then (cSand c j + 1) else cSand c i)
          by_cases hij : i = j
          · subst hij; rw [xu_self, if_pos rfl]
          · rw [xu_o (by omega), if_neg hij]; exact g1 i hi
        · rw [xu_o (by omega)]; exact g2
        · rw [xu_o (by omega)]; exact (g3 i q hq).1
        · rw [xu_o (by omega)]; exact (g3 i q hq).2
        · rw [xu_o (by omega)]; exact g4
        · rw [xu_o (by omega)]; exact g5
        · rw [xu_o (by omega)]; exact g6
      · have e : ∀ i, i ≠ 67 + j → xu (stI (cfI (xu I1 22 j (nI (cSand c j + 1))) nx cs.length)) 165 (67 + j) (nI (cSand c j + 1)) 165 i = I 165 i := fun i hi => by rw [xu_o (by omega), st_165 p2 k1 k2]
        obtain ⟨g1, g2, g3, ⟨f, f1, f2, f3⟩, g5, g6⟩ := hD
        have hH := hc.2.1.1
        refine ⟨fun i hi => ?_, (e _ (by omega)).trans g2, fun i q hq => ?_, ⟨f, f1, (e _ (by omega)).trans f2, f3⟩, (e _ (by omega)).trans g5, (e _ (by omega)).trans g6⟩
        · show xu _ 165 (67 + j) _ 165 (67 + i) = nI (if i = j then (cSand c j + 1) else cSand c i)
          by_cases hij : i = j
          · subst hij; rw [xu_self, if_pos rfl]
          · rw [if_neg hij]; exact (e _ (by omega)).trans (g1 i hi)
        · have hl : i < (cHouses c).length := getlt hq
          exact ⟨(e _ (by omega)).trans (g3 i q hq).1, (e _ (by omega)).trans (g3 i q hq).2⟩
    · refine ⟨-12, mm P I1 J, thr (mm P I1 J), ?_, ?_, m_ck (by decide +kernel) _ _, m_ck (by decide +kernel) _ _, INV_mono _ _ (INV_Sc hv thr_Sc)⟩
      · simp only [F_X11_raise, OC hP, Option.bind_some, e1, cC, heap_in hP (k := 21) (by decide) hw hc hC1 hj, if_neg h8]
        rw [if_neg (by decide)]
        rfl
      · have hno : cSand c j = (if (1 : Int32) ≤ 0 then 0 else 9) := by
          rw [if_neg (by decide)]; omega
        simp only [F_X12_raise, F_X12_heaps, OM hP, Option.bind_some, thr_mm, whySand_in hP hw hc hA1 hD1 hj, if_pos hno]
        rw [if_neg (by decide)]
        rfl
  · refine ⟨-11, mm P I1 J, thr (mm P I1 J), ?_, ?_, m_ck (by decide +kernel) _ _, m_ck (by decide +kernel) _ _, INV_mono _ _ (INV_Sc hv thr_Sc)⟩
    · simp only [F_X11_raise, OC hP, Option.bind_some, e1, cC, heap_no hw h, if_neg one_ne]
      rfl
    · simp only [F_X12_raise, F_X12_heaps, OM hP, Option.bind_some, thr_mm, whySand_no hP hw hA1 h, if_neg one_ne]
      rfl
theorem sim_dig (a1 : Int32) : xSim INV (F_X11_dig 0 a1) (F_X12_dig 164 a1) := by
  intro n M _ hI
  obtain ⟨P, I, J, rfl, hP⟩ := G_mm hI.1
  obtain ⟨t, c, cs, nx, hS⟩ := INV_sh hI
  have hS' := hS
  obtain ⟨hw, hL, hA, hc, hC, hD, p1, p2, p3, p4, p5, -⟩ := hS'
  obtain ⟨I1, e1, k1⟩ := keep_C hP I J p4 p2
  have hN := tN_le hw
  have hL1 : LandC (mm P I1 J) 14 t := LandC_cg (M := mm P I J) (fun j hj => funext fun i => k1.1 _ i (by omega)) hL
  have hC1 : CoastC (mm P I1 J) 21 t c := CoastC_cg (M := mm P I J) (fun j hj => funext fun i => k1.1 _ i (by omega)) hC
  have cC := cellsC (mm_G hP) hL1
  have hv := kept_INV hI hS k1.1
  have e165 : xu I1 164 0 0 165 = I 165 := funext fun i => by rw [xu_o (by omega), k1.1 165 i (by omega)]
  have hA1 : LandA (xu I1 164 0 0 165) 0 t := by rw [e165]; exact hA
  have hD1 : CoastA (xu I1 164 0 0 165) 67 t c := by rw [e165]; exact hD
  by_cases h : 0 ≤ a1.toInt ∧ a1.toInt < tN t
  · obtain ⟨j, hj, rfl⟩ := cell_of h (by omega)
    have h9 := hc.1 j hj
    by_cases h8 : 0 < cSand c j
    · have k2 : ∀ k i, ¬ inD k i → (xu I1 22 j (nI (cSand c j - 1))) k i = I1 k i := fun k i h => xu_o (by unfold inD at h; omega)
      have C : F_X11_dig 0 (nI j) (mm P I J) = some (nI (cSand c j - 1), mm P (cfI (xu I1 22 j (nI (cSand c j - 1))) nx cs.length) J) := by
        simp (disch := omega) only [F_X11_dig, OC hP, AC, Option.bind_some, e1, cC, scoop_in hP (k := 21) (by decide) hw hc hC1 hj, if_pos h8, if_true, xu_self, confirmed_C hP p4 p2 p3 p1 k1 k2]
      have eA : (xu (cfI (xu I1 22 j (nI (cSand c j - 1))) nx cs.length) 164 0 0) 165 = I 165 := cf_165 p2 k1 k2
      have hA2 : LandA ((xu (cfI (xu I1 22 j (nI (cSand c j - 1))) nx cs.length) 164 0 0) 165) 0 t := by rw [eA]; exact hA
      have hD2 : CoastA ((xu (cfI (xu I1 22 j (nI (cSand c j - 1))) nx cs.length) 164 0 0) 165) 67 t c := by rw [eA]; exact hD
      have n8 : stI (cfI (xu I1 22 j (nI (cSand c j - 1))) nx cs.length) 165 108 = nI cs.length := by rw [st_165 p2 k1 k2]; exact p5
      have s1 : stI (cfI (xu I1 22 j (nI (cSand c j - 1))) nx cs.length) 165 (67 + j) = nI (cSand c j) := by rw [st_165 p2 k1 k2]; exact hD.1 j hj
      have n5 : (xu (stI (cfI (xu I1 22 j (nI (cSand c j - 1))) nx cs.length)) 165 (67 + j) (nI (cSand c j - 1))) 165 108 = nI cs.length := by rw [xu_o (by omega)]; exact n8
      have w : noteI (xu (stI (cfI (xu I1 22 j (nI (cSand c j - 1))) nx cs.length)) 165 (67 + j) (nI (cSand c j - 1))) cs.length 165 (67 + j) = nI (cSand c j - 1) := by
        rw [noteI_o p1 (by omega), xu_self]
      have hno : ¬ (cSand c j = (if (-1 : Int32) ≤ 0 then 0 else 9)) := by
        rw [if_pos (by decide)]; omega
      have st := stores_M hP (xu (cfI (xu I1 22 j (nI (cSand c j - 1))) nx cs.length) 164 0 0) J
      have st' : F_X12_stores 164 (mm P (xu (cfI (xu I1 22 j (nI (cSand c j - 1))) nx cs.length) 164 0 0) J) = some (mm P (stI (cfI (xu I1 22 j (nI (cSand c j - 1))) nx cs.length)) J) := st
      have ad : nI (cSand c j) + (-1 : Int32) = nI (cSand c j - 1) := by
        have e : nI (cSand c j) = nI (cSand c j - 1) + 1 := by rw [nI_1]; congr 1; omega
        rw [e, Int32.add_assoc]; exact Int32.add_zero _
      have D : F_X12_dig 164 (nI j) (mm P (cfI (xu I1 22 j (nI (cSand c j - 1))) nx cs.length) J) = some (nI (cSand c j - 1), mm P (noteI (xu (stI (cfI (xu I1 22 j (nI (cSand c j - 1))) nx cs.length)) 165 (67 + j) (nI (cSand c j - 1))) cs.length) J) := by
        simp (disch := omega) only [F_X12_dig, F_X12_heaps, OM hP, AM, Option.bind_some, whySand_in hP hw hc hA2 hD2 hj, if_neg hno, if_true, st', show (67 : Int32) = nI 67 from rfl, nI_add, s1, ad, notes_M hP _ J n5 p1, w]
      refine ⟨_, _, _, C, D, m_ck (by decide +kernel) _ _, m_ck (by decide +kernel) _ _, deed_all (c' := cHeap c j (cSand c j - 1)) hI hS k1 k2 (fun k i h => xu_o (by unfold inE at h; omega)) ?_ ?_ ?_⟩
      · refine ⟨fun i hi => ?_, hc.2.1, hc.2.2.1, hc.2.2.2.1, by have h1 : cMinute c ≤ 99 * n := hc.2.2.2.2; show cMinute c ≤ 99 * (n + 1); omega⟩
        show (if i = j then (cSand c j - 1) else cSand c i) ≤ 9
        have := hc.1 i hi
        split <;> omega
      · obtain ⟨g1, g2, g3, g4, g5, g6⟩ := CoI_iff.mp hC1
        refine CoI_iff.mpr ⟨fun i hi => ?_, ?_, fun i q hq => ⟨?_, ?_⟩, ?_, ?_, ?_⟩
        · show xu I1 22 j (nI (cSand c j - 1)) 22 i = nI (if i = j then (cSand c j - 1) else cSand c i)
          by_cases hij : i = j
          · subst hij; rw [xu_self, if_pos rfl]
          · rw [xu_o (by omega), if_neg hij]; exact g1 i hi
        · rw [xu_o (by omega)]; exact g2
        · rw [xu_o (by omega)]; exact (g3 i q hq).1
        · rw [xu_o (by omega)]; exact (g3 i q hq).2
        · rw [xu_o (by omega)]; exact g4
        · rw [xu_o (by omega)]; exact g5
        · rw [xu_o (by omega)]; exact g6
      · have e : ∀ i, i ≠ 67 + j → xu (stI (cfI (xu I1 22 j (nI (cSand c j - 1))) nx cs.length)) 165 (67 + j) (nI (cSand c j - 1)) 165 i = I 165 i := fun i hi => by rw [xu_o (by omega), st_165 p2 k1 k2]
        obtain ⟨g1, g2, g3, ⟨f, f1, f2, f3⟩, g5, g6⟩ := hD
        have hH := hc.2.1.1
        refine ⟨fun i hi => ?_, (e _ (by omega)).trans g2, fun i q hq => ?_, ⟨f, f1, (e _ (by omega)).trans f2, f3⟩, (e _ (by omega)).trans g5, (e _ (by omega)).trans g6⟩
        · show xu _ 165 (67 + j) _ 165 (67 + i) = nI (if i = j then (cSand c j - 1) else cSand c i)
          by_cases hij : i = j
          · subst hij; rw [xu_self, if_pos rfl]
          · rw [if_neg hij]; exact (e _ (by omega)).trans (g1 i hi)
        · have hl : i < (cHouses c).length := getlt hq
          exact ⟨(e _ (by omega)).trans (g3 i q hq).1, (e _ (by omega)).trans (g3 i q hq).2⟩
    · refine ⟨-12, mm P I1 J, thr (mm P I1 J), ?_, ?_, m_ck (by decide +kernel) _ _, m_ck (by decide +kernel) _ _, INV_mono _ _ (INV_Sc hv thr_Sc)⟩
      · simp only [F_X11_dig, OC hP, Option.bind_some, e1, cC, scoop_in hP (k := 21) (by decide) hw hc hC1 hj, if_neg h8]
        rw [if_neg (by decide)]
        rfl
      · have hno : cSand c j = (if (-1 : Int32) ≤ 0 then 0 else 9) := by
          rw [if_pos (by decide)]; omega
        simp only [F_X12_dig, F_X12_heaps, OM hP, Option.bind_some, thr_mm, whySand_in hP hw hc hA1 hD1 hj, if_pos hno]
        rw [if_neg (by decide)]
        rfl
  · refine ⟨-11, mm P I1 J, thr (mm P I1 J), ?_, ?_, m_ck (by decide +kernel) _ _, m_ck (by decide +kernel) _ _, INV_mono _ _ (INV_Sc hv thr_Sc)⟩
    · simp only [F_X11_dig, OC hP, Option.bind_some, e1, cC, scoop_no hw h, if_neg one_ne]
      rfl
    · simp only [F_X12_dig, F_X12_heaps, OM hP, Option.bind_some, thr_mm, whySand_no hP hw hA1 h, if_neg one_ne]
      rfl
