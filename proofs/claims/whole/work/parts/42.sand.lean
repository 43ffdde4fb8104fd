/-- a coast, in the table alone -/
def CoI (I : Nat → Nat → Int32) (k : Nat) (t : Txt) (c : Cst) : Prop :=
  (∀ i, i < tN t → I (k + 1) i = nI (cSand c i)) ∧ I k 3 = nI (cHouses c).length ∧ (∀ (h : Nat) (q : Nat × Nat), (cHouses c)[h]? = some q → I (k + 2) h = nI q.1 ∧ I (k + 3) h = nI q.2) ∧
  I k 4 = nI (cStand c) ∧ I k 5 = nI (cMoon c) ∧ I k 6 = nI (cMinute c)
theorem CoI_iff {P : Nat → Nat → Option Nat} {I : Nat → Nat → Int32} {J : Nat → Nat → Int64} {k : Nat} {t : Txt} {c : Cst} : CoastC (mm P I J) k t c ↔ CoI I k t c := Iff.rfl
/-! ===== moon ===== -/
def cSetMoon (c : Cst) (m : Nat) : Cst := (c.1, c.2.1, c.2.2.1, m, c.2.2.2.2)
theorem sim_moon (a1 : Int32) : xSim INV (F_X11_moon 0 a1) (F_X12_moon 164 a1) := by
  intro n M _ hI
  obtain ⟨P, I, J, rfl, hP⟩ := G_mm hI.1
  obtain ⟨t, c, cs, nx, hS⟩ := INV_sh hI
  have hS' := hS
  obtain ⟨hw, hL, hA, hc, hC, hD, p1, p2, p3, p4, p5, -⟩ := hS'
  obtain ⟨I1, e1, k1⟩ := keep_C hP I J p4 p2
  have z0 : (0 : Int64).toInt = 0 := by decide
  have z9 : (9 : Int64).toInt = 9 := by decide
  have y10 : (10 : Int32).toInt = 10 := by decide
  have r5 : I1 21 5 = nI (cMoon c) := by rw [k1.1 21 5 (by omega)]; exact hC.2.2.2.2.1
  by_cases h : 0 ≤ a1.toInt ∧ a1.toInt ≤ 9
  · obtain ⟨m, hm, rfl⟩ := cell_of (a := a1) (n := 10) (by omega) (by omega)
    have k2 : ∀ k i, ¬ inD k i → (xu I1 21 5 (nI m)) k i = I1 k i := fun k i h => xu_o (by unfold inD at h; omega)
    have hlt : nI m < (10 : Int32) := nI_lt (b := 10) hm (by omega)
    have C : F_X11_moon 0 (nI m) (mm P I J) = some (nI (cMoon c), mm P (cfI (xu I1 21 5 (nI m)) nx cs.length) J) := by
      simp only [F_X11_moon, OC hP, Option.bind_some, e1, F_X0_changeMoon, if_neg (nI_pos (n := m) (by omega)), if_pos hlt, r5, if_true, confirmed_C hP p4 p2 p3 p1 k1 k2]
    have n8 : stI (cfI (xu I1 21 5 (nI m)) nx cs.length) 165 108 = nI cs.length := by rw [st_165 p2 k1 k2]; exact p5
    have n5 : (xu (stI (cfI (xu I1 21 5 (nI m)) nx cs.length)) 165 106 (nI m)) 165 108 = nI cs.length := by rw [xu_o (by omega)]; exact n8
    have w39 : noteI (xu (stI (cfI (xu I1 21 5 (nI m)) nx cs.length)) 165 106 (nI m)) cs.length 173 39 = nI (cMoon c) := by
      rw [noteI_o p1 (by omega), xu_o (by omega), st_173 p2 (by omega) k1 k2]
      exact hD.2.2.2.2.1
    have D : F_X12_moon 164 (nI m) (mm P (cfI (xu I1 21 5 (nI m)) nx cs.length) J) = some (nI (cMoon c), mm P (noteI (xu (stI (cfI (xu I1 21 5 (nI m)) nx cs.length)) 165 106 (nI m)) cs.length) J) := by
      simp only [F_X12_moon, OM hP, Option.bind_some, within_lit, z0, z9, if_pos h, if_neg one_ne, stores_M hP]
      show ((xsI (mm P (stI (cfI (xu I1 21 5 (nI m)) nx cs.length)) J) 165 106 (nI m)).bind _) = _
      simp only [AM, Option.bind_some, OM hP, notes_M hP _ J n5 p1, w39]
    refine ⟨_, _, _, C, D, m_ck (by decide +kernel) _ _, m_ck (by decide +kernel) _ _, deed_all (c' := cSetMoon c m) hI hS k1 k2 (fun k i h => xu_o (by unfold inE at h; omega)) ?_ ?_ ?_⟩
    · exact ⟨hc.1, hc.2.1, hc.2.2.1, by show m ≤ 9; omega, by have h1 : cMinute c ≤ 99 * n := hc.2.2.2.2; show cMinute c ≤ 99 * (n + 1); omega⟩
    · obtain ⟨g1, g2, g3, g4, g5, g6⟩ := CoI_iff.mp hC
      have e : ∀ k i, ¬ (k = 21 ∧ i = 5) → ¬ (37 + 4 * nx ≤ k ∧ k ≤ 37 + 4 * nx + 3) → xu I1 21 5 (nI m) k i = I k i := fun k i h1 h2 => by rw [xu_o h1, k1.1 k i h2]
      refine CoI_iff.mpr ⟨fun i hi => ?_, ?_, fun i q hq => ⟨?_, ?_⟩, ?_, xu_self, ?_⟩
      · rw [e _ _ (by omega) (by omega)]; exact g1 i hi
      · rw [e _ _ (by omega) (by omega)]; exact g2
      · rw [e _ _ (by omega) (by omega)]; exact (g3 i q hq).1
      · rw [e _ _ (by omega) (by omega)]; exact (g3 i q hq).2
      · rw [e _ _ (by omega) (by omega)]; exact g4
      · rw [e _ _ (by omega) (by omega)]; exact g6
    · have e : ∀ i, i ≠ 106 → xu (stI (cfI (xu I1 21 5 (nI m)) nx cs.length)) 165 106 (nI m) 165 i = I 165 i := fun i hi => by rw [xu_o (by omega), st_165 p2 k1 k2]
      obtain ⟨g1, g2, g3, ⟨f, f1, f2, f3⟩, g5, g6⟩ := hD
      have hN := tN_le hw
      have hH := hc.2.1.1
      refine ⟨fun i hi => (e _ (by omega)).trans (g1 i hi), (e _ (by omega)).trans g2, fun i q hq => ?_, ⟨f, f1, (e _ (by omega)).trans f2, f3⟩, xu_self, (e _ (by omega)).trans g6⟩
      have hl := getlt hq
      have hl2 : i < (cHouses c).length := hl
      exact ⟨(e _ (by omega)).trans (g3 i q hq).1, (e _ (by omega)).trans (g3 i q hq).2⟩
  · have hv := kept_INV hI hS k1.1
    refine ⟨-11, mm P I1 J, thr (mm P I1 J), ?_, ?_, m_ck (by decide +kernel) _ _, m_ck (by decide +kernel) _ _, INV_mono _ _ (INV_Sc hv thr_Sc)⟩
    · have hch : F_X0_changeMoon 21 a1 (mm P I1 J) = some (1, mm P I1 J) := by
        unfold F_X0_changeMoon
        by_cases h0 : a1 < 0
        · rw [if_pos h0]
        · have h1 := toInt_nneg h0
          have hnl : ¬ a1 < (10 : Int32) := fun z => by
            have := Int32.lt_iff_toInt_lt.mp z
            omega
          rw [if_neg h0, if_neg hnl]
      simp only [F_X11_moon, OC hP, Option.bind_some, e1, hch, if_neg one_ne]
      rfl
    · simp only [F_X12_moon, OM hP, Option.bind_some, within_lit, z0, z9, if_neg h, if_true, thr_mm]
/-! ===== raise, dig ===== -/
def cHeap (c : Cst) (j v : Nat) : Cst := (fun i => if i = j then v else cSand c i, c.2.1, c.2.2.1, c.2.2.2.1, c.2.2.2.2)
theorem heap_no {t : Txt} (hw : wfT t) {k : Nat} {a : Int32} (h : ¬ (0 ≤ a.toInt ∧ a.toInt < tN t)) (M : xM) : F_X0_heap k a (nI (tN t)) M = some (1, M) := by
  have hN := tN_le hw
  have e : (nI (tN t)).toInt = (tN t : Int) := nI_toInt (by omega)
  unfold F_X0_heap
  by_cases h0 : a < 0
  · rw [if_pos h0]
  · have h1 := toInt_nneg h0
    rw [if_neg h0, if_pos (Int32.le_iff_toInt_le.mpr (by rw [e]; omega))]
theorem scoop_no {t : Txt} (hw : wfT t) {k : Nat} {a : Int32} (h : ¬ (0 ≤ a.toInt ∧ a.toInt < tN t)) (M : xM) : F_X0_scoop k a (nI (tN t)) M = some (1, M) := by
  have hN := tN_le hw
  have e : (nI (tN t)).toInt = (tN t : Int) := nI_toInt (by omega)
  unfold F_X0_scoop
  by_cases h0 : a < 0
  · rw [if_pos h0]
  · have h1 := toInt_nneg h0
    rw [if_neg h0, if_pos (Int32.le_iff_toInt_le.mpr (by rw [e]; omega))]
theorem heap_in {P : Nat → Nat → Option Nat} (hP : GP P) {I : Nat → Nat → Int32} {J : Nat → Nat → Int64} {t : Txt} {c : Cst} {n k : Nat} (hk : k ∈ coastL) (hw : wfT t) (hc : wfC t c n) (hC : CoastC (mm P I J) k t c) {j : Nat} (hj : j < tN t) : F_X0_heap k (nI j) (nI (tN t)) (mm P I J) = some (if cSand c j < 9 then (0, mm P (xu I (k + 1) j (nI (cSand c j + 1))) J) else (2, mm P I J)) := by
  have hN := tN_le hw
  have h9 := hc.1 j hj
  have g1 : I (k + 1) j = nI (cSand c j) := hC.1 j hj
  have h25 : nI j < (25 : Int32) := nI_lt (b := 25) (by omega) (by omega)
  simp (disch := omega) only [F_X0_heap, if_neg (nI_pos (n := j) (by omega)), if_neg (nI_ge hj (by omega)), if_pos h25, OK_ hP hk, Option.bind_some, g1, show (9 : Int32) = nI 9 from rfl, nI_ltI, nI_1]
  split <;> rfl
theorem scoop_in {P : Nat → Nat → Option Nat} (hP : GP P) {I : Nat → Nat → Int32} {J : Nat → Nat → Int64} {t : Txt} {c : Cst} {n k : Nat} (hk : k ∈ coastL) (hw : wfT t) (hc : wfC t c n) (hC : CoastC (mm P I J) k t c) {j : Nat} (hj : j < tN t) : F_X0_scoop k (nI j) (nI (tN t)) (mm P I J) = some (if 0 < cSand c j then (0, mm P (xu I (k + 1) j (nI (cSand c j - 1))) J) else (2, mm P I J)) := by
  have hN := tN_le hw
  have h9 := hc.1 j hj
  have g1 : I (k + 1) j = nI (cSand c j) := hC.1 j hj
  have h25 : nI j < (25 : Int32) := nI_lt (b := 25) (by omega) (by omega)
  simp (disch := omega) only [F_X0_scoop, if_neg (nI_pos (n := j) (by omega)), if_neg (nI_ge hj (by omega)), if_pos h25, OK_ hP hk, Option.bind_some, g1]
  by_cases h : 0 < cSand c j
  · have h1 : (0 : Int32) < nI (cSand c j) := nI_lt (a := 0) h (by omega)
    have h2 : nI (cSand c j) - 1 = nI (cSand c j - 1) := pk_sub (b := 1) (by omega)
    rw [if_pos h1, if_pos h, h2]
  · have h1 : ¬ (0 : Int32) < nI (cSand c j) := nI_nlt (b := cSand c j) (a := 0) (by omega) (by omega)
    rw [if_neg h1, if_neg h]
theorem whySand_no {P : Nat → Nat → Option Nat} (hP : GP P) {I : Nat → Nat → Int32} {J : Nat → Nat → Int64} {t : Txt} (hw : wfT t) (hA : LandA (I 165) 0 t) {a : Int32} (h : ¬ (0 ≤ a.toInt ∧ a.toInt < tN t)) (b : Int32) : F_X12_whySand 164 a.toInt64 b (mm P I J) = some (1, mm P I J) := by
  simp only [F_X12_whySand, OM hP, Option.bind_some, isCellM (mm_G hP) hw (show LandA ((mm P I J).2.1 165) 0 t from hA), if_neg h, if_true]
theorem whySand_in {P : Nat → Nat → Option Nat} (hP : GP P) {I : Nat → Nat → Int32} {J : Nat → Nat → Int64} {t : Txt} {c : Cst} {n : Nat} (hw : wfT t) (hc : wfC t c n) (hA : LandA (I 165) 0 t) (hD : CoastA (I 165) 67 t c) {j : Nat} (hj : j < tN t) (b : Int32) : F_X12_whySand 164 (nI j).toInt64 b (mm P I J) = some (if cSand c j = (if b ≤ 0 then 0 else 9) then 2 else 0, mm P I J) := by
  have hN := tN_le hw
  have h9 := hc.1 j hj
  have e : (nI j).toInt = (j : Int) := nI_toInt (by omega)
  have h : 0 ≤ (nI j).toInt ∧ (nI j).toInt < tN t := by omega
  have e2 : (nI j).toInt64.toInt32 = nI j := by simp
  have g1 := hD.1 j hj
  simp (disch := omega) only [F_X12_whySand, F_X12_whySand_30, OM hP, AM, Option.bind_some, isCellM (mm_G hP) hw (show LandA ((mm P I J).2.1 165) 0 t from hA), if_pos h, if_neg one_ne, e2, show (67 : Int32) = nI 67 from rfl, nI_add, g1]
  by_cases hb : b ≤ 0
  · have q : nI (cSand c j) = 0 ↔ cSand c j = 0 := nI_eqI (b := 0) (by omega) (by omega)
    simp only [if_pos hb, q]
    split <;> rfl
  · have q : nI (cSand c j) = 9 ↔ cSand c j = 9 := nI_eqI (b := 9) (by omega) (by omega)
    simp only [if_neg hb, q]
    split <;> rfl
