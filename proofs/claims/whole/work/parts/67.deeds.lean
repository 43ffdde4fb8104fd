theorem whyBuild_M {P : Nat → Nat → Option Nat} (hP : GP P) {I : Nat → Nat → Int32} {J : Nat → Nat → Int64} {t : Txt} {c : Cst} {n : Nat} (hw : wfT t) (hc : wfC t c n) (hA : LandA (I 165) 0 t) (hD : CoastA (I 165) 67 t c) (a b : Int32) : F_X12_whyBuild 164 a.toInt64 b.toInt64 (mm P I J) = some (nI (whyB t c a.toInt b.toInt), mm P I J) := by
  have hN := tN_le hw
  have hl := hc.2.1.1
  have z0 : (0 : Int64).toInt = 0 := by decide
  have z4 : (4 : Int64).toInt = 4 := by decide
  have b1 : I 165 92 = nI (cHouses c).length := hD.2.1
  have ic := isCellM (mm_G (I := I) (J := J) hP) hw (show LandA ((mm P I J).2.1 165) 0 t from hA) a
  unfold F_X12_whyBuild whyB
  by_cases h1 : 0 ≤ a.toInt ∧ a.toInt < tN t
  · rw [if_pos h1] at ic
    by_cases h2 : 0 ≤ b.toInt ∧ b.toInt < 5
    · obtain ⟨x, hx, rfl⟩ := cell_of h1 (by omega)
      rw [if_pos ⟨h1, h2⟩]
      have e32 : (nI x).toInt64.toInt32 = nI x := by simp
      have hm := held_M hP (J := J) hw hc hD (x := x) (by omega)
      have h2' : 0 ≤ b.toInt ∧ b.toInt ≤ 4 := by omega
      simp only [↓bOM hP, ↓bs ic, ↓reduceIte, one_ne, within_lit, z0, z4, h2', and_self, ↓Option.bind_some, ↓bAM, b1]
      have e6 : nI (cHouses c).length = (6 : Int32) ↔ (cHouses c).length = 6 := nI_eqI (b := 6) (by omega) (by omega)
      rw [nI_toInt (by omega), Int.toNat_natCast]
      by_cases h6 : (cHouses c).length = 6
      · rw [if_pos (e6.mpr h6), if_pos h6]; rfl
      · rw [if_neg (fun z => h6 (e6.mp z)), if_neg h6, e32]
        simp only [↓bOM hP, ↓bs hm]
        cases heldN c x (cHouses c).length <;> rfl
    · have h2' : ¬ (0 ≤ b.toInt ∧ b.toInt ≤ 4) := by omega
      rw [if_neg (fun z => h2 z.2)]
      simp only [↓bOM hP, ↓bs ic, ↓reduceIte, one_ne, within_lit, z0, z4, if_neg h2', ↓Option.bind_some]
      rfl
  · rw [if_neg h1] at ic
    rw [if_neg (fun z => h1 z.1)]
    simp only [↓bOM hP, ↓bs ic, ↓reduceIte]
    rfl
theorem builds_M {P : Nat → Nat → Option Nat} (hP : GP P) {I : Nat → Nat → Int32} {J : Nat → Nat → Int64} {t : Txt} {c : Cst} {n x o : Nat} (hw : wfT t) (hc : wfC t c n) (hD : CoastA (I 165) 67 t c) (hl : (cHouses c).length < 6) : ∃ I', F_X12_builds 164 (nI x) (nI o) (mm P I J) = some (mm P I' J) ∧ (∀ y i, ¬ (y = 165 ∧ 92 ≤ i ∧ i < 106) → I' y i = I y i) ∧ CoastA (I' 165) 67 t (cBuild c x o) := by
  have hN := tN_le hw
  obtain ⟨g1, b1', b2, ⟨f, f1, f2', f3⟩, g5, g6⟩ := hD
  have b1 : I 165 92 = nI (cHouses c).length := b1'
  have f2 : I 165 105 = nI f := f2'
  have e93 : (93 : Int32) + (2 : Int32) * nI (cHouses c).length = nI (93 + 2 * (cHouses c).length) := by rw [show (2 : Int32) = nI 2 from rfl, pk_mul]; exact nI_add 93 (2 * (cHouses c).length)
  have p6 : 2 ^ (cHouses c).length < 2 ^ 6 := Nat.pow_lt_pow_right (by omega) hl
  refine ⟨xu (xu (xu (xu I 165 (93 + 2 * (cHouses c).length) (nI x)) 165 (93 + 2 * (cHouses c).length + 1) (nI o)) 165 105 (nI (anot f (2 ^ (cHouses c).length)))) 165 92 (nI ((cHouses c).length + 1)), ?_, fun y i hy => by rw [xu_o (by omega), xu_o (by omega), xu_o (by omega), xu_o (by omega)], fun i hi => ?_, ?_, fun i q hq => ?_, ⟨anot f (2 ^ (cHouses c).length), anot_lt (n := 6) f1, ?_, fun h hh => ?_⟩, ?_, ?_⟩
  · have y1 : xu (xu I 165 (93 + 2 * (cHouses c).length) (nI x)) 165 (93 + 2 * (cHouses c).length + 1) (nI o) 165 105 = nI f := by rw [xu_o (by omega), xu_o (by omega)]; exact f2
    have y2 : ∀ v, xu (xu (xu I 165 (93 + 2 * (cHouses c).length) (nI x)) 165 (93 + 2 * (cHouses c).length + 1) (nI o)) 165 105 v 165 92 = nI (cHouses c).length := fun v => by rw [xu_o (by omega), xu_o (by omega), xu_o (by omega)]; exact b1
    unfold F_X12_builds
    simp only [↓bOM hP, ↓bAM, b1]
    simp only [e93, nI_1]
    simp (disch := omega) only [↓bOM hP, ↓bAM, y1, y2, one_shl, anotN, nI_1]
  · rw [xu_o (by omega), xu_o (by omega), xu_o (by omega), xu_o (by omega)]
    exact g1 i hi
  · rw [xu_self]
    show _ = nI (cHouses c ++ [(x, o)]).length
    rw [List.length_append]
    rfl
  · have hq' : (cHouses c ++ [(x, o)])[i]? = some q := hq
    by_cases hi : i < (cHouses c).length
    · rw [List.getElem?_append_left hi] at hq'
      rw [xu_o (by omega), xu_o (by omega), xu_o (by omega), xu_o (by omega), xu_o (by omega), xu_o (by omega), xu_o (by omega), xu_o (by omega)]
      exact b2 i q hq'
    · have hi2 := getlt hq'
      rw [List.length_append] at hi2
      have hi3 : i < (cHouses c).length + 1 := hi2
      have hi4 : i = (cHouses c).length := by omega
      subst hi4
      rw [List.getElem?_append_right (Nat.le_refl _), Nat.sub_self] at hq'
      cases hq'
      constructor
      · rw [xu_o (by omega), xu_o (by omega), xu_o (by omega), show 67 + 26 + 2 * (cHouses c).length = 93 + 2 * (cHouses c).length by omega, xu_self]
      · rw [xu_o (by omega), xu_o (by omega), show 67 + 27 + 2 * (cHouses c).length = 93 + 2 * (cHouses c).length + 1 by omega, xu_self]
  · rw [xu_o (by omega), xu_self]
  · have hh' : h < (cHouses c ++ [(x, o)]).length := hh
    rw [List.length_append] at hh'
    have hh2 : h < (cHouses c).length + 1 := hh'
    show _ = !(cStand c ||| 2 ^ (cHouses c).length).testBit h
    rw [anot_bit, Nat.testBit_or, Nat.testBit_two_pow]
    by_cases e : (cHouses c).length = h
    · rw [decide_eq_true e]
      simp
    · rw [decide_eq_false e, f3 h (by omega)]
      simp
  · rw [xu_o (by omega), xu_o (by omega), xu_o (by omega), xu_o (by omega)]
    exact g5
  · rw [xu_o (by omega), xu_o (by omega), xu_o (by omega), xu_o (by omega)]
    exact g6
theorem goesMin_M {P : Nat → Nat → Option Nat} (hP : GP P) {I : Nat → Nat → Int32} {J : Nat → Nat → Int64} {t : Txt} {c : Cst} {n m : Nat} (hw : wfT t) (hc : wfC t c n) (hn : n < 1000) (hA : LandA (I 165) 0 t) (hD : CoastA (I 165) 67 t c) (hm : m ≤ 99) : ∃ I', F_X12_goesMinutes 164 (nI m) (mm P I J) = some (mm P I' J) ∧ (∀ y i, ¬ (y = 165 ∧ 67 ≤ i ∧ i < 108) → ¬ (y = 164 ∧ (i = 20 ∨ i = 21)) → y ≠ 169 → y ≠ 170 → y ≠ 171 → y ≠ 172 → I' y i = I y i) ∧ CoastA (I' 165) 67 t (itS t c m) := by
  have hN := tN_le hw
  have hl := hc.2.1.1
  obtain ⟨I1, h1, h2⟩ := goesFor_M hP (J := J) hw hc hn hA hD hm
  obtain ⟨o1, ⟨f, f1, f2, f3⟩, o3⟩ := h2.2
  have hH := HsM_fr (I' := I1) (fun i => h2.1 165 i (by omega) (by omega) (by omega) (by omega) (by omega)) (HsM_it (t := t) (HsM_of hD) m)
  obtain ⟨s1, s2, s3⟩ := hH
  have hl2 : (cHouses (itS t c m)).length ≤ 6 := by rw [(it_houses t c m).1]; exact hl
  refine ⟨xu (xu (cpx I1 165 67 171 0 25) 165 105 (nI f)) 165 107 (nI (cMinute (itS t c m))), ?_, fun y i g1 g2 g3 g4 g5 g6 => by rw [xu_o (by omega), xu_o (by omega), cpx_o (by omega), h2.1 y i g2 g3 g4 g5 g6], fun i hi => ?_, ?_, fun i q hq => ?_, ⟨f, f1, ?_, f3⟩, ?_, ?_⟩
  · unfold F_X12_goesMinutes F_X12_goesMinutes_7
    simp only [↓bOM hP, ↓bs h1]
    refine cp_loop 165 67 171 0 25 (by omega) (fun j hj => ?_) ?_ (by omega)
    · have c1 : ¬ (25 : Int32) ≤ nI j := nI_ge (b := 25) hj (by omega)
      have e67 : (67 : Int32) + nI j = nI (67 + j) := nI_add 67 j
      unfold F_X12_goesMinutes_7b
      simp only [e67]
      simp (disch := omega) only [↓reduceIte, c1, ↓bOM hP, ↓bAM, nI_1, Nat.zero_add]
    · have c1 : (25 : Int32) ≤ nI 25 := by decide
      have y1 : cpx I1 165 67 171 0 25 164 20 = nI f := by rw [cpx_o (by omega)]; exact f2
      have y2 : xu (cpx I1 165 67 171 0 25) 165 105 (nI f) 164 21 = nI (cMinute (itS t c m)) := by rw [xu_o (by omega), cpx_o (by omega)]; exact o3
      simp only [F_X12_goesMinutes_7b, F_X12_goesMinutes_34, ↓reduceIte, c1, ↓bOM hP, ↓bAM, y1, y2, Option.map_some]
  · rw [xu_o (by omega), xu_o (by omega), cpx_in (by omega), Nat.zero_add]
    exact o1 i hi
  · rw [xu_o (by omega), xu_o (by omega), cpx_o (by omega)]
    exact s1
  · have hil : i < (cHouses (itS t c m)).length := getlt hq
    rw [xu_o (by omega), xu_o (by omega), cpx_o (by omega), xu_o (by omega), xu_o (by omega), cpx_o (by omega)]
    exact s2 i q hq
  · rw [xu_o (by omega), xu_self]
  · rw [xu_o (by omega), xu_o (by omega), cpx_o (by omega)]
    exact s3
  · rw [xu_self]
theorem stores_t {P : Nat → Nat → Option Nat} (hP : GP P) {I : Nat → Nat → Int32} {J : Nat → Nat → Int64} : F_X12_stores 164 (mm P (xu I 164 0 0) J) = some (mm P (stI I) J) := stores_M hP (xu I 164 0 0) J
theorem sim_build (a1 a2 : Int32) : xSim INV (F_X11_build 0 a1 a2) (F_X12_build 164 a1 a2) := by
  intro n M hn hI
  obtain ⟨P, I, J, rfl, hP⟩ := G_mm hI.1
  obtain ⟨t, c, cs, nx, hS⟩ := INV_sh hI
  have hS' := hS
  obtain ⟨hw, hL, hA, hc, hC, hD, p1, p2, p3, p4, p5, -⟩ := hS'
  obtain ⟨I1, e1, k1⟩ := keep_C hP I J p4 p2
  have hL1 : LandC (mm P I1 J) 14 t := LandC_I (fun a i _ _ => k1.1 a i (by omega)) hL
  have hC1 : CoI I1 21 t c := CoI_fr (fun a i _ _ => k1.1 a i (by omega)) (CoI_iff.mp hC)
  have cC := cellsC (mm_G hP) hL1
  obtain ⟨I2, s1, s2, s3, s4⟩ := settle_C hP (I := I1) (J := J) (k := 21) (by decide) hw hc hC1 a1 a2
  by_cases h : whyB t c a1.toInt a2.toInt = 0
  · obtain ⟨x, o, rfl, rfl, hx, ho, hl, s5⟩ := s4 h
    rw [h] at s1
    have k2 : ∀ k i, ¬ inD k i → I2 k i = I1 k i := fun k i hh => s3 k i (by unfold inD at hh; omega)
    have s1' : F_X0_settle 21 (nI x) (nI o) (nI (tN t)) (mm P I1 J) = some (0, mm P I2 J) := s1
    have hs3 : I2 21 3 = nI ((cHouses c).length + 1) := by
      have := s5.2.1
      rw [this]
      show nI (cHouses c ++ [(x, o)]).length = _
      rw [List.length_append]
      rfl
    have C : F_X11_build 0 (nI x) (nI o) (mm P I J) = some (nI (cHouses c).length, mm P (cfI I2 nx cs.length) J) := by
      unfold F_X11_build
      simp only [↓bOC hP, ↓bs e1, ↓bs cC, ↓bs s1', ↓reduceIte, hs3]
      simp only [nI_dn1]
      simp only [↓bs (confirmed_C (J := J) hP p4 p2 p3 p1 k1 k2 _)]
    have eA : (xu (cfI I2 nx cs.length) 164 0 0) 165 = I 165 := cf_165 p2 k1 k2
    have eB : stI (cfI I2 nx cs.length) 165 = I 165 := st_165 p2 k1 k2
    have hA2 : LandA ((xu (cfI I2 nx cs.length) 164 0 0) 165) 0 t := by rw [eA]; exact hA
    have hD2 : CoastA ((xu (cfI I2 nx cs.length) 164 0 0) 165) 67 t c := by rw [eA]; exact hD
    have wb := whyBuild_M hP (J := J) hw hc hA2 hD2 (nI x) (nI o)
    rw [h] at wb
    have wb' : F_X12_whyBuild 164 (nI x).toInt64 (nI o).toInt64 (mm P (xu (cfI I2 nx cs.length) 164 0 0) J) = some (0, mm P (xu (cfI I2 nx cs.length) 164 0 0) J) := wb
    have hD3 : CoastA (stI (cfI I2 nx cs.length) 165) 67 t c := by rw [eB]; exact hD
    obtain ⟨I5, q1, q2, q3⟩ := builds_M hP (I := stI (cfI I2 nx cs.length)) (J := J) (x := x) (o := o) hw hc hD3 hl
    have n5 : I5 165 108 = nI cs.length := by rw [q2 165 108 (by omega), eB]; exact p5
    have w92 : noteI I5 cs.length 165 92 = nI ((cHouses c).length + 1) := by
      rw [noteI_o p1 (by omega)]
      have := q3.2.1
      rw [this]
      show nI (cHouses c ++ [(x, o)]).length = _
      rw [List.length_append]
      rfl
    have D : F_X12_build 164 (nI x) (nI o) (mm P (cfI I2 nx cs.length) J) = some (nI (cHouses c).length, mm P (noteI I5 cs.length) J) := by
      unfold F_X12_build
      simp only [↓bOM hP, ↓bs wb', ↓reduceIte, ↓bs (stores_t hP), ↓bs q1, ↓bs (notes_M hP _ J n5 p1), ↓bAM, w92, nI_dn1]
    refine ⟨_, _, _, C, D, m_ck (by decide +kernel) _ _, m_ck (by decide +kernel) _ _, deed_all (c' := cBuild c x o) hI hS k1 k2 (fun k i hh => q2 k i (by unfold inE at hh; omega)) (build_wf hc (by omega) hx ho hl) s5 q3⟩
  · have e2 := s2 h
    subst e2
    have hv := kept_INV hI hS k1.1
    have e165 : xu I2 164 0 0 165 = I 165 := funext fun i => by rw [xu_o (by omega), k1.1 165 i (by omega)]
    have wb := whyBuild_M hP (I := xu I2 164 0 0) (J := J) hw hc (by rw [e165]; exact hA) (by rw [e165]; exact hD) a1 a2
    have wlt : whyB t c a1.toInt a2.toInt ≤ 3 := by
      unfold whyB
      repeat' split
      all_goals omega
    have nz : ¬ nI (whyB t c a1.toInt a2.toInt) = 0 := nI_ne0 (by omega) (by omega)
    refine ⟨-10 - nI (whyB t c a1.toInt a2.toInt), mm P I2 J, thr (mm P I2 J), ?_, ?_, m_ck (by decide +kernel) _ _, m_ck (by decide +kernel) _ _, INV_mono _ _ (INV_Sc hv thr_Sc)⟩
    · unfold F_X11_build
      simp only [↓bOC hP, ↓bs e1, ↓bs cC, ↓bs s1, ↓reduceIte, nz]
    · unfold F_X12_build
      simp only [↓bOM hP, ↓bs wb, ↓reduceIte, nz, thr_mm]
/-- ticks of the coast itself -/
theorem now_ticks {P : Nat → Nat → Option Nat} (hP : GP P) {I : Nat → Nat → Int32} {J : Nat → Nat → Int64} {t : Txt} {c : Cst} {n : Nat} (hw : wfT t) (hc : wfC t c n) (hn : n < 1000) (hL : LandC (mm P I J) 14 t) {j : Nat} (hj : j < 99) {I1 : Nat → Nat → Int32} (h : (∀ a i, ¬ inD a i → I1 a i = I a i) ∧ CoI I1 21 t (itS t c j)) : ∃ I', F_X8_tick 29 14 21 (mm P I1 J) = some (nI (wetJ t c j), mm P I' J) ∧ (∀ a i, ¬ inD a i → I' a i = I a i) ∧ CoI I' 21 t (itS t c (j + 1)) := by
  obtain ⟨I', h1, h2, h3⟩ := tick_C hP (I := I1) (J := J) (k := 21) (by decide) hw (it_wf hc j (by omega)) (by omega) (LandC_I (fun a i _ _ => h.1 a i (by unfold inD scr; omega)) hL) h.2
  refine ⟨I', h1, fun a i g => ?_, h3⟩
  rw [← h.1 a i g]
  unfold inD scr at g
  exact h2 a i (by omega) (by omega) (by omega) (by omega)
theorem sim_minutes (a1 : Int32) : xSim INV (F_X11_minutes 0 a1) (F_X12_minutes 164 a1) := by
  intro n M hn hI
  obtain ⟨P, I, J, rfl, hP⟩ := G_mm hI.1
  obtain ⟨t, c, cs, nx, hS⟩ := INV_sh hI
  have hS' := hS
  obtain ⟨hw, hL, hA, hc, hC, hD, p1, p2, p3, p4, p5, -⟩ := hS'
  obtain ⟨I1, e1, k1⟩ := keep_C hP I J p4 p2
  have z1 : (1 : Int64).toInt = 1 := by decide
  have z99 : (99 : Int64).toInt = 99 := by decide
  have y1 : (1 : Int32).toInt = 1 := by decide
  have y99 : (99 : Int32).toInt = 99 := by decide
  by_cases h : 1 ≤ a1.toInt ∧ a1.toInt ≤ 99
  · obtain ⟨m, hm, rfl⟩ := cell_of (a := a1) (n := 100) (by omega) (by omega)
    have hm1 : 1 ≤ m := by
      have := h.1
      rw [nI_toInt (by omega)] at this
      omega
    have hL1 : LandC (mm P I1 J) 14 t := LandC_I (fun a i _ _ => k1.1 a i (by omega)) hL
    have hC1 : CoI I1 21 t c := CoI_fr (fun a i _ _ => k1.1 a i (by omega)) (CoI_iff.mp hC)
    have wm := it_wf hc m (by omega)
    have slt := stand_lt wm
    have key : ∃ r : Int32 × xM, xit (F_X11_minutes_27b 0 (nI m)) xFU (nI 0, mm P I1 J) = some r ∧ (∃ I2, r = (nI (cntN (cStand (itS t c m)) 25), mm P (cfI I2 nx cs.length) J) ∧ (∀ a i, ¬ inD a i → I2 a i = I1 a i) ∧ CoI I2 21 t (itS t c m)) := by
      refine xit_inv (fun j z => ∃ I2, z = (nI j, mm P I2 J) ∧ (∀ a i, ¬ inD a i → I2 a i = I1 a i) ∧ CoI I2 21 t (itS t c j)) _ m ⟨I1, rfl, fun _ _ _ => rfl, hC1⟩ (fun j z hj hq => ?_) (fun z hq => ?_) (by omega)
      · obtain ⟨I2, rfl, q1⟩ := hq
        left
        obtain ⟨I3, t1, t2⟩ := now_ticks hP (J := J) hw hc (by omega) hL1 (j := j) (by omega) q1
        refine ⟨(nI (j + 1), mm P I3 J), ?_, I3, rfl, t2⟩
        simp only [F_X11_minutes_27b, ↓reduceIte, nI_ge hj (show m < 2 ^ 31 by omega), ↓bOC hP, ↓bs t1, nI_1]
      · obtain ⟨I2, rfl, q1, q2⟩ := hq
        have e1' : I2 35 1 = nI nx := by rw [q1 35 1 (by unfold inD scr; omega), k1.1 35 1 (by omega)]; exact p4
        have e0' : I2 35 0 = nI cs.length := by rw [q1 35 0 (by unfold inD scr; omega), k1.1 35 0 (by omega)]; exact p3
        have cf : F_X5_confirm 35 (mm P I2 J) = some (mm P (cfI I2 nx cs.length) J) := confirm_C hP I2 J e1' p2 e0' p1
        have s4 : cfI I2 nx cs.length 21 4 = nI (cStand (itS t c m)) := by
          rw [cfI, xu_o (by omega), xu_o (by omega)]
          exact q2.2.2.2.1
        have bc := bitCount_C (m := cStand (itS t c m)) (by omega) (mm P (cfI I2 nx cs.length) J)
        refine ⟨(nI (cntN (cStand (itS t c m)) 25), mm P (cfI I2 nx cs.length) J), ?_, I2, rfl, q1, q2⟩
        simp only [F_X11_minutes_27b, F_X11_minutes_54, ↓reduceIte, nI_le (Nat.le_refl m) (show m < 2 ^ 31 by omega), ↓bOC hP, ↓bs cf, s4, ↓bs bc, Option.map_some]
    obtain ⟨r, g1, I2, rfl, k2, g3⟩ := key
    have C : F_X11_minutes 0 (nI m) (mm P I J) = some (nI (cntN (cStand (itS t c m)) 25), mm P (cfI I2 nx cs.length) J) := by
      have c1 : ¬ nI m < (1 : Int32) := nI_nlt (b := 1) (by omega) (by omega)
      have c2 : nI m ≤ (99 : Int32) := nI_le (b := 99) (by omega) (by omega)
      unfold F_X11_minutes F_X11_minutes_27
      simp only [↓reduceIte, c1, c2, ↓bOC hP, ↓bs e1]
      rw [show (0 : Int32) = nI 0 from rfl]
      exact g1
    have eB : stI (cfI I2 nx cs.length) 165 = I 165 := st_165 p2 k1 k2
    have hA3 : LandA (stI (cfI I2 nx cs.length) 165) 0 t := by rw [eB]; exact hA
    have hD3 : CoastA (stI (cfI I2 nx cs.length) 165) 67 t c := by rw [eB]; exact hD
    obtain ⟨I5, q1, q2, q3⟩ := goesMin_M hP (I := stI (cfI I2 nx cs.length)) (J := J) (m := m) hw hc (by omega) hA3 hD3 (by omega)
    have n5 : I5 165 108 = nI cs.length := by rw [q2 165 108 (by omega) (by omega) (by omega) (by omega) (by omega) (by omega), eB]; exact p5
    have hD6 : CoastA (noteI I5 cs.length 165) 67 t (itS t c m) := CoastA_cg (A := I5 165) hw wm (fun i hi => noteI_o p1 (by omega)) q3
    have st := standingM (mm_G (I := noteI I5 cs.length) (J := J) hP) wm (show CoastA ((mm P (noteI I5 cs.length) J).2.1 165) 67 t (itS t c m) from hD6)
    have bo := bitsOf_M (m := cStand (itS t c m)) (by omega) (mm P (noteI I5 cs.length) J)
    have D : F_X12_minutes 164 (nI m) (mm P (cfI I2 nx cs.length) J) = some (nI (cntN (cStand (itS t c m)) 25), mm P (noteI I5 cs.length) J) := by
      unfold F_X12_minutes
      simp only [↓bOM hP, within_lit, z1, z99, h, and_self, ↓reduceIte, ↓Option.bind_some, one_ne, ↓bs (stores_t hP), ↓bs q1, ↓bs (notes_M hP _ J n5 p1), ↓bs st, ↓bs bo]
    refine ⟨_, _, _, C, D, m_ck (by decide +kernel) _ _, m_ck (by decide +kernel) _ _, deed_all (c' := itS t c m) hI hS k1 k2 (fun k i hh => q2 k i ?_ ?_ ?_ ?_ ?_ ?_) wm g3 q3⟩
    all_goals (unfold inE scr at hh; omega)
  · refine ⟨-3, mm P I J, thr (mm P I J), ?_, ?_, m_ck (by decide +kernel) _ _, m_ck (by decide +kernel) _ _, INV_mono _ _ (INV_Sc hI thr_Sc)⟩
    · unfold F_X11_minutes
      by_cases h0 : a1 < (1 : Int32)
      · rw [if_pos h0]
      · have h1 : ¬ a1.toInt < (1 : Int32).toInt := fun z => h0 (Int32.lt_iff_toInt_lt.mpr z)
        rw [if_neg h0, if_neg (show ¬ a1 ≤ (99 : Int32) from fun z => by have := Int32.le_iff_toInt_le.mp z; omega)]
    · simp only [F_X12_minutes, ↓bOM hP, within_lit, ↓Option.bind_some, z1, z99, if_neg h, ↓reduceIte, thr_mm]
