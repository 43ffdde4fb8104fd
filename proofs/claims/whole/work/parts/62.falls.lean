/-! ===== worn ===== -/
theorem sim_worn (a1 a2 : Int32) : xSim INV (F_X11_worn 0 a1 a2) (F_X12_worn 164 a1 a2) := by
  refine xSim_qn fun n M hn hI => ?_
  obtain ⟨P, I, J, rfl, hP⟩ := G_mm hI.1
  obtain ⟨t, c, cs, nx, hw, hL, hA, hc, hC, hD, -⟩ := INV_sh hI
  have hN := tN_le hw
  have z0 : (0 : Int64).toInt = 0 := by decide
  have z60 : (60 : Int64).toInt = 60 := by decide
  have ic := isCellC (mm_G (I := I) (J := J) hP) hw hL a1
  have hA0 : LandA (xu I 164 0 0 165) 0 t := LandA_cg (A := I 165) hw (fun x _ => xu_o (by omega)) hA
  have im := isCellM (mm_G (I := xu I 164 0 0) (J := J) hP) hw (show LandA ((mm P (xu I 164 0 0) J).2.1 165) 0 t from hA0) a1
  by_cases hx : 0 ≤ a1.toInt ∧ a1.toInt < tN t
  · have hin := hx
    rw [if_pos hx] at ic im
    obtain ⟨x, hxN, rfl⟩ := cell_of hx (by omega)
    by_cases h : 0 ≤ a2.toInt ∧ a2.toInt ≤ 60
    · obtain ⟨m, hm, rfl⟩ := cell_of (a := a2) (n := 61) (by omega) (by omega)
      obtain ⟨I1, q1, q2⟩ := goOn_C hP (I := I) (J := J) hw hc (by omega) hL hC (m := m) (by omega)
      have e165 : ∀ i, xu I1 164 0 0 165 i = I 165 i := fun i => by rw [xu_o (by omega), q2.1 _ _ (by omega) (by omega) (by omega) (by omega)]
      have hA1 : LandA (xu I1 164 0 0 165) 0 t := LandA_cg (A := I 165) hw (fun x _ => e165 _) hA
      have hD1 : CoastA (xu I1 164 0 0 165) 67 t c := CoastA_cg (A := I 165) hw hc (fun x _ => e165 _) hD
      obtain ⟨I2, r1, r2⟩ := goesFor_M hP (I := xu I1 164 0 0) (J := J) hw hc (by omega) hA1 hD1 (m := m) (by omega)
      have im1 := isCellM (mm_G (I := xu I1 164 0 0) (J := J) hP) hw (show LandA ((mm P (xu I1 164 0 0) J).2.1 165) 0 t from hA1) (nI x)
      rw [if_pos hin] at im1
      have s1 : I1 26 x = nI (cSand (itS t c m) x) := q2.2.1 x hxN
      have s2 : I2 171 x = nI (cSand (itS t c m) x) := r2.2.1 x hxN
      refine ⟨nI (cSand (itS t c m) x), mm P I1 J, mm P I2 J, ?_, ahC_Sc q2, ?_, ahM_Sc r2⟩
      · simp (disch := omega) only [F_X11_worn, ↓bOC hP, ↓bAC, ↓bs ic, ↓bs (isAheadC _ _), h, ↓reduceIte, and_self, one_ne, ↓bs q1, s1]
      · simp (disch := omega) only [F_X12_worn, ↓bOM hP, ↓bAM, ↓bs im1, within_lit, ↓Option.bind_some, z0, z60, h, and_self, ↓reduceIte, one_ne, ↓bs r1, s2]
    · refine ⟨-3, mm P I J, thr (mm P I J), ?_, Sc.rf, ?_, thr_Sc⟩
      · simp only [F_X11_worn, ↓bOC hP, ↓bs ic, ↓bs (isAheadC _ _), if_neg h, ↓reduceIte, one_ne]
      · simp only [F_X12_worn, ↓bOM hP, ↓bs im, within_lit, ↓Option.bind_some, z0, z60, if_neg h, ↓reduceIte, one_ne, thr_mm]
  · rw [if_neg hx] at ic im
    refine ⟨-2, mm P I J, thr (mm P I J), ?_, Sc.rf, ?_, thr_Sc⟩
    · simp only [F_X11_worn, ↓bOC hP, ↓bs ic, ↓reduceIte]
    · simp only [F_X12_worn, ↓bOM hP, ↓bs im, ↓reduceIte, thr_mm]
/-! ===== when a house falls ===== -/
noncomputable def fallP (t : Txt) (c : Cst) (h m : Nat) : Bool := !(cStand (itS t c m)).testBit h
theorem fallsIn_M {P : Nat → Nat → Option Nat} (hP : GP P) {I : Nat → Nat → Int32} {J : Nat → Nat → Int64} {t : Txt} {c : Cst} {n h : Nat} (hw : wfT t) (hc : wfC t c n) (hn : n < 1000) (hA : LandA (I 165) 0 t) (hD : CoastA (I 165) 67 t c) (hh : h < (cHouses c).length) (hb : (cStand c).testBit h = true) : ∃ I', F_X12_fallsIn 164 (nI h) (mm P I J) = some (findF (fallP t c h) 1 60, mm P I' J) ∧ ∃ c', ahM I I' t c' := by
  have hl := hc.2.1.1
  obtain ⟨I0, b1, b2⟩ := begins_M hP (J := J) hw hD
  obtain ⟨f, f1, f2, f3⟩ := hD.2.2.2.1
  have f2' : I 165 105 = nI f := f2
  have i0 := isInM (m := f) (c := h) (by omega) (by omega) (mm P I J)
  rw [f3 h hh, hb] at i0
  have key := find_loop (f := F_X12_fallsIn_23b 164 (nI h)) (M0 := mm P I0 J) (fallP t c h) (fun j M => ∃ I', M = mm P I' J ∧ ahM I I' t (itS t c j)) (fun M => ∃ I' c', M = mm P I' J ∧ ahM I I' t c') ⟨I0, rfl, b2⟩ (fun j M hj hq => ?_) (fun M hq => ?_)
  · obtain ⟨M', h1, I', c', rfl, h2⟩ := key
    refine ⟨I', ?_, c', h2⟩
    unfold F_X12_fallsIn F_X12_fallsIn_23
    simp only [↓bOM hP, ↓bAM, f2', ↓bs i0]
    simp only [Bool.not_true, Bool.false_eq_true, ↓reduceIte, ↓bOM hP, ↓bs b1]
    exact h1
  · obtain ⟨I1, rfl, q1⟩ := hq
    obtain ⟨I2, e1, e2⟩ := on_tick hP (J := J) hw (it_wf hc j (by omega)) (by omega) hA (HsM_it (HsM_of hD) j) q1
    obtain ⟨g, g1, g2, g3⟩ := e2.2.2.1
    have e2' : ahM I I2 t (itS t c (j + 1)) := e2
    have hh2 : h < (cHouses (itS t c (j + 1))).length := by rw [(it_houses t c (j + 1)).1]; exact hh
    have g3' : g.testBit h = fallP t c h (j + 1) := g3 h hh2
    have ii := isInM (m := g) (c := h) (by omega) (by omega) (mm P I2 J)
    rw [g3'] at ii
    refine ⟨mm P I2 J, ⟨I2, _, rfl, e2⟩, ?_, fun _ => ⟨I2, rfl, e2⟩⟩
    have c1 : ¬ (60 : Int32) < nI (j + 1) := nI_nlt (a := 60) (by omega) (by omega)
    simp only [F_X12_fallsIn_23b, F_X12_fallsIn_47, ↓reduceIte, c1, ↓bOM hP, ↓bs e1, g2, ↓bs ii, nI_1, Option.map_some]
    cases fallP t c h (j + 1) <;> rfl
  · obtain ⟨I1, rfl, q1⟩ := hq
    refine ⟨?_, I1, _, rfl, q1⟩
    have c1 : (60 : Int32) < nI 61 := by decide
    simp only [F_X12_fallsIn_23b, F_X12_fallsIn_55, ↓reduceIte, c1, Option.map_some]
theorem sim_falls (a1 : Int32) : xSim INV (F_X11_falls 0 a1) (F_X12_falls 164 a1) := by
  refine xSim_qn fun n M hn hI => ?_
  obtain ⟨P, I, J, rfl, hP⟩ := G_mm hI.1
  obtain ⟨t, c, cs, nx, hw, hL, hA, hc, hC, hD, -⟩ := INV_sh hI
  have hl := hc.2.1.1
  have slt := stand_lt hc
  have ic := isHouseC (mm_G (I := I) (J := J) hP) hc hC a1
  have hA0 : LandA (xu I 164 0 0 165) 0 t := LandA_cg (A := I 165) hw (fun x _ => xu_o (by omega)) hA
  have hD0 : CoastA (xu I 164 0 0 165) 67 t c := CoastA_cg (A := I 165) hw hc (fun x _ => xu_o (by omega)) hD
  have im := isHouseM (mm_G (I := xu I 164 0 0) (J := J) hP) hc (show CoastA ((mm P (xu I 164 0 0) J).2.1 165) 67 t c from hD0) a1
  have s4 : I 21 4 = nI (cStand c) := hC.2.2.2.1
  by_cases hx : 0 ≤ a1.toInt ∧ a1.toInt < (cHouses c).length
  · have hin := hx
    rw [if_pos hx] at ic im
    obtain ⟨h, hh, rfl⟩ := cell_of hx (by omega)
    have bt := bitN (s := cStand c) (c := h) (by omega) (by omega)
    by_cases hb : (cStand c).testBit h = true
    · rw [if_pos hb] at bt
      obtain ⟨I0, t1, t2⟩ := ahead_take hP (I := I) (J := J) hw hc hC
      obtain ⟨I1, q1, c1, q2⟩ : ∃ I', F_X11_falls_40 0 (nI h) 1 (mm P I0 J) = some (findF (fallP t c h) 1 60, mm P I' J) ∧ ∃ c', ahC I I' t c' := by
        have key := find_loop (f := F_X11_falls_40b 0 (nI h)) (M0 := mm P I0 J) (fallP t c h) (fun j M => ∃ I', M = mm P I' J ∧ ahC I I' t (itS t c j)) (fun M => ∃ I' c', M = mm P I' J ∧ ahC I I' t c') ⟨I0, rfl, t2⟩ (fun j M hj hq => ?_) (fun M hq => ?_)
        · obtain ⟨M', h1, I', c', rfl, h2⟩ := key
          exact ⟨I', h1, c', h2⟩
        · obtain ⟨I1, rfl, q1⟩ := hq
          obtain ⟨I2, e1, e2⟩ := ahead_tick hP (J := J) hw (it_wf hc j (by omega)) (by omega) hL q1
          have e4 : I2 25 4 = nI (cStand (itS t c (j + 1))) := e2.2.2.2.2.1
          have sl2 := stand_lt (it_wf hc (j + 1) (by omega))
          have bt2 := bitN (s := cStand (itS t c (j + 1))) (c := h) (by omega) (by omega)
          refine ⟨mm P I2 J, ⟨I2, _, rfl, e2⟩, ?_, fun _ => ⟨I2, rfl, e2⟩⟩
          have c1 : ¬ (60 : Int32) < nI (j + 1) := nI_nlt (a := 60) (by omega) (by omega)
          have pe : fallP t c h (j + 1) = !(cStand (itS t c (j + 1))).testBit h := rfl
          simp only [F_X11_falls_40b, F_X11_falls_76, ↓reduceIte, c1, ↓bOC hP, ↓bs e1, e4, bt2, pe, nI_1, Option.map_some]
          cases (cStand (itS t c (j + 1))).testBit h <;> rfl
        · obtain ⟨I1, rfl, q1⟩ := hq
          refine ⟨?_, I1, _, rfl, q1⟩
          have c1 : (60 : Int32) < nI 61 := by decide
          simp only [F_X11_falls_40b, F_X11_falls_84, ↓reduceIte, c1, Option.map_some]
      have e165 : ∀ i, xu I1 164 0 0 165 i = I 165 i := fun i => by rw [xu_o (by omega), q2.1 _ _ (by omega) (by omega) (by omega) (by omega)]
      have hA1 : LandA (xu I1 164 0 0 165) 0 t := LandA_cg (A := I 165) hw (fun x _ => e165 _) hA
      have hD1 : CoastA (xu I1 164 0 0 165) 67 t c := CoastA_cg (A := I 165) hw hc (fun x _ => e165 _) hD
      have im1 := isHouseM (mm_G (I := xu I1 164 0 0) (J := J) hP) hc (show CoastA ((mm P (xu I1 164 0 0) J).2.1 165) 67 t c from hD1) (nI h)
      rw [if_pos hin] at im1
      obtain ⟨I2, r1, c2, r2⟩ := fallsIn_M hP (I := xu I1 164 0 0) (J := J) hw hc (by omega) hA1 hD1 hh hb
      refine ⟨findF (fallP t c h) 1 60, mm P I1 J, mm P I2 J, ?_, ahC_Sc q2, ?_, ahM_Sc r2⟩
      · simp only [F_X11_falls, ↓bOC hP, ↓bs ic, ↓reduceIte, one_ne, s4, bt]
        rw [t1, Option.bind_some, q1]
      · simp only [F_X12_falls, ↓bOM hP, ↓bs im1, ↓reduceIte, one_ne, ↓bs r1]
    · rw [if_neg hb] at bt
      obtain ⟨f, f1, f2, f3⟩ := hD0.2.2.2.1
      have f2' : xu I 164 0 0 165 105 = nI f := f2
      have i0 := isInM (m := f) (c := h) (by omega) (by omega) (mm P (xu I 164 0 0) J)
      rw [f3 h hh, Bool.eq_false_iff.mpr hb] at i0
      have fi : F_X12_fallsIn 164 (nI h) (mm P (xu I 164 0 0) J) = some (-1, mm P (xu I 164 0 0) J) := by
        unfold F_X12_fallsIn
        simp only [↓bOM hP, ↓bAM, f2', ↓bs i0]
        rfl
      refine ⟨-1, mm P I J, thr (mm P I J), ?_, Sc.rf, ?_, thr_Sc⟩
      · simp only [F_X11_falls, ↓bOC hP, ↓bs ic, ↓reduceIte, one_ne, s4, bt]
      · simp only [F_X12_falls, ↓bOM hP, ↓bs im, ↓reduceIte, one_ne, ↓bs fi, thr_mm]
  · rw [if_neg hx] at ic im
    refine ⟨-2, mm P I J, thr (mm P I J), ?_, Sc.rf, ?_, thr_Sc⟩
    · simp only [F_X11_falls, ↓bOC hP, ↓bs ic, ↓reduceIte]
    · simp only [F_X12_falls, ↓bOM hP, ↓bs im, ↓reduceIte, thr_mm]
