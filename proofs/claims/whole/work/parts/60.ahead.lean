/-! ===== going ahead ===== -/
def ahC (I I' : Nat → Nat → Int32) (t : Txt) (c : Cst) : Prop := (∀ a i, ¬ (25 ≤ a ∧ a ≤ 28) → a ≠ 31 → a ≠ 32 → a ≠ 33 → I' a i = I a i) ∧ CoI I' 25 t c
def ahM (I I' : Nat → Nat → Int32) (t : Txt) (c : Cst) : Prop := (∀ a i, ¬ (a = 164 ∧ (i = 20 ∨ i = 21)) → a ≠ 169 → a ≠ 170 → a ≠ 171 → a ≠ 172 → I' a i = I a i) ∧ OnM I' t c
noncomputable def itS (t : Txt) (c : Cst) : Nat → Cst
  | 0 => c
  | j + 1 => tickS t (itS t c j) (lvN t (itS t c j))
theorem it_minute (t : Txt) (c : Cst) : ∀ j, cMinute (itS t c j) = cMinute c + j
  | 0 => rfl
  | j + 1 => by
    show cMinute (itS t c j) + 1 = _
    rw [it_minute t c j]; rfl
theorem it_wf {t : Txt} {c : Cst} {n : Nat} (hc : wfC t c n) : ∀ j, j ≤ 99 → wfC t (itS t c j) (n + 1)
  | 0, _ => wfC_mono hc
  | j + 1, hj => by
    refine tick_wf (it_wf hc j (by omega)) ?_
    have h : cMinute c ≤ 99 * n := hc.2.2.2.2
    rw [it_minute]
    omega
theorem it_houses (t : Txt) (c : Cst) : ∀ j, cHouses (itS t c j) = cHouses c ∧ cMoon (itS t c j) = cMoon c
  | 0 => ⟨rfl, rfl⟩
  | j + 1 => it_houses t c j
theorem HsM_it {I : Nat → Nat → Int32} {t : Txt} {c : Cst} (h : HsM I c) (j : Nat) : HsM I (itS t c j) := by
  obtain ⟨e1, e2⟩ := it_houses t c j
  unfold HsM
  rw [e1, e2]
  exact h
theorem HsM_of {I : Nat → Nat → Int32} {t : Txt} {c : Cst} (h : CoastA (I 165) 67 t c) : HsM I c := ⟨h.2.1, h.2.2.1, h.2.2.2.2.1⟩
theorem HsM_fr {I I' : Nat → Nat → Int32} {c : Cst} (e : ∀ i, I' 165 i = I 165 i) (h : HsM I c) : HsM I' c := ⟨(e _).trans h.1, fun x q hq => ⟨(e _).trans (h.2.1 x q hq).1, (e _).trans (h.2.1 x q hq).2⟩, (e _).trans h.2.2⟩
theorem ahead_take {P : Nat → Nat → Option Nat} (hP : GP P) {I : Nat → Nat → Int32} {J : Nat → Nat → Int64} {t : Txt} {c : Cst} {n : Nat} (hw : wfT t) (hc : wfC t c n) (hC : CoI I 21 t c) : ∃ I', F_X0_take 25 21 (mm P I J) = some (mm P I' J) ∧ ahC I I' t c := by
  obtain ⟨I', h1, h2, h3, h4, h5, h6, h7, h8, h9⟩ := take_C hP I J (a := 25) (b := 21) (by decide) (by decide) (by decide)
  exact ⟨I', h1, fun a i g1 _ _ _ => h2 a i g1, CoI_iff.mp (CoastC_same (M := mm P I J) (M' := mm P I' J) hw hc h3 h4 h5 h6 h7 h8 h9 hC)⟩
theorem ahead_tick {P : Nat → Nat → Option Nat} (hP : GP P) {I I1 : Nat → Nat → Int32} {J : Nat → Nat → Int64} {t : Txt} {c : Cst} {n : Nat} (hw : wfT t) (hc : wfC t c n) (hn : n < 100000) (hL : LandC (mm P I J) 14 t) (h : ahC I I1 t c) : ∃ I', F_X8_tick 29 14 25 (mm P I1 J) = some (nI (wetS t (cSand c) (lvN t c)), mm P I' J) ∧ ahC I I' t (tickS t c (lvN t c)) := by
  obtain ⟨I', h1, h2, h3⟩ := tick_C hP (I := I1) (J := J) (k := 25) (by decide) hw hc hn (LandC_I (fun a i _ _ => h.1 a i (by omega) (by omega) (by omega) (by omega)) hL) h.2
  exact ⟨I', h1, fun a i g1 g2 g3 g4 => by rw [h2 a i (by omega) g2 g3 g4, h.1 a i g1 g2 g3 g4], h3⟩
theorem begins_M {P : Nat → Nat → Option Nat} (hP : GP P) {I : Nat → Nat → Int32} {J : Nat → Nat → Int64} {t : Txt} {c : Cst} (hw : wfT t) (hD : CoastA (I 165) 67 t c) : ∃ I', F_X12_begins 164 (mm P I J) = some (mm P I' J) ∧ ahM I I' t c := by
  have hN := tN_le hw
  refine ⟨xu (xu (cpx I 171 0 165 67 25) 164 20 (I 165 105)) 164 21 (I 165 107), ?_, fun a i h1 h2 h3 h4 h5 => ?_, fun i hi => ?_, ?_, ?_⟩
  · unfold F_X12_begins F_X12_begins_2
    refine cp_loop 171 0 165 67 25 (by omega) (fun j hj => ?_) ?_ (by omega)
    · have h1 : ¬ (25 : Int32) ≤ nI j := nI_ge (b := 25) hj (by omega)
      have e67 : (67 : Int32) + nI j = nI (67 + j) := nI_add 67 j
      unfold F_X12_begins_2b
      simp only [e67]
      simp (disch := omega) only [↓reduceIte, h1, ↓bOM hP, ↓bAM, nI_1, Nat.zero_add]
    · have h1 : (25 : Int32) ≤ nI 25 := by decide
      have e1 : cpx I 171 0 165 67 25 165 105 = I 165 105 := cpx_o (by omega)
      have e2 : xu (cpx I 171 0 165 67 25) 164 20 (I 165 105) 165 107 = I 165 107 := by rw [xu_o (by omega), cpx_o (by omega)]
      simp only [F_X12_begins_2b, F_X12_begins_29, ↓reduceIte, h1, ↓bOM hP, ↓bAM, e1, e2, Option.map_some]
  · rw [xu_o (by omega), xu_o (by omega), cpx_o (by omega)]
  · have e := cpx_in (I := I) (b := 171) (j0 := 0) (a := 165) (i0 := 67) (show i < 25 by omega)
    rw [Nat.zero_add] at e
    rw [xu_o (by omega), xu_o (by omega), e]
    exact hD.1 i hi
  · obtain ⟨f, f1, f2, f3⟩ := hD.2.2.2.1
    exact ⟨f, f1, by rw [xu_o (by omega), xu_self]; exact f2, f3⟩
  · rw [xu_self]
    exact hD.2.2.2.2.2
theorem on_tick {P : Nat → Nat → Option Nat} (hP : GP P) {I I1 : Nat → Nat → Int32} {J : Nat → Nat → Int64} {t : Txt} {c : Cst} {n : Nat} (hw : wfT t) (hc : wfC t c n) (hn : n < 100000) (hA : LandA (I 165) 0 t) (hH : HsM I c) (h : ahM I I1 t c) : ∃ I', F_X12_goesOn 164 0 (mm P I1 J) = some (nI (wetS t (cSand c) (lvN t c)), mm P I' J) ∧ ahM I I' t (tickS t c (lvN t c)) := by
  have e : ∀ i, I1 165 i = I 165 i := fun i => h.1 165 i (by omega) (by omega) (by omega) (by omega) (by omega)
  obtain ⟨I', h1, h2, h3⟩ := goesOn_M hP (I := I1) (J := J) (more := 0) hw hc hn (LandA_cg (A := I 165) hw (fun x _ => e _) hA) (HsM_fr e hH) h.2 (by omega)
  have hl := lvlS_le t (cMinute c + 1) (cMoon c)
  have em : min 10 (lvN t c + 0) = lvN t c := by unfold lvN; omega
  rw [em] at h1 h3
  exact ⟨I', h1, fun a i g1 g2 g3 g4 g5 => by rw [h2 a i g1 g2 g3 g4 g5, h.1 a i g1 g2 g3 g4 g5], h3⟩
theorem ahC_Sc {P : Nat → Nat → Option Nat} {I I' : Nat → Nat → Int32} {J : Nat → Nat → Int64} {t : Txt} {c : Cst} (h : ahC I I' t c) : Sc (mm P I J) (mm P I' J) := Sc_mm (fun k i g => by
  unfold scr at g
  exact h.1 k i (by omega) (by omega) (by omega) (by omega)) (fun _ _ _ => rfl)
theorem ahM_Sc {P : Nat → Nat → Option Nat} {I I' : Nat → Nat → Int32} {J : Nat → Nat → Int64} {t : Txt} {c : Cst} (h : ahM (xu I 164 0 0) I' t c) : Sc (mm P I J) (mm P I' J) := Sc_mm (fun k i g => by
  unfold scr at g
  rw [h.1 k i (by omega) (by omega) (by omega) (by omega) (by omega), xu_o (by omega)]) (fun _ _ _ => rfl)
theorem goOn_C {P : Nat → Nat → Option Nat} (hP : GP P) {I : Nat → Nat → Int32} {J : Nat → Nat → Int64} {t : Txt} {c : Cst} {n m : Nat} (hw : wfT t) (hc : wfC t c n) (hn : n < 1000) (hL : LandC (mm P I J) 14 t) (hC : CoI I 21 t c) (hm : m ≤ 60) : ∃ I', F_X11_goOn 0 (nI m) (mm P I J) = some (mm P I' J) ∧ ahC I I' t (itS t c m) := by
  obtain ⟨I0, h1, h2⟩ := ahead_take hP (J := J) hw hc hC
  have key : ∃ r : xM, xit (F_X11_goOn_13b 0 (nI m)) xFU (nI 0, mm P I0 J) = some r ∧ (∃ I', r = mm P I' J ∧ ahC I I' t (itS t c m)) := by
    refine xit_inv (fun j z => ∃ I', z = (nI j, mm P I' J) ∧ ahC I I' t (itS t c j)) _ m ⟨I0, rfl, h2⟩ (fun j z hj hq => ?_) (fun z hq => ?_) (by omega)
    · obtain ⟨I1, rfl, q1⟩ := hq
      left
      obtain ⟨I2, e1, e2⟩ := ahead_tick hP (J := J) hw (it_wf hc j (by omega)) (by omega) hL q1
      refine ⟨(nI (j + 1), mm P I2 J), ?_, I2, rfl, e2⟩
      simp only [F_X11_goOn_13b, ↓reduceIte, nI_ge hj (show m < 2 ^ 31 by omega), ↓bOC hP, ↓bs e1, nI_1]
    · obtain ⟨I1, rfl, q1⟩ := hq
      refine ⟨mm P I1 J, ?_, I1, rfl, q1⟩
      simp only [F_X11_goOn_13b, F_X11_goOn_40, ↓reduceIte, nI_le (Nat.le_refl m) (show m < 2 ^ 31 by omega), Option.map_some]
  obtain ⟨r, k1, I', rfl, k2⟩ := key
  refine ⟨I', ?_, k2⟩
  unfold F_X11_goOn F_X11_goOn_13
  simp only [↓bOC hP, ↓bs h1]
  rw [show (0 : Int32) = nI 0 from rfl]
  exact k1
theorem goesFor_M {P : Nat → Nat → Option Nat} (hP : GP P) {I : Nat → Nat → Int32} {J : Nat → Nat → Int64} {t : Txt} {c : Cst} {n m : Nat} (hw : wfT t) (hc : wfC t c n) (hn : n < 1000) (hA : LandA (I 165) 0 t) (hD : CoastA (I 165) 67 t c) (hm : m ≤ 99) : ∃ I', F_X12_goesOnFor 164 (nI m) (mm P I J) = some (mm P I' J) ∧ ahM I I' t (itS t c m) := by
  obtain ⟨I0, h1, h2⟩ := begins_M hP (J := J) hw hD
  have key : ∃ r : xM, xit (F_X12_goesOnFor_6b 164 (nI m)) xFU (nI 0, mm P I0 J) = some r ∧ (∃ I', r = mm P I' J ∧ ahM I I' t (itS t c m)) := by
    refine xit_inv (fun j z => ∃ I', z = (nI j, mm P I' J) ∧ ahM I I' t (itS t c j)) _ m ⟨I0, rfl, h2⟩ (fun j z hj hq => ?_) (fun z hq => ?_) (by omega)
    · obtain ⟨I1, rfl, q1⟩ := hq
      left
      obtain ⟨I2, e1, e2⟩ := on_tick hP (J := J) hw (it_wf hc j (by omega)) (by omega) hA (HsM_it (HsM_of hD) j) q1
      refine ⟨(nI (j + 1), mm P I2 J), ?_, I2, rfl, e2⟩
      simp only [F_X12_goesOnFor_6b, ↓reduceIte, nI_ge hj (show m < 2 ^ 31 by omega), ↓bOM hP, ↓bs e1, nI_1]
    · obtain ⟨I1, rfl, q1⟩ := hq
      refine ⟨mm P I1 J, ?_, I1, rfl, q1⟩
      simp only [F_X12_goesOnFor_6b, F_X12_goesOnFor_23, ↓reduceIte, nI_le (Nat.le_refl m) (show m < 2 ^ 31 by omega), Option.map_some]
  obtain ⟨r, k1, I', rfl, k2⟩ := key
  refine ⟨I', ?_, k2⟩
  unfold F_X12_goesOnFor F_X12_goesOnFor_6
  simp only [↓bOM hP, ↓bs h1]
  rw [show (0 : Int32) = nI 0 from rfl]
  exact k1
theorem standingOn_M {P : Nat → Nat → Option Nat} (hP : GP P) {I : Nat → Nat → Int32} {J : Nat → Nat → Int64} {t : Txt} {c : Cst} {n : Nat} (hc : wfC t c n) (hH : HsM I c) (hO : OnM I t c) : F_X12_standingOn 164 (mm P I J) = some (nI (cStand c), mm P I J) := by
  obtain ⟨-, ⟨f, f1, f2, f3⟩, -⟩ := hO
  have h6 := hc.2.1.1
  simp only [F_X12_standingOn, ↓bOM hP, ↓bAM, hH.1, f2]
  rw [stand6 _ (by omega) f f1, stand_of (by omega) f1 hc.2.2.1 f3]
theorem isAheadC (a : Int32) (M : xM) : F_X11_isAhead a M = some (if 0 ≤ a.toInt ∧ a.toInt ≤ 60 then 1 else 0, M) := by
  have y : (60 : Int32).toInt = 60 := by decide
  unfold F_X11_isAhead F_X11_isAhead_14
  by_cases h0 : a < 0
  · have := toInt_neg h0
    rw [if_pos h0, if_neg (by omega), xz0]; rfl
  · have h1 := toInt_nneg h0
    rw [if_neg h0]
    by_cases h2 : (60 : Int32) < a
    · have h3 := Int32.lt_iff_toInt_lt.mp h2
      rw [if_pos h2, if_neg (by omega), xz0]; rfl
    · have h3 : ¬ (60 : Int32).toInt < a.toInt := fun z => h2 (Int32.lt_iff_toInt_lt.mpr z)
      rw [if_neg h2, if_pos (by omega), xz1]; rfl
theorem sim_stands (a1 : Int32) : xSim INV (F_X11_stands 0 a1) (F_X12_stands 164 a1) := by
  intro n M hn hI
  obtain ⟨P, I, J, rfl, hP⟩ := G_mm hI.1
  obtain ⟨t, c, cs, nx, hw, hL, hA, hc, hC, hD, -⟩ := INV_sh hI
  have z0 : (0 : Int64).toInt = 0 := by decide
  have z60 : (60 : Int64).toInt = 60 := by decide
  by_cases h : 0 ≤ a1.toInt ∧ a1.toInt ≤ 60
  · obtain ⟨m, hm, rfl⟩ := cell_of (a := a1) (n := 61) (by omega) (by omega)
    obtain ⟨I1, q1, q2⟩ := goOn_C hP (J := J) hw hc (by omega) hL hC (m := m) (by omega)
    have e165 : ∀ i, xu I1 164 0 0 165 i = I 165 i := fun i => by rw [xu_o (by omega), q2.1 _ _ (by omega) (by omega) (by omega) (by omega)]
    have hA1 : LandA (xu I1 164 0 0 165) 0 t := LandA_cg (A := I 165) hw (fun x _ => e165 _) hA
    have hD1 : CoastA (xu I1 164 0 0 165) 67 t c := CoastA_cg (A := I 165) hw hc (fun x _ => e165 _) hD
    obtain ⟨I2, r1, r2⟩ := goesFor_M hP (I := xu I1 164 0 0) (J := J) hw hc (by omega) hA1 hD1 (m := m) (by omega)
    have hH2 : HsM I2 (itS t c m) := HsM_fr (I := xu I1 164 0 0) (fun i => r2.1 _ _ (by omega) (by omega) (by omega) (by omega) (by omega)) (HsM_it (HsM_of hD1) m)
    have so := standingOn_M hP (J := J) (it_wf hc m (by omega)) hH2 r2.2
    have s4 : I1 25 4 = nI (cStand (itS t c m)) := q2.2.2.2.2.1
    have s1 : Sc (mm P I J) (mm P I1 J) := ahC_Sc q2
    have s2 : Sc (mm P I1 J) (mm P I2 J) := ahM_Sc r2
    refine ⟨nI (cStand (itS t c m)), mm P I1 J, mm P I2 J, ?_, ?_, m_ck (by decide +kernel) _ _, m_ck (by decide +kernel) _ _, INV_mono _ _ (INV_Sc (INV_Sc hI s1) s2)⟩
    · simp only [F_X11_stands, ↓bs (isAheadC _ _), h, ↓reduceIte, and_self, one_ne, ↓bOC hP, ↓bs q1, s4]
    · simp only [F_X12_stands, ↓bOM hP, within_lit, ↓Option.bind_some, z0, z60, h, and_self, ↓reduceIte, one_ne, ↓bs r1, ↓bs so]
  · refine ⟨-3, mm P I J, thr (mm P I J), ?_, ?_, m_ck (by decide +kernel) _ _, m_ck (by decide +kernel) _ _, INV_mono _ _ (INV_Sc hI thr_Sc)⟩
    · simp only [F_X11_stands, ↓bs (isAheadC _ _), if_neg h, ↓reduceIte]
    · simp only [F_X12_stands, ↓bOM hP, within_lit, ↓Option.bind_some, z0, z60, if_neg h, ↓reduceIte, thr_mm]
