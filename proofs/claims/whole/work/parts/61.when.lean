theorem xSim_qn {f g : xM → Option (Int32 × xM)} (h : ∀ n M, n < 512 → INV n M → ∃ r M1 M2, f M = some (r, M1) ∧ Sc M M1 ∧ g M1 = some (r, M2) ∧ Sc M1 M2) : xSim INV f g := by
  intro n M hn hI
  obtain ⟨r, M1, M2, h1, s1, h2, s2⟩ := h n M hn hI
  have G1 := s1.G hI.1
  exact ⟨r, M1, M2, h1, h2, G_ck hI.1 (by decide +kernel), G_ck G1 (by decide +kernel), INV_mono _ _ (INV_Sc (INV_Sc hI s1) s2)⟩
/-- the first from j on, of so many, for which it holds -/
def findF (p : Nat → Bool) : Nat → Nat → Int32
  | _, 0 => -1
  | j, n + 1 => if p j then nI j else findF p (j + 1) n
theorem find_loop {f : (Int32 × xM) → Option ((Int32 × xM) ⊕ (Int32 × xM))} {M0 : xM} (p : Nat → Bool) (Q : Nat → xM → Prop) (R : xM → Prop) (h0 : Q 0 M0)
    (hs : ∀ j M, j < 60 → Q j M → ∃ M', R M' ∧ f (nI (j + 1), M) = some (if p (j + 1) then .inr (nI (j + 1), M') else .inl (nI (j + 2), M')) ∧ (p (j + 1) = false → Q (j + 1) M'))
    (he : ∀ M, Q 60 M → f (nI 61, M) = some (.inr (-1, M)) ∧ R M) : ∃ M', xit f xFU (1, M0) = some (findF p 1 60, M') ∧ R M' := by
  have key : ∃ r : Int32 × xM, xit f xFU (nI 1, M0) = some r ∧ (∃ M', r = (findF p 1 60, M') ∧ R M') := by
    refine xit_inv (fun j z => ∃ M, z = (nI (j + 1), M) ∧ Q j M ∧ findF p 1 60 = findF p (j + 1) (60 - j)) _ 60 ⟨M0, rfl, h0, rfl⟩ (fun j z hj hq => ?_) (fun z hq => ?_) (by omega)
    · obtain ⟨M, rfl, q1, q2⟩ := hq
      obtain ⟨M', r1, r2, r3⟩ := hs j M hj q1
      rw [show 60 - j = (60 - (j + 1)) + 1 by omega] at q2
      cases hp : p (j + 1) with
      | true =>
        rw [hp, if_pos rfl] at r2
        refine Or.inr ⟨_, r2, M', ?_, r1⟩
        rw [q2]
        show _ = (if p (j + 1) then nI (j + 1) else _, M')
        rw [hp, if_pos rfl]
      | false =>
        rw [hp, if_neg (by decide)] at r2
        refine Or.inl ⟨_, r2, M', rfl, r3 hp, ?_⟩
        rw [q2]
        show (if p (j + 1) then nI (j + 1) else _) = _
        rw [hp, if_neg (by decide)]
    · obtain ⟨M, rfl, q1, q2⟩ := hq
      obtain ⟨e1, e2⟩ := he M q1
      exact ⟨_, e1, M, by rw [q2]; rfl, e2⟩
  obtain ⟨r, h1, M', rfl, h2⟩ := key
  exact ⟨M', h1, h2⟩
/-! ===== when a cell is wet ===== -/
noncomputable def wetJ (t : Txt) (c : Cst) (j : Nat) : Nat := wetS t (cSand (itS t c j)) (lvN t (itS t c j))
noncomputable def wetAtP (t : Txt) (c : Cst) (x m : Nat) : Bool := (wetJ t c (m - 1)).testBit x
/-- what is wet is well told, for every sand -/
theorem wetP_all {t : Txt} (hw : wfT t) (s : Nat → Nat) (hs : ∀ i, i < tN t → s i ≤ 9) (lv : Nat) (hlv : lv < 2 ^ 31) : wetP t s lv (wetS t s lv) := by
  have hP : GP (fun a i => ((PPl.find? (fun q => q.1 == a && q.2.1 == i)).map (fun q => q.2.2))) := by
    unfold GP
    decide +kernel
  have hL : LandA ((fun a i => if a = 171 then nI (s i) else if i = 1 then nI (tR t) else if i = 2 then nI (tW t) else 0 : Nat → Nat → Int32) 165) 0 (tR t, tW t, 0, 0, [], [], [], [], []) := by
    refine ⟨rfl, rfl, rfl, rfl, rfl, rfl, rfl, fun p q hq => by simp [tPlots] at hq, fun p q hq => by simp [tPapers] at hq, fun p q hq => by simp [tDebts] at hq, rfl, rfl, fun h => absurd rfl h, fun h => absurd rfl h⟩
  have hw2 : wfT (tR t, tW t, 0, 0, [], [], [], [], []) := by
    refine ⟨hw.1, hw.2.1, by show 0 ≤ 900; omega, by show 0 ≤ 10; omega, ⟨by show 0 ≤ 6; omega, fun q hq => by simp [tPlots] at hq⟩, ⟨by show 0 ≤ 6; omega, fun q hq => by simp [tPapers] at hq⟩, ⟨by show 0 ≤ 8; omega, fun q hq => by simp [tDebts] at hq⟩, Or.inl rfl, Or.inl rfl, fun o ho => by simp [tTide] at ho⟩
  exact (wet_M hP (I := fun a i => if a = 171 then nI (s i) else if i = 1 then nI (tR t) else if i = 2 then nI (tW t) else 0) (J := fun _ _ => 0) (t := (tR t, tW t, 0, 0, [], [], [], [], [])) (s := s) hw2 hL (fun i hi => ⟨rfl, hs i hi⟩) hlv).2
theorem wetJ_P {t : Txt} {c : Cst} {n : Nat} (hw : wfT t) (hc : wfC t c n) {j : Nat} (hj : j ≤ 99) : wetP t (cSand (itS t c j)) (lvN t (itS t c j)) (wetJ t c j) := by
  have hl := lvlS_le t (cMinute (itS t c j) + 1) (cMoon (itS t c j))
  exact wetP_all hw _ (it_wf hc j hj).1 _ (by unfold lvN; omega)
theorem wetIn_M {P : Nat → Nat → Option Nat} (hP : GP P) {I : Nat → Nat → Int32} {J : Nat → Nat → Int64} {t : Txt} {c : Cst} {n x : Nat} (hw : wfT t) (hc : wfC t c n) (hn : n < 1000) (hA : LandA (I 165) 0 t) (hD : CoastA (I 165) 67 t c) (hx : x < tN t) : ∃ I', F_X12_wetIn 164 (nI x) (mm P I J) = some (findF (wetAtP t c x) 1 60, mm P I' J) ∧ ∃ c', ahM I I' t c' := by
  have hN := tN_le hw
  obtain ⟨I0, b1, b2⟩ := begins_M hP (J := J) hw hD
  have key := find_loop (f := F_X12_wetIn_6b 164 (nI x)) (M0 := mm P I0 J) (wetAtP t c x) (fun j M => ∃ I', M = mm P I' J ∧ ahM I I' t (itS t c j)) (fun M => ∃ I' c', M = mm P I' J ∧ ahM I I' t c') ⟨I0, rfl, b2⟩ (fun j M hj hq => ?_) (fun M hq => ?_)
  · obtain ⟨M', h1, I', c', rfl, h2⟩ := key
    refine ⟨I', ?_, c', h2⟩
    unfold F_X12_wetIn F_X12_wetIn_6
    simp only [↓bOM hP, ↓bs b1]
    exact h1
  · obtain ⟨I1, rfl, q1⟩ := hq
    obtain ⟨I2, e1, e2⟩ := on_tick hP (J := J) hw (it_wf hc j (by omega)) (by omega) hA (HsM_it (HsM_of hD) j) q1
    have wl := wetI_lt hw (wetJ_P hw hc (j := j) (by omega)).1
    have ii := isInM (m := wetJ t c j) (c := x) (by omega) (by omega) (mm P I2 J)
    have e1' : F_X12_goesOn 164 0 (mm P I1 J) = some (nI (wetJ t c j), mm P I2 J) := e1
    refine ⟨mm P I2 J, ⟨I2, _, rfl, e2⟩, ?_, fun _ => ⟨I2, rfl, e2⟩⟩
    have c1 : ¬ (60 : Int32) < nI (j + 1) := nI_nlt (a := 60) (by omega) (by omega)
    have pe : wetAtP t c x (j + 1) = (wetJ t c j).testBit x := rfl
    simp only [F_X12_wetIn_6b, F_X12_wetIn_25, ↓reduceIte, c1, ↓bOM hP, ↓bs e1', ↓bs ii, pe, nI_1, Option.map_some]
    cases (wetJ t c j).testBit x <;> rfl
  · obtain ⟨I1, rfl, q1⟩ := hq
    refine ⟨?_, I1, _, rfl, q1⟩
    have c1 : (60 : Int32) < nI 61 := by decide
    simp only [F_X12_wetIn_6b, F_X12_wetIn_33, ↓reduceIte, c1, Option.map_some]
theorem sim_when (a1 : Int32) : xSim INV (F_X11_when 0 a1) (F_X12_when 164 a1) := by
  refine xSim_qn fun n M hn hI => ?_
  obtain ⟨P, I, J, rfl, hP⟩ := G_mm hI.1
  obtain ⟨t, c, cs, nx, hw, hL, hA, hc, hC, hD, -⟩ := INV_sh hI
  have hN := tN_le hw
  by_cases h : 0 ≤ a1.toInt ∧ a1.toInt < tN t
  · have hin := h
    obtain ⟨x, hx, rfl⟩ := cell_of h (by omega)
    obtain ⟨I0, t1, t2⟩ := ahead_take hP (I := I) (J := J) hw hc hC
    have hlt : ∀ j, j ≤ 99 → wetJ t c j < 2 ^ 25 := fun j hj => wetI_lt hw (wetJ_P hw hc hj).1
    obtain ⟨I1, q1, c1, q2⟩ : ∃ I', F_X11_when_24 0 (nI x) 1 (mm P I0 J) = some (findF (wetAtP t c x) 1 60, mm P I' J) ∧ ∃ c', ahC I I' t c' := by
      have key := find_loop (f := F_X11_when_24b 0 (nI x)) (M0 := mm P I0 J) (wetAtP t c x) (fun j M => ∃ I', M = mm P I' J ∧ ahC I I' t (itS t c j)) (fun M => ∃ I' c', M = mm P I' J ∧ ahC I I' t c') ⟨I0, rfl, t2⟩ (fun j M hj hq => ?_) (fun M hq => ?_)
      · obtain ⟨M', h1, I', c', rfl, h2⟩ := key
        exact ⟨I', h1, c', h2⟩
      · obtain ⟨I1, rfl, q1⟩ := hq
        obtain ⟨I2, e1, e2⟩ := ahead_tick hP (J := J) hw (it_wf hc j (by omega)) (by omega) hL q1
        have bt := bitN (s := wetJ t c j) (c := x) (by have := hlt j (by omega); omega) (by omega)
        have e1' : F_X8_tick 29 14 25 (mm P I1 J) = some (nI (wetJ t c j), mm P I2 J) := e1
        refine ⟨mm P I2 J, ⟨I2, _, rfl, e2⟩, ?_, fun _ => ⟨I2, rfl, e2⟩⟩
        have c1 : ¬ (60 : Int32) < nI (j + 1) := nI_nlt (a := 60) (by omega) (by omega)
        have pe : wetAtP t c x (j + 1) = (wetJ t c j).testBit x := rfl
        simp only [F_X11_when_24b, F_X11_when_52, ↓reduceIte, c1, ↓bOC hP, ↓bs e1', bt, pe, nI_1, Option.map_some]
        cases (wetJ t c j).testBit x <;> rfl
      · obtain ⟨I1, rfl, q1⟩ := hq
        refine ⟨?_, I1, _, rfl, q1⟩
        have c1 : (60 : Int32) < nI 61 := by decide
        simp only [F_X11_when_24b, F_X11_when_60, ↓reduceIte, c1, Option.map_some]
    have e165 : ∀ i, xu I1 164 0 0 165 i = I 165 i := fun i => by rw [xu_o (by omega), q2.1 _ _ (by omega) (by omega) (by omega) (by omega)]
    have hA1 : LandA (xu I1 164 0 0 165) 0 t := LandA_cg (A := I 165) hw (fun x _ => e165 _) hA
    have hD1 : CoastA (xu I1 164 0 0 165) 67 t c := CoastA_cg (A := I 165) hw hc (fun x _ => e165 _) hD
    obtain ⟨I2, r1, c2, r2⟩ := wetIn_M hP (I := xu I1 164 0 0) (J := J) hw hc (by omega) hA1 hD1 hx
    have ic := isCellC (mm_G (I := I) (J := J) hP) hw hL (nI x)
    rw [if_pos hin] at ic
    have im := isCellM (mm_G (I := xu I1 164 0 0) (J := J) hP) hw (show LandA ((mm P (xu I1 164 0 0) J).2.1 165) 0 t from hA1) (nI x)
    rw [if_pos hin] at im
    refine ⟨findF (wetAtP t c x) 1 60, mm P I1 J, mm P I2 J, ?_, ahC_Sc q2, ?_, ahM_Sc r2⟩
    · simp only [F_X11_when, ↓bOC hP, ↓bs ic, ↓reduceIte, one_ne]
      rw [t1, Option.bind_some, q1]
    · simp only [F_X12_when, ↓bOM hP, ↓bs im, ↓reduceIte, one_ne, ↓bs r1]
  · have ic := isCellC (mm_G (I := I) (J := J) hP) hw hL a1
    rw [if_neg h] at ic
    have hA1 : LandA (xu I 164 0 0 165) 0 t := LandA_cg (A := I 165) hw (fun x _ => xu_o (by omega)) hA
    have im := isCellM (mm_G (I := xu I 164 0 0) (J := J) hP) hw (show LandA ((mm P (xu I 164 0 0) J).2.1 165) 0 t from hA1) a1
    rw [if_neg h] at im
    refine ⟨-2, mm P I J, thr (mm P I J), ?_, Sc.rf, ?_, thr_Sc⟩
    · simp only [F_X11_when, ↓bOC hP, ↓bs ic, ↓reduceIte]
    · simp only [F_X12_when, ↓bOM hP, ↓bs im, ↓reduceIte, thr_mm]
