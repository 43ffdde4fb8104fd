/-! ===== deadlines ===== -/
def dlO (p : Nat → Bool) : Nat → Option Nat
  | 0 => none
  | m + 1 => match dlO p m with
    | some j => some j
    | none => if p (m + 1) then some m else none
def dlv (p : Nat → Bool) (m : Nat) : Nat := (dlO p m).getD 60
theorem dlO_lt (p : Nat → Bool) : ∀ m j, dlO p m = some j → j < m
  | 0, j, h => by cases h
  | m + 1, j, h => by
    unfold dlO at h
    cases hd : dlO p m with
    | some i =>
      rw [hd] at h
      have := dlO_lt p m i hd
      cases h
      omega
    | none =>
      rw [hd] at h
      dsimp only at h
      split at h
      · cases h; omega
      · cases h
theorem dlv_le (p : Nat → Bool) {m : Nat} (hm : m ≤ 60) : dlv p m ≤ 60 := by
  unfold dlv
  cases h : dlO p m with
  | none => exact Nat.le_refl _
  | some j =>
    have := dlO_lt p m j h
    show j ≤ 60
    omega
theorem nI_nm1 {a : Nat} (h : a < 2 ^ 31) : ¬ nI a = -1 := fun z => by
  have h1 : (nI a).toInt = (-1 : Int32).toInt := by rw [z]
  rw [nI_toInt h] at h1
  have h2 : (-1 : Int32).toInt = -1 := by decide
  omega
theorem findF_s (p : Nat → Bool) : ∀ n a, a + n < 2 ^ 31 → findF p a (n + 1) = (if findF p a n = -1 then (if p (a + n) then nI (a + n) else -1) else findF p a n)
  | 0, a, _ => by
    show (if p a then nI a else -1) = _
    rw [show findF p a 0 = -1 from rfl, if_pos rfl]
    rfl
  | n + 1, a, h => by
    have ih := findF_s p n (a + 1) (by omega)
    have e1 : findF p a (n + 1 + 1) = if p a then nI a else findF p (a + 1) (n + 1) := rfl
    have e2 : findF p a (n + 1) = if p a then nI a else findF p (a + 1) n := rfl
    rw [e1, e2]
    cases hp : p a with
    | true => rw [if_pos rfl, if_pos rfl, if_neg (nI_nm1 (by omega))]
    | false =>
      simp only [Bool.false_eq_true, ↓reduceIte]
      rw [ih, show a + 1 + n = a + (n + 1) by omega]
theorem findF_dl (p : Nat → Bool) : ∀ m, m ≤ 60 → findF p 1 m = (match dlO p m with | some j => nI (j + 1) | none => -1)
  | 0, _ => rfl
  | m + 1, hm => by
    have ih := findF_dl p m (by omega)
    rw [findF_s p m 1 (by omega), ih]
    have e : dlO p (m + 1) = (match dlO p m with | some j => some j | none => if p (m + 1) then some m else none) := rfl
    rw [e]
    cases h : dlO p m with
    | some j =>
      have := dlO_lt p m j h
      dsimp only
      rw [if_neg (nI_nm1 (by omega))]
    | none =>
      dsimp only
      rw [if_pos rfl, show 1 + m = m + 1 by omega]
      cases p (m + 1) <;> rfl
/-- what was wet in the first minutes -/
noncomputable def wdN (t : Txt) (c : Cst) : Nat → Nat
  | 0 => 0
  | m + 1 => wdN t c m ||| wetJ t c m
theorem wdN_bit (t : Txt) (c : Cst) (x : Nat) : ∀ m, (wdN t c m).testBit x = (dlO (wetAtP t c x) m).isSome
  | 0 => by
    show (0 : Nat).testBit x = _
    rw [Nat.zero_testBit]; rfl
  | m + 1 => by
    have ih := wdN_bit t c x m
    have e : dlO (wetAtP t c x) (m + 1) = (match dlO (wetAtP t c x) m with | some j => some j | none => if wetAtP t c x (m + 1) then some m else none) := rfl
    show (wdN t c m ||| wetJ t c m).testBit x = _
    rw [Nat.testBit_or, ih, e, show wetAtP t c x (m + 1) = (wetJ t c m).testBit x from rfl]
    cases dlO (wetAtP t c x) m with
    | some j => rfl
    | none => cases (wetJ t c m).testBit x <;> rfl
theorem wdN_lt {t : Txt} {c : Cst} {n : Nat} (hw : wfT t) (hc : wfC t c n) : ∀ m, m ≤ 60 → wdN t c m < 2 ^ 25
  | 0, _ => by show 0 < 2 ^ 25; omega
  | m + 1, hm => Nat.or_lt_two_pow (wdN_lt hw hc m (by omega)) (wetI_lt hw (wetJ_P hw hc (j := m) (by omega)).1)
def plT (t : Txt) (p : Nat) : Nat × Nat × Nat := ((tPlots t)[p]?).getD (0, 0, 0)
theorem plT_at {t : Txt} {p : Nat} (hp : p < (tPlots t).length) : (tPlots t)[p]? = some (plT t p) := by
  unfold plT
  rw [List.getElem?_eq_getElem hp]; rfl
noncomputable def qPl (t : Txt) (c : Cst) (m : Nat) : Plo := ((tPlots t).length, fun p => dlv (wetAtP t c (plT t p).1) m, fun p => (plT t p).2.1, fun p => (plT t p).2.2)
theorem plT_wf {t : Txt} (hw : wfT t) {p : Nat} (hp : p < (tPlots t).length) : (plT t p).1 < tN t ∧ ((plT t p).2.1 ≤ 9 ∧ (plT t p).2.2 ≤ 9) := by
  have h := hw.2.2.2.2.1.2 (plT t p) (List.mem_of_getElem? (plT_at hp))
  exact ⟨h.1, h.2.1.2, h.2.2⟩
theorem qPl_wf {t : Txt} (hw : wfT t) (c : Cst) {m : Nat} (hm : m ≤ 60) : wfP (qPl t c m) := ⟨hw.2.2.2.2.1.1, fun p hp => ⟨dlv_le _ hm, (plT_wf hw hp).2⟩⟩
/-! ===== the class sets the deadlines ===== -/
theorem dead62 {P : Nat → Nat → Option Nat} (hP : GP P) {I : Nat → Nat → Int32} {J : Nat → Nat → Int64} {t : Txt} {c : Cst} {n m : Nat} (hw : wfT t) (hc : wfC t c n) (hL : LandC (mm P I J) 14 t) (hm : m < 60) (hI : ∀ p, p < (tPlots t).length → I 121 p = nI (dlv (wetAtP t c (plT t p).1) m)) :
    ∃ I', F_X11_setDeadlines_62 0 (nI (wdN t c m)) (nI (m + 1)) (nI (wetJ t c m)) 0 (mm P I J) = some (.inl (nI (wdN t c (m + 1)), nI (m + 2), mm P I' J)) ∧ (∀ a i, a ≠ 121 → I' a i = I a i) ∧ ∀ p, p < (tPlots t).length → I' 121 p = nI (dlv (wetAtP t c (plT t p).1) (m + 1)) := by
  have hN := tN_le hw
  have hl := hw.2.2.2.2.1.1
  have l5 : I 14 5 = nI (tPlots t).length := hL.2.2.2.2.2.1
  have l8 := hL.2.2.2.2.2.2.2.1
  have wl := wdN_lt hw hc m (by omega)
  have wj := wetI_lt hw (wetJ_P hw hc (j := m) (by omega)).1
  have key : ∃ r : (Int32 × Int32 × xM) ⊕ xM, xit (F_X11_setDeadlines_62b 0 (nI (wdN t c m)) (nI (m + 1)) (nI (wetJ t c m))) xFU (nI 0, mm P I J) = some r ∧ (∃ I', r = .inl (nI (wdN t c (m + 1)), nI (m + 2), mm P I' J) ∧ (∀ a i, a ≠ 121 → I' a i = I a i) ∧ ∀ p, p < (tPlots t).length → I' 121 p = nI (dlv (wetAtP t c (plT t p).1) (m + 1))) := by
    refine xit_inv (fun j z => ∃ I', z = (nI j, mm P I' J) ∧ (∀ a i, a ≠ 121 → I' a i = I a i) ∧ (∀ p, p < j → I' 121 p = nI (dlv (wetAtP t c (plT t p).1) (m + 1))) ∧ ∀ p, j ≤ p → I' 121 p = I 121 p) _ (tPlots t).length ⟨I, rfl, fun _ _ _ => rfl, fun p hp => by omega, fun _ _ => rfl⟩ (fun j z hj hq => ?_) (fun z hq => ?_) (by omega)
    · obtain ⟨I1, rfl, q1, q2, q3⟩ := hq
      left
      have c1 : ¬ nI (tPlots t).length ≤ nI j := nI_ge hj (by omega)
      have v5 : I1 14 5 = nI (tPlots t).length := by rw [q1 _ _ (by omega)]; exact l5
      have vc : I1 15 j = nI (plT t j).1 := by rw [q1 _ _ (by omega)]; exact (l8 j _ (plT_at hj)).1
      have cl := (plT_wf hw hj).1
      have al : anot (wetJ t c m) (wdN t c m) < 2 ^ 25 := anot_lt wj
      have an := anotN (a := wetJ t c m) (b := wdN t c m) (by omega) (by omega)
      have bt := bitN (s := anot (wetJ t c m) (wdN t c m)) (c := (plT t j).1) (by omega) (by omega)
      have sb : nI (m + 1) - (1 : Int32) = nI m := pk_sub (a := m + 1) (b := 1) (by omega)
      rw [anot_bit, wdN_bit] at bt
      have e : dlO (wetAtP t c (plT t j).1) (m + 1) = (match dlO (wetAtP t c (plT t j).1) m with | some j => some j | none => if (wetJ t c m).testBit (plT t j).1 then some m else none) := rfl
      by_cases hb : ((wetJ t c m).testBit (plT t j).1 && !(dlO (wetAtP t c (plT t j).1) m).isSome) = true
      · rw [if_pos hb] at bt
        refine ⟨(nI (j + 1), mm P (xu I1 121 j (nI m)) J), ?_, _, rfl, fun a i h => by rw [xu_o (by omega), q1 a i h], fun p hp => ?_, fun p hp => by rw [xu_o (by omega)]; exact q3 p (by omega)⟩
        · simp (disch := omega) only [F_X11_setDeadlines_62b, F_X11_setDeadlines_108, ↓bOC hP, v5, ↓reduceIte, c1, ↓bAC, vc, an, bt, one_ne, ↓bOX hP, ↓bAX, sb, nI_1]
        · by_cases ep : p = j
          · subst ep
            rw [xu_self]
            unfold dlv
            rw [e]
            cases hd : dlO (wetAtP t c (plT t p).1) m with
            | some i => rw [hd] at hb; simp at hb
            | none =>
              rw [hd] at hb
              have hb1 : (wetJ t c m).testBit (plT t p).1 = true := by simpa using hb
              simp only [hb1, if_true]
              rfl
          · rw [xu_o (by omega)]; exact q2 p (by omega)
      · rw [if_neg hb] at bt
        refine ⟨(nI (j + 1), mm P I1 J), ?_, I1, rfl, q1, fun p hp => ?_, fun p hp => q3 p (by omega)⟩
        · simp (disch := omega) only [F_X11_setDeadlines_62b, F_X11_setDeadlines_108, ↓bOC hP, v5, ↓reduceIte, c1, ↓bAC, vc, an, bt, nI_1]
        · by_cases ep : p = j
          · subst ep
            rw [q3 p (Nat.le_refl _), hI p hj]
            unfold dlv
            rw [e]
            cases hd : dlO (wetAtP t c (plT t p).1) m with
            | some i => rfl
            | none =>
              rw [hd] at hb
              have hb1 : (wetJ t c m).testBit (plT t p).1 = false := by simpa using hb
              simp only [hb1]
              rfl
          · exact q2 p (by omega)
    · obtain ⟨I1, rfl, q1, q2, q3⟩ := hq
      have c1 : nI (tPlots t).length ≤ nI (tPlots t).length := nI_le (Nat.le_refl _) (by omega)
      have v5 : I1 14 5 = nI (tPlots t).length := by rw [q1 _ _ (by omega)]; exact l5
      have oo := orN (a := wdN t c m) (b := wetJ t c m) (by omega) (by omega)
      refine ⟨.inl (nI (wdN t c (m + 1)), nI (m + 2), mm P I1 J), ?_, I1, rfl, q1, q2⟩
      simp only [F_X11_setDeadlines_62b, F_X11_setDeadlines_114, ↓bOC hP, v5, ↓reduceIte, c1, oo, Option.bind_some, nI_1, Option.map_some]
      rfl
  obtain ⟨r, h1, I', rfl, h2, h3⟩ := key
  exact ⟨I', h1, h2, h3⟩
theorem dead_C {P : Nat → Nat → Option Nat} (hP : GP P) {I : Nat → Nat → Int32} {J : Nat → Nat → Int64} {t : Txt} {c : Cst} {n : Nat} (hw : wfT t) (hc : wfC t c n) (hn : n < 512) (hL : LandC (mm P I J) 14 t) (hC : CoI I 21 t c) :
    ∃ I', F_X11_setDeadlines 0 (mm P I J) = some (mm P I' J) ∧ (∀ a i, ¬ (25 ≤ a ∧ a ≤ 28) → a ≠ 31 → a ≠ 32 → a ≠ 33 → a ≠ 121 → I' a i = I a i) ∧ PlC I' (qPl t c 60) := by
  have hl := hw.2.2.2.2.1.1
  have fl : F_J7_fill_53178 121 60 (mm P I J) = some (mm P (xfl I 121 0 6 60) J) := fillI (mm_G hP) (by decide +kernel) (by omega) 60
  have f0 : ∀ a i, a ≠ 121 → xfl I 121 0 6 60 a i = I a i := fun a i h => by unfold xfl; rw [if_neg (by omega)]
  have f1 : ∀ i, i < 6 → xfl I 121 0 6 60 121 i = 60 := fun i h => by unfold xfl; rw [if_pos (by omega)]
  have hCf : CoI (xfl I 121 0 6 60) 21 t c := CoI_fr (I := I) (fun a i _ _ => f0 a i (by omega)) hC
  obtain ⟨I0, t1, t2, t3⟩ := ahead_take hP (I := xfl I 121 0 6 60) (J := J) hw hc hCf
  have key : ∃ r : xM, xit (F_X11_setDeadlines_27b 0) xFU (nI 0, nI 1, mm P I0 J) = some r ∧ (∃ I', r = mm P I' J ∧ (∀ a i, ¬ (25 ≤ a ∧ a ≤ 28) → a ≠ 31 → a ≠ 32 → a ≠ 33 → a ≠ 121 → I' a i = I a i) ∧ ∀ p, p < (tPlots t).length → I' 121 p = nI (dlv (wetAtP t c (plT t p).1) 60)) := by
    refine xit_inv (fun m z => ∃ I', z = (nI (wdN t c m), nI (m + 1), mm P I' J) ∧ (∀ a i, ¬ (25 ≤ a ∧ a ≤ 28) → a ≠ 31 → a ≠ 32 → a ≠ 33 → a ≠ 121 → I' a i = I a i) ∧ CoI I' 25 t (itS t c m) ∧ ∀ p, p < (tPlots t).length → I' 121 p = nI (dlv (wetAtP t c (plT t p).1) m)) _ 60 ⟨I0, rfl, fun a i h1 h2 h3 h4 h5 => by rw [t2 a i h1 h2 h3 h4, f0 a i h5], t3, fun p hp => by rw [t2 _ _ (by omega) (by omega) (by omega) (by omega), f1 p (by omega)]; rfl⟩ (fun m z hm hq => ?_) (fun z hq => ?_) (by omega)
    · obtain ⟨I1, rfl, q1, q2, q3⟩ := hq
      have c1 : ¬ (60 : Int32) < nI (m + 1) := nI_nlt (a := 60) (by omega) (by omega)
      have v5 : I1 14 5 = nI (tPlots t).length := by rw [q1 _ _ (by omega) (by omega) (by omega) (by omega) (by omega)]; exact hL.2.2.2.2.2.1
      by_cases hk : (tPlots t).length = 0
      · right
        have c2 : nI (tPlots t).length ≤ 0 := nI_le (b := 0) (by omega) (by omega)
        refine ⟨mm P I1 J, ?_, I1, rfl, q1, fun p hp => by omega⟩
        simp only [F_X11_setDeadlines_27b, F_X11_setDeadlines_124, ↓reduceIte, c1, ↓bOC hP, v5, c2, Option.map_some]
      · left
        have c2 : ¬ nI (tPlots t).length ≤ 0 := nI_ge (a := 0) (by omega) (by omega)
        have hL1 : LandC (mm P I1 J) 14 t := LandC_I (fun a i _ _ => q1 a i (by omega) (by omega) (by omega) (by omega) (by omega)) hL
        obtain ⟨I2, e1, e2, e3⟩ := ahead_tick hP (I := I1) (I1 := I1) (J := J) hw (it_wf hc m (by omega)) (by omega) hL1 ⟨fun _ _ _ _ _ _ => rfl, q2⟩
        have e1' : F_X8_tick 29 14 25 (mm P I1 J) = some (nI (wetJ t c m), mm P I2 J) := e1
        have hL2 : LandC (mm P I2 J) 14 t := LandC_I (fun a i _ _ => e2 a i (by omega) (by omega) (by omega) (by omega)) hL1
        obtain ⟨I3, g1, g2, g3⟩ := dead62 hP (I := I2) (J := J) hw hc hL2 hm (fun p hp => by rw [e2 _ _ (by omega) (by omega) (by omega) (by omega)]; exact q3 p hp)
        refine ⟨_, ?_, I3, rfl, fun a i h1 h2 h3 h4 h5 => by rw [g2 a i h5, e2 a i h1 h2 h3 h4, q1 a i h1 h2 h3 h4 h5], CoI_fr (I := I2) (fun a i _ _ => g2 a i (by omega)) e3, g3⟩
        simp only [F_X11_setDeadlines_27b, ↓reduceIte, c1, ↓bOC hP, v5, c2, ↓bs e1', g1]
    · obtain ⟨I1, rfl, q1, q2, q3⟩ := hq
      have c1 : (60 : Int32) < nI 61 := by decide
      exact ⟨mm P I1 J, by simp only [F_X11_setDeadlines_27b, F_X11_setDeadlines_124, ↓reduceIte, c1, Option.map_some], I1, rfl, q1, q3⟩
  obtain ⟨r, k1, I', rfl, k2, k3⟩ := key
  refine ⟨I', ?_, k2, ?_, fun p hp => ⟨k3 p hp, ?_, ?_⟩⟩
  · unfold F_X11_setDeadlines F_X11_setDeadlines_27
    simp only [↓bOC hP, ↓bOX hP, ↓bs fl, ↓bs t1]
    exact k1
  · rw [k2 _ _ (by omega) (by omega) (by omega) (by omega) (by omega)]; exact hL.2.2.2.2.2.1
  · rw [k2 _ _ (by omega) (by omega) (by omega) (by omega) (by omega)]; exact (hL.2.2.2.2.2.2.2.1 p _ (plT_at hp)).2.1
  · rw [k2 _ _ (by omega) (by omega) (by omega) (by omega) (by omega)]; exact (hL.2.2.2.2.2.2.2.1 p _ (plT_at hp)).2.2
/-! ===== the model ===== -/
theorem until_M {P : Nat → Nat → Option Nat} (hP : GP P) {I : Nat → Nat → Int32} {J : Nat → Nat → Int64} {t : Txt} {c : Cst} {n : Nat} (hw : wfT t) (hc : wfC t c n) (hn : n < 512) (hA : LandA (I 165) 0 t) (hD : CoastA (I 165) 67 t c) :
    ∃ I', F_X12_laysUntil 164 (mm P I J) = some (mm P I' J) ∧ (∀ a i, ¬ (a = 164 ∧ (i = 20 ∨ i = 21)) → a ≠ 169 → a ≠ 170 → a ≠ 171 → a ≠ 172 → a ≠ 177 → I' a i = I a i) ∧ PlM I' (qPl t c 60) := by
  have hl := hw.2.2.2.2.1.1
  have a4 : I 165 4 = nI (tPlots t).length := hA.2.2.2.2.1
  have a7 := hA.2.2.2.2.2.2.2.1
  have key : ∃ r : xM, xit (F_X12_laysUntil_2b 164) xFU (nI 0, mm P I J) = some r ∧ (∃ I', r = mm P I' J ∧ (∀ a i, ¬ (a = 164 ∧ (i = 20 ∨ i = 21)) → a ≠ 169 → a ≠ 170 → a ≠ 171 → a ≠ 172 → a ≠ 177 → I' a i = I a i) ∧ ∀ p, p < (tPlots t).length → I' 177 p = nI (dlv (wetAtP t c (plT t p).1) 60)) := by
    refine xit_inv (fun j z => ∃ I', z = (nI j, mm P I' J) ∧ (∀ a i, ¬ (a = 164 ∧ (i = 20 ∨ i = 21)) → a ≠ 169 → a ≠ 170 → a ≠ 171 → a ≠ 172 → a ≠ 177 → I' a i = I a i) ∧ ∀ p, p < j → I' 177 p = nI (dlv (wetAtP t c (plT t p).1) 60)) _ (tPlots t).length ⟨I, rfl, fun _ _ _ _ _ _ _ _ => rfl, fun p hp => by omega⟩ (fun j z hj hq => ?_) (fun z hq => ?_) (by omega)
    · obtain ⟨I1, rfl, q1, q2⟩ := hq
      left
      have e165 : ∀ i, I1 165 i = I 165 i := fun i => q1 _ _ (by omega) (by omega) (by omega) (by omega) (by omega) (by omega)
      have c1 : ¬ nI (tPlots t).length ≤ nI j := nI_ge hj (by omega)
      have v4 : I1 165 4 = nI (tPlots t).length := (e165 _).trans a4
      have vc : I1 165 (13 + 3 * j) = nI (plT t j).1 := by
        rw [e165]
        have := (a7 j _ (plT_at hj)).1
        rw [Nat.zero_add] at this
        exact this
      obtain ⟨I2, w1, c', w2, -⟩ := wetIn_M hP (I := I1) (J := J) hw hc (by omega) (LandA_cg (A := I 165) hw (fun x _ => e165 _) hA) (CoastA_cg (A := I 165) hw hc (fun x _ => e165 _) hD) (plT_wf hw hj).1
      have fd := findF_dl (wetAtP t c (plT t j).1) 60 (by omega)
      have fin : ∀ v, v = nI (dlv (wetAtP t c (plT t j).1) 60) → F_X12_laysUntil_46 164 (nI j) v (nI j) 177 (mm P I2 J) = some (.inl (nI (j + 1), mm P (xu I2 177 j (nI (dlv (wetAtP t c (plT t j).1) 60))) J)) := fun v hv => by
        rw [hv]
        simp (disch := omega) only [F_X12_laysUntil_46, ↓bAM, nI_1]
      refine ⟨(nI (j + 1), mm P (xu I2 177 j (nI (dlv (wetAtP t c (plT t j).1) 60))) J), ?_, _, rfl, fun a i h1 h2 h3 h4 h5 h6 => by rw [xu_o (by omega), w2 a i h1 h2 h3 h4 h5, q1 a i h1 h2 h3 h4 h5 h6], fun p hp => ?_⟩
      · unfold F_X12_laysUntil_2b
        simp only [ix13]
        rw [fd] at w1
        unfold dlv at fin ⊢
        cases hd : dlO (wetAtP t c (plT t j).1) 60 with
        | none =>
          rw [hd] at w1 fin
          have f := fin 60 rfl
          simp (disch := omega) only [↓bOM hP, ↓bAM, v4, ↓reduceIte, c1, vc, ↓bs w1, f]
        | some i =>
          have il := dlO_lt _ _ _ hd
          rw [hd] at w1 fin
          have sb : nI (i + 1) - (1 : Int32) = nI i := pk_sub (a := i + 1) (b := 1) (by omega)
          have f := fin (nI i) rfl
          have ne := nI_nm1 (a := i + 1) (by omega)
          simp (disch := omega) only [↓bOM hP, ↓bAM, v4, ↓reduceIte, c1, vc, ↓bs w1, ne, sb, f]
      · by_cases e : p = j
        · rw [e, xu_self]
        · rw [xu_o (by omega), w2 _ _ (by omega) (by omega) (by omega) (by omega) (by omega)]
          exact q2 p (by omega)
    · obtain ⟨I1, rfl, q1, q2⟩ := hq
      have c1 : nI (tPlots t).length ≤ nI (tPlots t).length := nI_le (Nat.le_refl _) (by omega)
      have v4 : I1 165 4 = nI (tPlots t).length := (q1 _ _ (by omega) (by omega) (by omega) (by omega) (by omega) (by omega)).trans a4
      exact ⟨mm P I1 J, by simp only [F_X12_laysUntil_2b, F_X12_laysUntil_53, ↓bOM hP, ↓bAM, v4, ↓reduceIte, c1, Option.map_some], I1, rfl, q1, q2⟩
  obtain ⟨r, k1, I', rfl, k2, k3⟩ := key
  have e165 : ∀ i, I' 165 i = I 165 i := fun i => k2 _ _ (by omega) (by omega) (by omega) (by omega) (by omega) (by omega)
  refine ⟨I', k1, k2, (e165 _).trans a4, fun p hp => ⟨k3 p hp, ?_, ?_⟩⟩
  · rw [e165]
    have := (a7 p _ (plT_at hp)).2.1
    rw [Nat.zero_add] at this
    exact this
  · rw [e165]
    have := (a7 p _ (plT_at hp)).2.2
    rw [Nat.zero_add] at this
    exact this
