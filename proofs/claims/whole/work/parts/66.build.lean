/-! ===== what is built on ===== -/
def heldN (c : Cst) (x : Nat) : Nat → Bool
  | 0 => false
  | h + 1 => heldN c x h || ((cStand c).testBit h && decide (cellH c h = x))
def builtN (c : Cst) : Nat → Nat
  | 0 => 0
  | h + 1 => if (cStand c).testBit h then builtN c h ||| 2 ^ cellH c h else builtN c h
theorem built_bit (c : Cst) (x : Nat) : ∀ h, (builtN c h).testBit x = heldN c x h
  | 0 => Nat.zero_testBit x
  | h + 1 => by
    have ih := built_bit c x h
    unfold builtN heldN
    cases hb : (cStand c).testBit h with
    | true =>
      rw [if_pos rfl, Nat.testBit_or, ih, Nat.testBit_two_pow, Bool.true_and]
    | false =>
      rw [if_neg (by decide), ih, Bool.false_and, Bool.or_false]
theorem cellH_lt {t : Txt} {c : Cst} {n h : Nat} (hc : wfC t c n) (hh : h < (cHouses c).length) : cellH c h < tN t := by
  obtain ⟨q, hq, hcell⟩ := house_at hh
  rw [hcell]
  exact (hc.2.1.2 q (List.mem_of_getElem? hq)).1
theorem built_lt {t : Txt} {c : Cst} {n : Nat} (hw : wfT t) (hc : wfC t c n) : ∀ h, h ≤ (cHouses c).length → builtN c h < 2 ^ 25
  | 0, _ => by show 0 < 2 ^ 25; omega
  | h + 1, hh => by
    have ih := built_lt hw hc h (by omega)
    have hN := tN_le hw
    have := cellH_lt hc (h := h) (by omega)
    have p : 2 ^ cellH c h < 2 ^ 25 := Nat.pow_lt_pow_right (by omega) (by omega)
    unfold builtN
    split
    · exact Nat.or_lt_two_pow ih p
    · exact ih
theorem built_C {P : Nat → Nat → Option Nat} (hP : GP P) {I : Nat → Nat → Int32} {J : Nat → Nat → Int64} {t : Txt} {c : Cst} {n k : Nat} (hk : k ∈ coastL) (hw : wfT t) (hc : wfC t c n) (hC : CoI I k t c) : F_X0_builtCells k (mm P I J) = some (nI (builtN c (cHouses c).length), mm P I J) := by
  have hl := hc.2.1.1
  have hN := tN_le hw
  have slt := stand_lt hc
  have b3 : I k 3 = nI (cHouses c).length := hC.2.1
  have b4 : I k 4 = nI (cStand c) := hC.2.2.2.1
  unfold F_X0_builtCells F_X0_builtCells_4
  refine xit_run (fun j => (nI (builtN c j), nI j, mm P I J)) (cHouses c).length rfl (fun j hj => ?_) ?_ (by omega)
  · obtain ⟨q, hq, hcell⟩ := house_at hj
    have bo : I (k + 2) j = nI (cellH c j) := by rw [hcell]; exact (hC.2.2.1 j q hq).1
    have cl := cellH_lt hc hj
    have c1 : ¬ nI (cHouses c).length ≤ nI j := nI_ge hj (by omega)
    have bt := bitN (s := cStand c) (c := j) (by omega) (by omega)
    have blt := built_lt hw hc j (by omega)
    have p : 2 ^ cellH c j < 2 ^ 25 := Nat.pow_lt_pow_right (by omega) (by omega)
    cases hb : (cStand c).testBit j with
    | true =>
      rw [hb] at bt
      simp (disch := omega) only [F_X0_builtCells_4b, F_X0_builtCells_34, ↓bOK hP hk, ↓reduceIte, b3, c1, b4, bt, one_ne, bo, one_shl, orN, ↓Option.bind_some, nI_1, builtN, hb]
    | false =>
      rw [hb] at bt
      simp (disch := omega) only [F_X0_builtCells_4b, F_X0_builtCells_34, ↓bOK hP hk, ↓reduceIte, b3, c1, b4, bt, nI_1, builtN, hb, Bool.false_eq_true]
  · have c1 : nI (cHouses c).length ≤ nI (cHouses c).length := nI_le (Nat.le_refl _) (by omega)
    simp only [F_X0_builtCells_4b, F_X0_builtCells_40, ↓bOK hP hk, ↓reduceIte, b3, c1, Option.map_some]
theorem held_M {P : Nat → Nat → Option Nat} (hP : GP P) {I : Nat → Nat → Int32} {J : Nat → Nat → Int64} {t : Txt} {c : Cst} {n x : Nat} (hw : wfT t) (hc : wfC t c n) (hD : CoastA (I 165) 67 t c) (hx : x < 2 ^ 31) : F_X12_isHeld 164 (nI x) (mm P I J) = some (if heldN c x (cHouses c).length then 1 else 0, mm P I J) := by
  have hl := hc.2.1.1
  have hN := tN_le hw
  obtain ⟨-, b1', b2, ⟨f, f1, f2', f3⟩, -, -⟩ := hD
  have b1 : I 165 92 = nI (cHouses c).length := b1'
  have f2 : I 165 105 = nI f := f2'
  have key : ∃ r : Int32 × xM, xit (F_X12_isHeld_2b 164 (nI x)) xFU (nI 0, mm P I J) = some r ∧ r = (if heldN c x (cHouses c).length then 1 else 0, mm P I J) := by
    refine xit_inv (fun j z => z = (nI j, mm P I J) ∧ heldN c x j = false) _ (cHouses c).length ⟨rfl, rfl⟩ (fun j z hj hq => ?_) (fun z hq => ?_) (by omega)
    · obtain ⟨rfl, q1⟩ := hq
      obtain ⟨q, hq, hcell⟩ := house_at hj
      have bo : I 165 (93 + 2 * j) = nI (cellH c j) := by rw [hcell]; exact (b2 j q hq).1
      have cl := cellH_lt hc hj
      have c1 : ¬ nI (cHouses c).length ≤ nI j := nI_ge hj (by omega)
      have ce : nI (cellH c j) = nI x ↔ cellH c j = x := nI_eqI (by omega) hx
      have ii := isInM (m := f) (c := j) (by omega) (by omega) (mm P I J)
      rw [f3 j hj] at ii
      have e93 : (93 : Int32) + (2 : Int32) * nI j = nI (93 + 2 * j) := by rw [show (2 : Int32) = nI 2 from rfl, pk_mul]; exact nI_add 93 (2 * j)
      have hh : heldN c x (j + 1) = ((cStand c).testBit j && decide (cellH c j = x)) := by
        show (heldN c x j || _) = _
        rw [q1, Bool.false_or]
      have up : ∀ i, j + 1 + i ≤ (cHouses c).length → heldN c x (j + 1) = true → heldN c x (j + 1 + i) = true := by
        intro i
        induction i with
        | zero => intro _ h; exact h
        | succ i ih =>
          intro h1 h2
          show (heldN c x (j + 1 + i) || _) = true
          rw [ih (by omega) h2]
          rfl
      unfold F_X12_isHeld_2b
      simp only [e93]
      by_cases h1 : cellH c j = x
      · cases hb : (cStand c).testBit j with
        | true =>
          rw [hb] at ii
          right
          refine ⟨(1, mm P I J), ?_, ?_⟩
          · simp (disch := omega) only [F_X12_isHeld_43, ↓bOM hP, ↓bAM, b1, ↓reduceIte, c1, bo, ce, h1, f2, ↓bs ii, Bool.not_true, Bool.false_eq_true, xz1, Option.bind_some, Option.map_some]
          · have e := up ((cHouses c).length - (j + 1)) (by omega) (by rw [hh, hb, decide_eq_true h1]; rfl)
            rw [show j + 1 + ((cHouses c).length - (j + 1)) = (cHouses c).length by omega] at e
            rw [e]
            rfl
        | false =>
          rw [hb] at ii
          left
          refine ⟨(nI (j + 1), mm P I J), ?_, rfl, by rw [hh, hb]; rfl⟩
          simp (disch := omega) only [F_X12_isHeld_45, ↓bOM hP, ↓bAM, b1, ↓reduceIte, c1, bo, ce, h1, f2, ↓bs ii, Bool.not_false, one_ne, nI_1]
      · left
        refine ⟨(nI (j + 1), mm P I J), ?_, rfl, by rw [hh, decide_eq_false h1, Bool.and_false]⟩
        simp (disch := omega) only [F_X12_isHeld_45, ↓bOM hP, ↓bAM, b1, ↓reduceIte, c1, bo, ce, h1, nI_1]
    · obtain ⟨rfl, q1⟩ := hq
      have c1 : nI (cHouses c).length ≤ nI (cHouses c).length := nI_le (Nat.le_refl _) (by omega)
      refine ⟨(0, mm P I J), ?_, by rw [q1]; rfl⟩
      simp only [F_X12_isHeld_2b, F_X12_isHeld_51, ↓bOM hP, ↓bAM, ↓reduceIte, b1, c1, xz0, Option.bind_some, Option.map_some]
  obtain ⟨r, h1, rfl⟩ := key
  exact h1
/-! ===== building ===== -/
def cBuild (c : Cst) (x o : Nat) : Cst := (c.1, cHouses c ++ [(x, o)], cStand c ||| 2 ^ (cHouses c).length, c.2.2.2.1, c.2.2.2.2)
def whyB (t : Txt) (c : Cst) (x o : Int) : Nat := if (0 ≤ x ∧ x < tN t) ∧ (0 ≤ o ∧ o < 5) then (if (cHouses c).length = 6 then 2 else if heldN c x.toNat (cHouses c).length then 3 else 0) else 1
theorem build_wf {t : Txt} {c : Cst} {n m x o : Nat} (hc : wfC t c n) (hnm : n ≤ m) (hx : x < tN t) (ho : o < 5) (hl : (cHouses c).length < 6) : wfC t (cBuild c x o) m := by
  obtain ⟨h1, h2, h3, h4, h5⟩ := hc
  have h5' : cMinute c ≤ 99 * n := h5
  refine ⟨h1, ⟨?_, fun q hq => ?_⟩, ?_, h4, ?_⟩
  · show (cHouses c ++ [(x, o)]).length ≤ 6
    rw [List.length_append]
    show (cHouses c).length + 1 ≤ 6
    omega
  · have hq' : q ∈ cHouses c ++ [(x, o)] := hq
    rcases List.mem_append.mp hq' with hq | hq
    · exact h2.2 q hq
    · rw [List.mem_singleton.mp hq]
      exact ⟨hx, ho⟩
  · show cStand c ||| 2 ^ (cHouses c).length < 2 ^ (cHouses c ++ [(x, o)]).length
    rw [List.length_append]
    show _ < 2 ^ ((cHouses c).length + 1)
    have p : 2 ^ (cHouses c).length < 2 ^ ((cHouses c).length + 1) := Nat.pow_lt_pow_right (by omega) (by omega)
    exact Nat.or_lt_two_pow (by omega) p
  · show cMinute c ≤ 99 * m
    have : 99 * n ≤ 99 * m := Nat.mul_le_mul_left _ hnm
    omega
theorem settle_C {P : Nat → Nat → Option Nat} (hP : GP P) {I : Nat → Nat → Int32} {J : Nat → Nat → Int64} {t : Txt} {c : Cst} {n k : Nat} (hk : k ∈ coastL) (hw : wfT t) (hc : wfC t c n) (hC : CoI I k t c) (a b : Int32) : ∃ I', F_X0_settle k a b (nI (tN t)) (mm P I J) = some (nI (whyB t c a.toInt b.toInt), mm P I' J) ∧ (whyB t c a.toInt b.toInt ≠ 0 → I' = I) ∧ (∀ y i, ¬ (k ≤ y ∧ y ≤ k + 3) → I' y i = I y i) ∧ (whyB t c a.toInt b.toInt = 0 → ∃ x o, a = nI x ∧ b = nI o ∧ x < tN t ∧ o < 5 ∧ (cHouses c).length < 6 ∧ CoI I' k t (cBuild c x o)) := by
  have hN := tN_le hw
  have hl := hc.2.1.1
  have slt := stand_lt hc
  have eN : (nI (tN t)).toInt = (tN t : Int) := nI_toInt (by omega)
  have e5 : (5 : Int32).toInt = 5 := by decide
  have b3 : I k 3 = nI (cHouses c).length := hC.2.1
  have b4 : I k 4 = nI (cStand c) := hC.2.2.2.1
  by_cases h : (0 ≤ a.toInt ∧ a.toInt < tN t) ∧ (0 ≤ b.toInt ∧ b.toInt < 5)
  · obtain ⟨x, hx, rfl⟩ := cell_of h.1 (by omega)
    obtain ⟨o, ho, rfl⟩ := cell_of (n := 5) h.2 (by omega)
    have wv : whyB t c (nI x).toInt (nI o).toInt = if (cHouses c).length = 6 then 2 else if heldN c x (cHouses c).length then 3 else 0 := by
      unfold whyB
      rw [if_pos h, nI_toInt (by omega), Int.toNat_natCast]
    rw [wv]
    have g1 : ¬ nI (tN t) ≤ nI x := nI_ge hx (by omega)
    have g2 : nI o < (5 : Int32) := nI_lt (b := 5) ho (by omega)
    have g0 := nI_pos (n := x) (by omega)
    have g0' := nI_pos (n := o) (by omega)
    by_cases h6 : (cHouses c).length = 6
    · rw [if_pos h6]
      have g3 : ¬ nI (cHouses c).length < (6 : Int32) := nI_nlt (b := 6) (by omega) (by omega)
      refine ⟨I, ?_, fun _ => rfl, fun _ _ _ => rfl, fun z => absurd z (by decide)⟩
      simp only [F_X0_settle, ↓reduceIte, g0, g1, g0', g2, ↓bOK hP hk, b3, g3]
      rfl
    · rw [if_neg h6]
      have g3 : nI (cHouses c).length < (6 : Int32) := nI_lt (b := 6) (by omega) (by omega)
      have bc := built_C hP (J := J) hk hw hc hC
      have blt := built_lt hw hc _ (Nat.le_refl _)
      have bt := bitN (s := builtN c (cHouses c).length) (c := x) (by omega) (by omega)
      rw [built_bit] at bt
      cases hb : heldN c x (cHouses c).length with
      | true =>
        rw [hb] at bt
        refine ⟨I, ?_, fun _ => rfl, fun _ _ _ => rfl, fun z => absurd z (by decide)⟩
        simp only [F_X0_settle, ↓reduceIte, g0, g1, g0', g2, ↓bOK hP hk, b3, g3, ↓bs bc, bt, one_ne]
        rfl
      | false =>
        rw [hb] at bt
        have p6 : 2 ^ (cHouses c).length < 2 ^ 6 := Nat.pow_lt_pow_right (by omega) (by omega)
        refine ⟨xu (xu (xu (xu I (k + 2) (cHouses c).length (nI x)) (k + 3) (cHouses c).length (nI o)) k 4 (nI (cStand c ||| 2 ^ (cHouses c).length))) k 3 (nI ((cHouses c).length + 1)), ?_, fun z => absurd rfl z, fun y i hy => by rw [xu_o (by omega), xu_o (by omega), xu_o (by omega), xu_o (by omega)], fun _ => ⟨x, o, rfl, rfl, hx, ho, by omega, fun i hi => ?_, ?_, fun i q hq => ?_, ?_, ?_, ?_⟩⟩
        · have y3 : xu I (k + 2) (cHouses c).length (nI x) k 3 = nI (cHouses c).length := by rw [xu_o (by omega)]; exact b3
          have y4 : xu (xu I (k + 2) (cHouses c).length (nI x)) (k + 3) (cHouses c).length (nI o) k 3 = nI (cHouses c).length := by rw [xu_o (by omega), xu_o (by omega)]; exact b3
          have y5 : xu (xu I (k + 2) (cHouses c).length (nI x)) (k + 3) (cHouses c).length (nI o) k 4 = nI (cStand c) := by rw [xu_o (by omega), xu_o (by omega)]; exact b4
          have y6 : ∀ v, xu (xu (xu I (k + 2) (cHouses c).length (nI x)) (k + 3) (cHouses c).length (nI o)) k 4 v k 3 = nI (cHouses c).length := fun v => by rw [xu_o (by omega), xu_o (by omega), xu_o (by omega)]; exact b3
          simp (disch := omega) only [F_X0_settle, ↓reduceIte, g0, g1, g0', g2, ↓bOK hP hk, b3, g3, ↓bs bc, bt, Bool.false_eq_true, y3, y4, y5, y6, one_shl, orN, nI_1]
          rfl
        · rw [xu_o (by omega), xu_o (by omega), xu_o (by omega), xu_o (by omega)]
          exact hC.1 i hi
        · rw [xu_self]
          show _ = nI (cHouses c ++ [(x, o)]).length
          rw [List.length_append]
          rfl
        · have hq' : (cHouses c ++ [(x, o)])[i]? = some q := hq
          by_cases hi : i < (cHouses c).length
          · rw [List.getElem?_append_left hi] at hq'
            rw [xu_o (by omega), xu_o (by omega), xu_o (by omega), xu_o (by omega), xu_o (by omega), xu_o (by omega), xu_o (by omega), xu_o (by omega)]
            exact hC.2.2.1 i q hq'
          · have hi2 := getlt hq'
            rw [List.length_append] at hi2
            have hi3 : i < (cHouses c).length + 1 := hi2
            have hi4 : i = (cHouses c).length := by omega
            subst hi4
            rw [List.getElem?_append_right (Nat.le_refl _), Nat.sub_self] at hq'
            cases hq'
            constructor
            · rw [xu_o (by omega), xu_o (by omega), xu_o (by omega), xu_self]
            · rw [xu_o (by omega), xu_o (by omega), xu_self]
        · rw [xu_o (by omega), xu_self]
          rfl
        · rw [xu_o (by omega), xu_o (by omega), xu_o (by omega), xu_o (by omega)]
          exact hC.2.2.2.2.1
        · rw [xu_o (by omega), xu_o (by omega), xu_o (by omega), xu_o (by omega)]
          exact hC.2.2.2.2.2
  · have wv : whyB t c a.toInt b.toInt = 1 := if_neg h
    rw [wv]
    refine ⟨I, ?_, fun _ => rfl, fun _ _ _ => rfl, fun z => absurd z (by decide)⟩
    unfold F_X0_settle
    by_cases h0 : a < 0
    · rw [if_pos h0]; rfl
    · have h1 := toInt_nneg h0
      rw [if_neg h0]
      by_cases h2 : nI (tN t) ≤ a
      · rw [if_pos h2]; rfl
      · have h3 : ¬ (nI (tN t)).toInt ≤ a.toInt := fun z => h2 (Int32.le_iff_toInt_le.mpr z)
        rw [if_neg h2]
        by_cases h4 : b < 0
        · rw [if_pos h4]; rfl
        · have h5 := toInt_nneg h4
          rw [if_neg h4, if_neg (show ¬ b < (5 : Int32) from fun z => by have := Int32.lt_iff_toInt_lt.mp z; omega)]
          rfl
