/-! ===== by turns ===== -/
def putN (f k : Nat) : Nat := anot (anot (anot f (2 ^ k)) (2 ^ (k + 1))) (2 ^ k / 2)
def nimN (f : Nat) : Nat := (nimL.getD f 0).toNatClampNeg
def hadN (f : Nat) : Nat → Nat
  | 0 => 0
  | k + 1 => if f.testBit k then hadN f k ||| 2 ^ nimN (putN f k) else hadN f k
theorem nim_val : ∀ f, f < 32 → nimL.getD f 0 = nI (nimN f) ∧ nimN f < 5 := by decide +kernel
theorem put_lt : ∀ f, f < 32 → ∀ k, k < 5 → putN f k < 32 ∧ (f.testBit k = true → cntN (putN f k) 5 < cntN f 5) := by decide +kernel
theorem had_ok : ∀ f, f < 32 → ∀ k, k < 6 → hadN f k < 64 := by decide +kernel
theorem mex_ok : ∀ f, f < 32 → (hadN f 5).testBit (nimN f) = false ∧ ∀ i, i < 5 → i < nimN f → (hadN f 5).testBit i = true := by decide +kernel
theorem putTo_M : ∀ f, f < 32 → ∀ k, k < 5 → ((nI f &&& (((1 : Int32) <<< (nI k &&& 31)) ^^^ (-1 : Int32))) &&& (((1 : Int32) <<< ((nI k + (1 : Int32)) &&& 31)) ^^^ (-1 : Int32))) &&& ((((1 : Int32) <<< (nI k &&& 31)) >>> ((1 : Int32) &&& 31)) ^^^ (-1 : Int32)) = nI (putN f k) := by decide +kernel
theorem after_C : ∀ f, f < 32 → ∀ k, k < 5 → (nI f &&& (((((1 : Int32) <<< (nI k &&& 31)) ||| ((1 : Int32) <<< ((nI k + (1 : Int32)) &&& 31))) ||| (((1 : Int32) <<< (nI k &&& 31)) >>> ((1 : Int32) &&& 31))) ^^^ (-1 : Int32))) = nI (putN f k) := by decide +kernel
theorem nim_M {P : Nat → Nat → Option Nat} (hP : GP P) {I : Nat → Nat → Int32} {J : Nat → Nat → Int64} : ∀ n f, f < 32 → cntN f 5 < n → R_X12_nimOf n 164 (nI f) (mm P I J) = some (nI (nimN f), mm P I J)
  | 0, f, hf, hc => by omega
  | n + 1, f, hf, hc => by
    have ih := nim_M hP (I := I) (J := J) n
    have fin : F_X12_nimOf_38 (R_X12_nimOf n) (nI (hadN f 5)) (mm P I J) = some (nI (nimN f), mm P I J) := by
      obtain ⟨m1, m2⟩ := mex_ok f hf
      have m3 := (nim_val f hf).2
      have h5 := had_ok f hf 5 (by omega)
      unfold F_X12_nimOf_38 F_X12_nimOf_40
      refine xit_run (fun j => (nI j, mm P I J)) (nimN f) rfl (fun j hj => ?_) ?_ (by omega)
      · have ii := isInM (m := hadN f 5) (c := j) (by omega) (by omega) (mm P I J)
        rw [m2 j (by omega) hj] at ii
        simp only [F_X12_nimOf_40b, ↓bs ii, ↓reduceIte, one_ne, nI_1]
      · have ii := isInM (m := hadN f 5) (c := nimN f) (by omega) (by omega) (mm P I J)
        rw [m1] at ii
        simp only [F_X12_nimOf_40b, F_X12_nimOf_55, ↓bs ii, Bool.false_eq_true, ↓reduceIte, Option.map_some]
    show F_X12_nimOf (R_X12_nimOf n) 164 (nI f) (mm P I J) = _
    unfold F_X12_nimOf F_X12_nimOf_4
    refine xit_run (fun k => (nI (hadN f k), nI k, mm P I J)) 5 rfl (fun k hk => ?_) ?_ (by omega)
    · have c1 : ¬ (5 : Int32) ≤ nI k := nI_ge (b := 5) hk (by omega)
      have ii := isInM (m := f) (c := k) (by omega) (by omega) (mm P I J)
      have hl := had_ok f hf k (by omega)
      obtain ⟨p1, p2⟩ := put_lt f hf k hk
      cases hb : f.testBit k with
      | true =>
        rw [hb] at ii
        have r := ih (putN f k) p1 (by have := p2 hb; omega)
        have pt : F_X12_putTo (nI f) (nI k) (mm P I J) = some (nI (putN f k), mm P I J) := by
          unfold F_X12_putTo
          rw [putTo_M f hf k hk]
        have nl := (nim_val (putN f k) p1).2
        have pw : 2 ^ nimN (putN f k) < 2 ^ 5 := Nat.pow_lt_pow_right (by omega) nl
        simp (disch := omega) only [F_X12_nimOf_4b, F_X12_nimOf_32, ↓reduceIte, c1, ↓bs ii, one_ne, ↓bs pt, ↓bOM hP, ↓bs r, one_shl, orN, ↓Option.bind_some, nI_1, hadN, hb]
      | false =>
        rw [hb] at ii
        simp (disch := omega) only [F_X12_nimOf_4b, F_X12_nimOf_32, ↓reduceIte, c1, ↓bs ii, Bool.false_eq_true, nI_1, hadN, hb]
    · have c1 : (5 : Int32) ≤ nI 5 := by decide
      simp only [F_X12_nimOf_4b, ↓reduceIte, c1, fin, Option.map_some]
theorem nimX {P : Nat → Nat → Option Nat} (hP : GP P) {I : Nat → Nat → Int32} {J : Nat → Nat → Int64} {f : Nat} (hf : f < 32) : Fx_X12_nimOf 164 (nI f) (mm P I J) = some (nI (nimN f), mm P I J) := nim_M hP 7 f hf (by have := cntN_le f 5; omega)
/-- may a house be put there -/
def freeB (c : Cst) (w row k : Nat) : Bool := !heldN c (w * row + k) (cHouses c).length && !(decide (0 < k) && heldN c (w * row + k - 1) (cHouses c).length) && !(decide (k < w - 1) && heldN c (w * row + k + 1) (cHouses c).length)
def freeN (c : Cst) (w row : Nat) : Nat → Nat
  | 0 => 0
  | k + 1 => freeN c w row k ||| (if freeB c w row k then 2 ^ k else 0)
theorem freeN_bit (c : Cst) (w row b : Nat) : ∀ j, (freeN c w row j).testBit b = (decide (b < j) && freeB c w row b)
  | 0 => by unfold freeN; rw [Nat.zero_testBit, decide_eq_false (by omega)]; rfl
  | j + 1 => by
    have ih := freeN_bit c w row b j
    unfold freeN
    rw [Nat.testBit_or, ih, ite_pow_bit]
    by_cases e : j = b
    · subst e
      rw [decide_eq_false (show ¬ j < j by omega), decide_eq_true (show j < j + 1 by omega), decide_eq_true rfl]
      cases freeB c w row j <;> rfl
    · rw [decide_eq_false e, Bool.and_false, Bool.or_false, show decide (b < j + 1) = decide (b < j) by rw [decide_eq_decide]; omega]
theorem freeN_lt (c : Cst) (w row : Nat) {j : Nat} (hj : j ≤ 5) : freeN c w row j < 32 := by
  apply Nat.lt_pow_two_of_testBit (n := 5)
  intro i hi
  rw [freeN_bit, decide_eq_false (by omega)]
  rfl
theorem free_M {P : Nat → Nat → Option Nat} (hP : GP P) {I : Nat → Nat → Int32} {J : Nat → Nat → Int64} {t : Txt} {c : Cst} {n row : Nat} (hw : wfT t) (hc : wfC t c n) (hA : LandA (I 165) 0 t) (hD : CoastA (I 165) 67 t c) (hr : row < tR t) : F_X12_freeIn 164 (nI row) (mm P I J) = some (nI (freeN c (tW t) row (tW t)), mm P I J) := by
  have hw' := hw
  obtain ⟨⟨r1, r5⟩, ⟨w1, w5⟩, -⟩ := hw'
  have a2 : I 165 2 = nI (tW t) := hA.2.2.1
  have hm : tW t * row ≤ 5 * 5 := Nat.mul_le_mul w5 (by omega)
  have hh := fun x (hx : x < 2 ^ 31) => held_M hP (I := I) (J := J) hw hc hD (x := x) hx
  have w1' : nI (tW t) - 1 = nI (tW t - 1) := pk_sub (b := 1) (by omega)
  unfold F_X12_freeIn F_X12_freeIn_4
  refine xit_run (fun k => (nI (freeN c (tW t) row k), nI k, mm P I J)) (tW t) rfl (fun k hk => ?_) ?_ (by omega)
  · have c1 : ¬ nI (tW t) ≤ nI k := nI_ge hk (by omega)
    have ix : nI (tW t) * nI row + nI k = nI (tW t * row + k) := by rw [pk_mul, nI_add]
    have fl := freeN_lt c (tW t) row (j := k) (by omega)
    have pk : 2 ^ k < 2 ^ 5 := Nat.pow_lt_pow_right (by omega) (by omega)
    have yes : freeB c (tW t) row k = true → F_X12_freeIn_73 164 (nI row) (nI (freeN c (tW t) row k)) (nI k) (mm P I J) = some (.inl (nI (freeN c (tW t) row (k + 1)), nI (k + 1), mm P I J)) := by
      intro hb
      simp (disch := omega) only [F_X12_freeIn_73, F_X12_freeIn_78, F_X12_freeIn_93, ↓reduceIte, one_ne, one_shl, orN, ↓Option.bind_some, nI_1, freeN, hb]
    have no : freeB c (tW t) row k = false → F_X12_freeIn_77 164 (nI row) (nI (freeN c (tW t) row k)) (nI k) (mm P I J) = some (.inl (nI (freeN c (tW t) row (k + 1)), nI (k + 1), mm P I J)) := by
      intro hb
      simp only [F_X12_freeIn_77, F_X12_freeIn_78, F_X12_freeIn_93, ↓reduceIte, ↓Option.bind_some, nI_1, freeN, hb, Bool.false_eq_true, Nat.or_zero, Int32.or_zero]
    have s50 : heldN c (tW t * row + k) (cHouses c).length = false → (0 < k → heldN c (tW t * row + k - 1) (cHouses c).length = false) → F_X12_freeIn_50 164 (nI row) (nI (freeN c (tW t) row k)) (nI k) (nI (tW t * row + k)) (mm P I J) = some (.inl (nI (freeN c (tW t) row (k + 1)), nI (k + 1), mm P I J)) := by
      intro h1 h2
      have hfree : freeB c (tW t) row k = !(decide (k < tW t - 1) && heldN c (tW t * row + k + 1) (cHouses c).length) := by
        unfold freeB
        rw [h1]
        by_cases hk0 : 0 < k
        · rw [h2 hk0]; simp
        · rw [decide_eq_false hk0]; simp
      unfold F_X12_freeIn_50
      simp only [↓bOM hP, ↓bAM, a2]
      rw [w1']
      by_cases hk1 : k < tW t - 1
      · have h3 := hh (tW t * row + k + 1) (by omega)
        rw [if_neg (nI_ge hk1 (by omega)), nI_1]
        simp only [↓bOM hP, ↓bs h3]
        cases hb : heldN c (tW t * row + k + 1) (cHouses c).length with
        | true =>
          rw [hb, decide_eq_true hk1] at hfree
          exact no hfree
        | false =>
          rw [hb, Bool.and_false] at hfree
          exact yes hfree
      · rw [if_pos (nI_le (by omega) (by omega))]
        rw [decide_eq_false hk1, Bool.false_and] at hfree
        exact yes hfree
    have h0 := hh (tW t * row + k) (by omega)
    unfold F_X12_freeIn_4b
    simp only [↓bOM hP, ↓bAM, a2, ↓reduceIte, c1]
    rw [ix, Option.bind_some]
    simp only [↓bOM hP, ↓bs h0]
    cases hb : heldN c (tW t * row + k) (cHouses c).length with
    | true =>
      have hf : freeB c (tW t) row k = false := by unfold freeB; rw [hb]; rfl
      exact no hf
    | false =>
      simp only [Bool.false_eq_true, ↓reduceIte]
      by_cases hk0 : 0 < k
      · have z : ¬ nI k ≤ 0 := nI_ge (a := 0) hk0 (by omega)
        have e1 : nI (tW t * row + k) - 1 = nI (tW t * row + k - 1) := pk_sub (b := 1) (by omega)
        have h3 := hh (tW t * row + k - 1) (by omega)
        rw [if_neg z, e1]
        simp only [↓bOM hP, ↓bs h3]
        cases hb2 : heldN c (tW t * row + k - 1) (cHouses c).length with
        | true =>
          have hf : freeB c (tW t) row k = false := by unfold freeB; rw [hb, hb2, decide_eq_true hk0]; rfl
          exact no hf
        | false => exact s50 hb (fun _ => hb2)
      · have z : nI k ≤ 0 := nI_le (b := 0) (by omega) (by omega)
        rw [if_pos z]
        exact s50 hb (fun hz => absurd hz hk0)
  · have c1 : nI (tW t) ≤ nI (tW t) := nI_le (Nat.le_refl _) (by omega)
    simp only [F_X12_freeIn_4b, F_X12_freeIn_101, ↓bOM hP, ↓bAM, a2, ↓reduceIte, c1, Option.map_some]
theorem free_C {P : Nat → Nat → Option Nat} (hP : GP P) {I : Nat → Nat → Int32} {J : Nat → Nat → Int64} {t : Txt} {c : Cst} {n row : Nat} (hw : wfT t) (hc : wfC t c n) (hL : LandC (mm P I J) 14 t) (hC : CoI I 21 t c) (hr : row < tR t) : F_X11_freeIn 0 (nI row) (mm P I J) = some (nI (freeN c (tW t) row (tW t)), mm P I J) := by
  have hw' := hw
  obtain ⟨⟨r1, r5⟩, ⟨w1, w5⟩, -⟩ := hw'
  have l1 : I 14 1 = nI (tW t) := hL.2.1
  have bc := built_C hP (J := J) (k := 21) (by decide) hw hc hC
  have blt := built_lt hw hc _ (Nat.le_refl _)
  have hm : row * tW t ≤ 4 * 5 := Nat.mul_le_mul (by omega) w5
  have p5 : 2 ^ tW t ≤ 2 ^ 5 := Nat.pow_le_pow_right (by omega) w5
  have pp := Nat.two_pow_pos (tW t)
  have bd := Nat.div_le_self (builtN c (cHouses c).length) (2 ^ (row * tW t))
  have blt2 : builtN c (cHouses c).length / 2 ^ (row * tW t) &&& (2 ^ tW t - 1) < 2 ^ 5 := Nat.and_lt_two_pow _ (by omega)
  have e1 : nI (builtN c (cHouses c).length) >>> (nI (row * tW t) &&& 31) = nI (builtN c (cHouses c).length / 2 ^ (row * tW t)) := shrN (by omega) (by omega)
  have e2 : nI (builtN c (cHouses c).length / 2 ^ (row * tW t)) &&& nI (2 ^ tW t - 1) = nI (builtN c (cHouses c).length / 2 ^ (row * tW t) &&& (2 ^ tW t - 1)) := andN (by omega) (by omega)
  have e3 : ∀ x, x < 2 ^ 5 → nI x <<< ((1 : Int32) &&& 31) = nI (x * 2 ^ 1) := fun x hx => shlN (c := 1) (by omega) (by omega)
  have e4 : ∀ x, x < 2 ^ 5 → nI x >>> ((1 : Int32) &&& 31) = nI (x / 2 ^ 1) := fun x hx => shrN (c := 1) (by omega) (by omega)
  have o1 : ∀ x, x < 2 ^ 5 → (x ||| x * 2 ^ 1) < 2 ^ 6 := fun x hx => Nat.or_lt_two_pow (by omega) (by omega)
  have o2 : ∀ x, x < 2 ^ 5 → (x ||| x * 2 ^ 1) ||| x / 2 ^ 1 < 2 ^ 6 := fun x hx => Nat.or_lt_two_pow (o1 x hx) (by have := Nat.div_le_self x (2 ^ 1); omega)
  have main : anot (2 ^ tW t - 1) (((builtN c (cHouses c).length / 2 ^ (row * tW t) &&& (2 ^ tW t - 1)) ||| (builtN c (cHouses c).length / 2 ^ (row * tW t) &&& (2 ^ tW t - 1)) * 2 ^ 1) ||| (builtN c (cHouses c).length / 2 ^ (row * tW t) &&& (2 ^ tW t - 1)) / 2 ^ 1) = freeN c (tW t) row (tW t) := by
    apply Nat.eq_of_testBit_eq
    intro b
    rw [anot_bit, Nat.testBit_or, Nat.testBit_or, Nat.testBit_mul_two_pow, Nat.testBit_div_two_pow, Nat.testBit_and, Nat.testBit_and, Nat.testBit_and, Nat.testBit_two_pow_sub_one, Nat.testBit_two_pow_sub_one, Nat.testBit_two_pow_sub_one, Nat.testBit_div_two_pow, Nat.testBit_div_two_pow, Nat.testBit_div_two_pow, freeN_bit, built_bit, built_bit, built_bit]
    by_cases hb : b < tW t
    · rw [decide_eq_true hb, Bool.true_and, Bool.true_and]
      unfold freeB
      rw [show b + row * tW t = tW t * row + b by rw [Nat.mul_comm, Nat.add_comm], show b + 1 + row * tW t = tW t * row + b + 1 by rw [Nat.mul_comm row, Nat.add_comm, Nat.add_assoc]]
      by_cases h0 : 0 < b
      · rw [show b - 1 + row * tW t = tW t * row + b - 1 by rw [Nat.mul_comm row]; omega, decide_eq_true h0, decide_eq_true (show 1 ≤ b by omega), decide_eq_true (show b - 1 < tW t by omega), show decide (b + 1 < tW t) = decide (b < tW t - 1) by rw [decide_eq_decide]; omega]
        cases heldN c (tW t * row + b) (cHouses c).length <;> cases heldN c (tW t * row + b - 1) (cHouses c).length <;> cases heldN c (tW t * row + b + 1) (cHouses c).length <;> cases decide (b < tW t - 1) <;> rfl
      · rw [decide_eq_false h0, decide_eq_false (show ¬ 1 ≤ b by omega), show decide (b + 1 < tW t) = decide (b < tW t - 1) by rw [decide_eq_decide]; omega]
        cases heldN c (tW t * row + b) (cHouses c).length <;> cases heldN c (tW t * row + b + 1) (cHouses c).length <;> cases decide (b < tW t - 1) <;> rfl
    · rw [decide_eq_false hb, Bool.false_and, Bool.false_and]
  unfold F_X11_freeIn
  simp only [↓bOC hP, l1]
  rw [pow_sub_one (by omega), Option.bind_some]
  simp only [↓bOC hP, ↓bs bc, l1]
  rw [pk_mul, e1, e2, Option.bind_some, e3 _ blt2, e4 _ blt2, orN (by omega) (by omega), orN (by have := o1 _ blt2; omega) (by omega), anotN (by omega) (by have := o2 _ blt2; omega), main]
def findB (p : Nat → Bool) (b : Nat) : Nat → Nat → Int32
  | _, 0 => -1
  | j, n + 1 => if p j then nI (b + j) else findB p b (j + 1) n
def goodP (f k : Nat) : Bool := f.testBit k && decide (nimN (putN f k) = 0)
theorem sim_puts (a1 : Int32) : xSim INV (F_X11_puts 0 a1) (F_X12_puts 164 a1) := by
  refine xSim_qn fun n M hn hI => ?_
  have hnim := hI.2.2.2.2.2.2
  obtain ⟨P, I, J, rfl, hP⟩ := G_mm hI.1
  obtain ⟨t, c, cs, nx, hw, hL, hA, hc, hC, hD, -⟩ := INV_sh hI
  have hw' := hw
  obtain ⟨⟨r1, r5⟩, ⟨w1, w5⟩, -⟩ := hw'
  have l0 : I 14 0 = nI (tR t) := hL.1
  have l1 : I 14 1 = nI (tW t) := hL.2.1
  have hA1 : LandA (xu I 164 0 0 165) 0 t := LandA_cg (A := I 165) hw (fun x _ => xu_o (by omega)) hA
  have hD1 : CoastA (xu I 164 0 0 165) 67 t c := CoastA_cg (A := I 165) hw hc (fun x _ => xu_o (by omega)) hD
  have a1' : xu I 164 0 0 165 1 = nI (tR t) := hA1.2.1
  have a2' : xu I 164 0 0 165 2 = nI (tW t) := hA1.2.2.1
  have eR : (nI (tR t)).toInt = (tR t : Int) := nI_toInt (by omega)
  by_cases h : 0 ≤ a1.toInt ∧ a1.toInt < tR t
  · obtain ⟨row, hr, rfl⟩ := cell_of h (by omega)
    have fl := freeN_lt c (tW t) row (j := tW t) w5
    have hm : tW t * row ≤ 5 * 4 := Nat.mul_le_mul w5 (by omega)
    have C : F_X11_puts_26 0 (nI row) (nI (freeN c (tW t) row (tW t))) 0 (mm P I J) = some (findB (goodP (freeN c (tW t) row (tW t))) (tW t * row) 0 (tW t), mm P I J) := by
      have key : ∃ r : Int32 × xM, xit (F_X11_puts_26b 0 (nI row) (nI (freeN c (tW t) row (tW t)))) xFU (nI 0, mm P I J) = some r ∧ r = (findB (goodP (freeN c (tW t) row (tW t))) (tW t * row) 0 (tW t), mm P I J) := by
        refine xit_inv (fun j z => z = (nI j, mm P I J) ∧ findB (goodP (freeN c (tW t) row (tW t))) (tW t * row) 0 (tW t) = findB (goodP (freeN c (tW t) row (tW t))) (tW t * row) j (tW t - j)) _ (tW t) ⟨rfl, rfl⟩ (fun j z hj hq => ?_) (fun z hq => ?_) (by omega)
        · obtain ⟨rfl, q⟩ := hq
          rw [show tW t - j = (tW t - (j + 1)) + 1 by omega] at q
          have q' : findB (goodP (freeN c (tW t) row (tW t))) (tW t * row) 0 (tW t) = if goodP (freeN c (tW t) row (tW t)) j then nI (tW t * row + j) else findB (goodP (freeN c (tW t) row (tW t))) (tW t * row) (j + 1) (tW t - (j + 1)) := q
          have c1 : ¬ nI (tW t) ≤ nI j := nI_ge hj (by omega)
          have bt := bitN (s := freeN c (tW t) row (tW t)) (c := j) (by omega) (by omega)
          cases hb : (freeN c (tW t) row (tW t)).testBit j with
          | false =>
            rw [hb] at bt
            have hg : goodP (freeN c (tW t) row (tW t)) j = false := by unfold goodP; rw [hb]; rfl
            rw [hg, if_neg (by decide)] at q'
            refine Or.inl ⟨(nI (j + 1), mm P I J), ?_, rfl, q'⟩
            simp only [F_X11_puts_26b, F_X11_puts_70, ↓bOC hP, l1, ↓reduceIte, c1, bt, Bool.false_eq_true, nI_1]
          | true =>
            rw [hb] at bt
            obtain ⟨pl, -⟩ := put_lt _ fl j (by omega)
            have af : F_X11_afterPut (nI (freeN c (tW t) row (tW t))) (nI j) (mm P I J) = some (nI (putN (freeN c (tW t) row (tW t)) j), mm P I J) := by
              unfold F_X11_afterPut
              rw [after_C _ fl j (by omega)]
            have v : I 124 (putN (freeN c (tW t) row (tW t)) j) = nI (nimN (putN (freeN c (tW t) row (tW t)) j)) := by
              have e := hnim _ pl
              rw [(nim_val _ pl).1] at e
              exact e
            have nl := (nim_val _ pl).2
            have ez : nI (nimN (putN (freeN c (tW t) row (tW t)) j)) = 0 ↔ nimN (putN (freeN c (tW t) row (tW t)) j) = 0 := nI_eqI (b := 0) (by omega) (by omega)
            by_cases hz : nimN (putN (freeN c (tW t) row (tW t)) j) = 0
            · have hg : goodP (freeN c (tW t) row (tW t)) j = true := by unfold goodP; rw [hb, decide_eq_true hz]; rfl
              rw [hg, if_pos rfl] at q'
              refine Or.inr ⟨(nI (tW t * row + j), mm P I J), ?_, by rw [q']⟩
              have mu : nI row * nI (tW t) + nI j = nI (tW t * row + j) := by rw [pk_mul, nI_add, Nat.mul_comm]
              simp (disch := omega) only [F_X11_puts_26b, F_X11_puts_58, ↓bOC hP, ↓bAC, l1, ↓reduceIte, c1, bt, one_ne, ↓bs af, v, ez.mpr hz, mu, Option.map_some]
            · have hg : goodP (freeN c (tW t) row (tW t)) j = false := by unfold goodP; rw [hb, decide_eq_false hz]; rfl
              rw [hg, if_neg (by decide)] at q'
              refine Or.inl ⟨(nI (j + 1), mm P I J), ?_, rfl, q'⟩
              simp (disch := omega) only [F_X11_puts_26b, F_X11_puts_70, ↓bOC hP, ↓bAC, l1, ↓reduceIte, c1, bt, one_ne, ↓bs af, v, ez, hz, nI_1]
        · obtain ⟨rfl, q⟩ := hq
          have c1 : nI (tW t) ≤ nI (tW t) := nI_le (Nat.le_refl _) (by omega)
          refine ⟨(-1, mm P I J), ?_, ?_⟩
          · simp only [F_X11_puts_26b, F_X11_puts_76, ↓bOC hP, l1, ↓reduceIte, c1, Option.map_some]
          · rw [q, Nat.sub_self]; rfl
      obtain ⟨r, k1, rfl⟩ := key
      exact k1
    have D : F_X12_puts_34 164 (nI row) (nI (freeN c (tW t) row (tW t))) 0 (mm P (xu I 164 0 0) J) = some (findB (goodP (freeN c (tW t) row (tW t))) (tW t * row) 0 (tW t), mm P (xu I 164 0 0) J) := by
      have key : ∃ r : Int32 × xM, xit (F_X12_puts_34b 164 (nI row) (nI (freeN c (tW t) row (tW t)))) xFU (nI 0, mm P (xu I 164 0 0) J) = some r ∧ r = (findB (goodP (freeN c (tW t) row (tW t))) (tW t * row) 0 (tW t), mm P (xu I 164 0 0) J) := by
        refine xit_inv (fun j z => z = (nI j, mm P (xu I 164 0 0) J) ∧ findB (goodP (freeN c (tW t) row (tW t))) (tW t * row) 0 (tW t) = findB (goodP (freeN c (tW t) row (tW t))) (tW t * row) j (tW t - j)) _ (tW t) ⟨rfl, rfl⟩ (fun j z hj hq => ?_) (fun z hq => ?_) (by omega)
        · obtain ⟨rfl, q⟩ := hq
          rw [show tW t - j = (tW t - (j + 1)) + 1 by omega] at q
          have q' : findB (goodP (freeN c (tW t) row (tW t))) (tW t * row) 0 (tW t) = if goodP (freeN c (tW t) row (tW t)) j then nI (tW t * row + j) else findB (goodP (freeN c (tW t) row (tW t))) (tW t * row) (j + 1) (tW t - (j + 1)) := q
          have c1 : ¬ nI (tW t) ≤ nI j := nI_ge hj (by omega)
          have ii := isInM (m := freeN c (tW t) row (tW t)) (c := j) (by omega) (by omega) (mm P (xu I 164 0 0) J)
          cases hb : (freeN c (tW t) row (tW t)).testBit j with
          | false =>
            rw [hb] at ii
            have hg : goodP (freeN c (tW t) row (tW t)) j = false := by unfold goodP; rw [hb]; rfl
            rw [hg, if_neg (by decide)] at q'
            refine Or.inl ⟨(nI (j + 1), mm P (xu I 164 0 0) J), ?_, rfl, q'⟩
            simp only [F_X12_puts_34b, F_X12_puts_76, ↓bOM hP, ↓bAM, a2', ↓reduceIte, c1, ↓bs ii, Bool.false_eq_true, nI_1]
          | true =>
            rw [hb] at ii
            obtain ⟨pl, -⟩ := put_lt _ fl j (by omega)
            have pt : F_X12_putTo (nI (freeN c (tW t) row (tW t))) (nI j) (mm P (xu I 164 0 0) J) = some (nI (putN (freeN c (tW t) row (tW t)) j), mm P (xu I 164 0 0) J) := by
              unfold F_X12_putTo
              rw [putTo_M _ fl j (by omega)]
            have nm := nimX hP (I := xu I 164 0 0) (J := J) pl
            have nl := (nim_val _ pl).2
            have ez : nI (nimN (putN (freeN c (tW t) row (tW t)) j)) = 0 ↔ nimN (putN (freeN c (tW t) row (tW t)) j) = 0 := nI_eqI (b := 0) (by omega) (by omega)
            by_cases hz : nimN (putN (freeN c (tW t) row (tW t)) j) = 0
            · have hg : goodP (freeN c (tW t) row (tW t)) j = true := by unfold goodP; rw [hb, decide_eq_true hz]; rfl
              rw [hg, if_pos rfl] at q'
              refine Or.inr ⟨(nI (tW t * row + j), mm P (xu I 164 0 0) J), ?_, by rw [q']⟩
              have mu : nI (tW t) * nI row + nI j = nI (tW t * row + j) := by rw [pk_mul, nI_add]
              simp (disch := omega) only [F_X12_puts_34b, F_X12_puts_65, ↓bOM hP, ↓bAM, a2', ↓reduceIte, c1, ↓bs ii, one_ne, ↓bs pt, ↓bs nm, ez.mpr hz, mu, Option.map_some]
            · have hg : goodP (freeN c (tW t) row (tW t)) j = false := by unfold goodP; rw [hb, decide_eq_false hz]; rfl
              rw [hg, if_neg (by decide)] at q'
              refine Or.inl ⟨(nI (j + 1), mm P (xu I 164 0 0) J), ?_, rfl, q'⟩
              simp (disch := omega) only [F_X12_puts_34b, F_X12_puts_76, ↓bOM hP, ↓bAM, a2', ↓reduceIte, c1, ↓bs ii, one_ne, ↓bs pt, ↓bs nm, ez, hz, nI_1]
        · obtain ⟨rfl, q⟩ := hq
          have c1 : nI (tW t) ≤ nI (tW t) := nI_le (Nat.le_refl _) (by omega)
          refine ⟨(-1, mm P (xu I 164 0 0) J), ?_, ?_⟩
          · simp only [F_X12_puts_34b, F_X12_puts_82, ↓bOM hP, ↓bAM, a2', ↓reduceIte, c1, Option.map_some]
          · rw [q, Nat.sub_self]; rfl
      obtain ⟨r, k1, rfl⟩ := key
      exact k1
    have fc := free_C hP (J := J) hw hc hL hC hr
    have fm := free_M hP (J := J) hw hc hA1 hD1 hr
    have c1 : nI row < nI (tR t) := nI_lt hr (by omega)
    refine ⟨findB (goodP (freeN c (tW t) row (tW t))) (tW t * row) 0 (tW t), mm P I J, mm P (xu I 164 0 0) J, ?_, Sc.rf, ?_, thr_Sc⟩
    · simp only [F_X11_puts, ↓reduceIte, nI_pos (n := row) (by omega), ↓bOC hP, l0, c1, ↓bs fc, C]
    · simp only [F_X12_puts, ↓bOM hP, ↓bAM, a1', within_nI _ (show tR t < 2 ^ 30 by omega), h, and_self, ↓reduceIte, ↓Option.bind_some, one_ne, ↓bs fm, D]
  · refine ⟨-2, mm P I J, thr (mm P I J), ?_, Sc.rf, ?_, thr_Sc⟩
    · unfold F_X11_puts
      by_cases h0 : a1 < 0
      · rw [if_pos h0]
      · have h1 := toInt_nneg h0
        rw [if_neg h0]
        simp only [↓bOC hP, l0]
        rw [if_neg (show ¬ a1 < nI (tR t) from fun z => by have := Int32.lt_iff_toInt_lt.mp z; omega)]
    · simp only [F_X12_puts, ↓bOM hP, ↓bAM, a1', within_nI _ (show tR t < 2 ^ 30 by omega), if_neg h, ↓reduceIte, ↓Option.bind_some, thr_mm]
def winS (c : Cst) (w : Nat) : Nat → Int32
  | 0 => 0
  | r + 1 => winS c w r ^^^ nI (nimN (freeN c w r w))
theorem sim_wins : xSim INV (F_X11_wins 0) (F_X12_wins 164) := by
  refine xSim_qn fun n M hn hI => ?_
  have hnim := hI.2.2.2.2.2.2
  obtain ⟨P, I, J, rfl, hP⟩ := G_mm hI.1
  obtain ⟨t, c, cs, nx, hw, hL, hA, hc, hC, hD, -⟩ := INV_sh hI
  have hw' := hw
  obtain ⟨⟨r1, r5⟩, ⟨w1, w5⟩, -⟩ := hw'
  have l0 : I 14 0 = nI (tR t) := hL.1
  have hA1 : LandA (xu I 164 0 0 165) 0 t := LandA_cg (A := I 165) hw (fun x _ => xu_o (by omega)) hA
  have hD1 : CoastA (xu I 164 0 0 165) 67 t c := CoastA_cg (A := I 165) hw hc (fun x _ => xu_o (by omega)) hD
  have a1' : xu I 164 0 0 165 1 = nI (tR t) := hA1.2.1
  refine ⟨if winS c (tW t) (tR t) = 0 then 0 else 1, mm P I J, mm P (xu I 164 0 0) J, ?_, Sc.rf, ?_, thr_Sc⟩
  · unfold F_X11_wins F_X11_wins_4
    refine xit_run (fun r => (winS c (tW t) r, nI r, mm P I J)) (tR t) rfl (fun r hr => ?_) ?_ (by omega)
    · have c1 : ¬ nI (tR t) ≤ nI r := nI_ge hr (by omega)
      have fl := freeN_lt c (tW t) r (j := tW t) w5
      have fc := free_C hP (J := J) hw hc hL hC hr
      have v : I 124 (freeN c (tW t) r (tW t)) = nI (nimN (freeN c (tW t) r (tW t))) := by
        have e := hnim _ fl
        rw [(nim_val _ fl).1] at e
        exact e
      simp (disch := omega) only [F_X11_wins_4b, ↓bOC hP, ↓bAC, l0, ↓reduceIte, c1, ↓bs fc, v, ↓Option.bind_some, nI_1, winS]
    · have c1 : nI (tR t) ≤ nI (tR t) := nI_le (Nat.le_refl _) (by omega)
      simp only [F_X11_wins_4b, F_X11_wins_34, ↓bOC hP, l0, ↓reduceIte, c1]
      split <;> rfl
  · unfold F_X12_wins F_X12_wins_9
    simp only [↓bOM hP]
    refine xit_run (fun r => (winS c (tW t) r, nI r, mm P (xu I 164 0 0) J)) (tR t) rfl (fun r hr => ?_) ?_ (by omega)
    · have c1 : ¬ nI (tR t) ≤ nI r := nI_ge hr (by omega)
      have fl := freeN_lt c (tW t) r (j := tW t) w5
      have fm := free_M hP (J := J) hw hc hA1 hD1 hr
      have nm := nimX hP (I := xu I 164 0 0) (J := J) fl
      simp (disch := omega) only [F_X12_wins_9b, ↓bOM hP, ↓bAM, a1', ↓reduceIte, c1, ↓bs fm, ↓bs nm, ↓Option.bind_some, nI_1, winS]
    · have c1 : nI (tR t) ≤ nI (tR t) := nI_le (Nat.le_refl _) (by omega)
      simp only [F_X12_wins_9b, F_X12_wins_37, ↓bOM hP, ↓bAM, a1', ↓reduceIte, c1]
      split <;> rfl
