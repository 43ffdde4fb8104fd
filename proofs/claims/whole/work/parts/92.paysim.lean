/-! ===== payments: balances of a set ===== -/
def bS (b : Nat → Int32) (s : Nat) : Nat → Int32
  | 0 => 0
  | j + 1 => if s.testBit j then bS b s j + b j else bS b s j
def zB (b : Nat → Int32) (s : Nat) : Bool := decide (bS b s 5 = 0)
theorem bS_split (b : Nat → Int32) {s v : Nat} (h : subB v s = true) : ∀ j, bS b s j = bS b v j + bS b (anot s v) j
  | 0 => by show (0 : Int32) = 0 + 0; decide
  | j + 1 => by
    have ih := bS_split b h j
    have e : ∀ x, bS b x (j + 1) = if x.testBit j then bS b x j + b j else bS b x j := fun _ => rfl
    rw [e, e, e, anot_bit]
    cases hs : s.testBit j with
    | false =>
      have hv : v.testBit j = false := by
        cases hv : v.testBit j with
        | false => rfl
        | true =>
          have := sub_iff.mp h j hv
          rw [hs] at this
          cases this
      rw [hv]
      exact ih
    | true =>
      cases hv : v.testBit j with
      | false =>
        show bS b s j + b j = bS b v j + (bS b (anot s v) j + b j)
        rw [ih, Int32.add_assoc]
      | true =>
        show bS b s j + b j = bS b v j + b j + bS b (anot s v) j
        rw [ih, Int32.add_assoc, Int32.add_comm (bS b (anot s v) j), Int32.add_assoc]
theorem zB_ok (b : Nat → Int32) : okZ (zB b) := fun s v hs h1 h2 h3 => by
  unfold zB at h2 h3 ⊢
  rw [decide_eq_true_eq] at h2 h3 ⊢
  have e := bS_split b h1 5
  rw [h2, h3, Int32.zero_add] at e
  exact e.symm
theorem zB_one (b : Nat → Int32) {o : Nat} (ho : o < 5) : zB b (2 ^ o) = decide (b o = 0) := by
  have e : bS b (2 ^ o) 5 = b o := by
    have h : o = 0 ∨ o = 1 ∨ o = 2 ∨ o = 3 ∨ o = 4 := by omega
    rcases h with rfl | rfl | rfl | rfl | rfl
    · exact (show bS b 1 5 = 0 + b 0 from rfl).trans (Int32.zero_add _)
    · exact (show bS b 2 5 = 0 + b 1 from rfl).trans (Int32.zero_add _)
    · exact (show bS b 4 5 = 0 + b 2 from rfl).trans (Int32.zero_add _)
    · exact (show bS b 8 5 = 0 + b 3 from rfl).trans (Int32.zero_add _)
    · exact (show bS b 16 5 = 0 + b 4 from rfl).trans (Int32.zero_add _)
  unfold zB
  rw [e]
theorem ind5 {a : Nat} (ha : a < 5) (x : Int) : (if a = 0 then x else 0) + (if a = 1 then x else 0) + (if a = 2 then x else 0) + (if a = 3 then x else 0) + (if a = 4 then x else 0) = x := by
  have h : a = 0 ∨ a = 1 ∨ a = 2 ∨ a = 3 ∨ a = 4 := by omega
  rcases h with rfl | rfl | rfl | rfl | rfl <;> simp
theorem bal5 : ∀ ds : List (Nat × Nat × Nat), (∀ q ∈ ds, q.1 < 5 ∧ q.2.1 < 5) → balI ds 0 + balI ds 1 + balI ds 2 + balI ds 3 + balI ds 4 = 0
  | [], _ => rfl
  | q :: ds, h => by
    have ih := bal5 ds (fun x hx => h x (List.mem_cons_of_mem _ hx))
    have hq := h q (List.mem_cons_self ..)
    have e : ∀ o, balI (q :: ds) o = ((if q.2.1 = o then (q.2.2 : Int) else 0) - (if q.1 = o then (q.2.2 : Int) else 0)) + balI ds o := fun o => rfl
    have i1 := ind5 hq.1 (q.2.2 : Int)
    have i2 := ind5 hq.2 (q.2.2 : Int)
    rw [e, e, e, e, e]
    omega
theorem zB_all {b : Nat → Int32} {ds : List (Nat × Nat × Nat)} (h : ∀ q ∈ ds, q.1 < 5 ∧ q.2.1 < 5) (hb : ∀ o, o < 5 → b o = Int32.ofInt (balI ds o)) : zB b 31 = true := by
  have e : bS b 31 5 = 0 + b 0 + b 1 + b 2 + b 3 + b 4 := rfl
  have h5 := bal5 ds h
  unfold zB
  rw [decide_eq_true_eq, e, Int32.zero_add, hb 0 (by omega), hb 1 (by omega), hb 2 (by omega), hb 3 (by omega), hb 4 (by omega), ← Int32.ofInt_add, ← Int32.ofInt_add, ← Int32.ofInt_add, ← Int32.ofInt_add, h5]
  rfl
/-! ===== who owes ===== -/
def dzB (q : Nat → Bool) : Nat → Nat
  | 0 => 31
  | j + 1 => if q j then anot (dzB q j) (2 ^ j) else dzB q j
def nzB (q : Nat → Bool) : Nat → Nat
  | 0 => 0
  | j + 1 => if q j then nzB q j else nzB q j ||| 2 ^ j
theorem dz_nz (q : Nat → Bool) : dzB q 5 = nzB q 5 ∧ cntN (nzB q 5) 25 + ((if q 0 then 1 else 0) + (if q 1 then 1 else 0) + (if q 2 then 1 else 0) + (if q 3 then 1 else 0) + (if q 4 then 1 else 0)) = 5 := by
  simp only [dzB, nzB]
  cases q 0 <;> cases q 1 <;> cases q 2 <;> cases q 3 <;> cases q 4 <;> decide +kernel
theorem dz_bit (q : Nat → Bool) : ∀ j o, j ≤ o → o < 5 → (dzB q j).testBit o = true
  | 0, o, _, ho => by
    show (31 : Nat).testBit o = true
    have h : o = 0 ∨ o = 1 ∨ o = 2 ∨ o = 3 ∨ o = 4 := by omega
    rcases h with rfl | rfl | rfl | rfl | rfl <;> decide
  | j + 1, o, hj, ho => by
    have ih := dz_bit q j o (by omega) ho
    have e : dzB q (j + 1) = if q j then anot (dzB q j) (2 ^ j) else dzB q j := rfl
    rw [e]
    split
    · rw [anot_bit, ih, Nat.testBit_two_pow_of_ne (by omega)]; rfl
    · exact ih
theorem dz_lt (q : Nat → Bool) : ∀ j, dzB q j < 2 ^ 5
  | 0 => by show 31 < 2 ^ 5; omega
  | j + 1 => by
    have ih := dz_lt q j
    have e : dzB q (j + 1) = if q j then anot (dzB q j) (2 ^ j) else dzB q j := rfl
    rw [e]
    split
    · exact anot_lt ih
    · exact ih
theorem nz_lt (q : Nat → Bool) : ∀ j, j ≤ 5 → nzB q j < 2 ^ 5
  | 0, _ => by show 0 < 2 ^ 5; omega
  | j + 1, hj => by
    have ih := nz_lt q j (by omega)
    have e : nzB q (j + 1) = if q j then nzB q j else nzB q j ||| 2 ^ j := rfl
    rw [e]
    split
    · exact ih
    · exact Nat.or_lt_two_pow ih (Nat.pow_lt_pow_right (by omega) (by omega))
theorem mP_nz (b : Nat → Int32) : mP (zB b) 6 31 + cntN (nzB (fun o => decide (b o = 0)) 5) 25 = mP (zB b) 6 (nzB (fun o => decide (b o = 0)) 5) + 5 := by
  have st : ∀ j, j < 5 → mP (zB b) 6 (dzB (fun o => decide (b o = 0)) j) = mP (zB b) 6 (dzB (fun o => decide (b o = 0)) (j + 1)) + (if decide (b j = 0) then 1 else 0) := fun j hj => by
    have e : dzB (fun o => decide (b o = 0)) (j + 1) = if decide (b j = 0) then anot (dzB (fun o => decide (b o = 0)) j) (2 ^ j) else dzB (fun o => decide (b o = 0)) j := rfl
    rw [e]
    by_cases h : decide (b j = 0) = true
    · rw [if_pos h, if_pos h]
      exact mP_drop (dz_lt _ j) (dz_bit _ j j (Nat.le_refl _) hj) (by rw [zB_one b hj]; exact h)
    · rw [if_neg h, if_neg h]
      rfl
  obtain ⟨d1, d2⟩ := dz_nz (fun o => decide (b o = 0))
  have s0 := st 0 (by omega)
  have s1 := st 1 (by omega)
  have s2 := st 2 (by omega)
  have s3 := st 3 (by omega)
  have s4 := st 4 (by omega)
  have e0 : dzB (fun o => decide (b o = 0)) 0 = 31 := rfl
  rw [e0] at s0
  rw [← d1] at d2 ⊢
  simp only [Nat.zero_add, Nat.reduceAdd] at s0 s1 s2 s3 s4
  omega
