/-! ===== counting bits as the library does ===== -/
theorem and_split {u v m n : Nat} (hu : u < 256) (hm : m < 256) : (u + 256 * v) &&& (m + 256 * n) = (u &&& m) + 256 * (v &&& n) := by
  have e : ∀ a b : Nat, a + 256 * b = 2 ^ 8 * b + a := fun a b => by omega
  have h3 : u &&& m < 2 ^ 8 := Nat.and_lt_two_pow _ hm
  apply Nat.eq_of_testBit_eq
  intro i
  rw [Nat.testBit_and, e u v, e m n, e (u &&& m) (v &&& n), Nat.testBit_two_pow_mul_add v (show u < 2 ^ 8 from hu), Nat.testBit_two_pow_mul_add n (show m < 2 ^ 8 from hm), Nat.testBit_two_pow_mul_add _ h3]
  split
  · rw [Nat.testBit_and]
  · rw [Nat.testBit_and]
def bc1 (a : Nat) : Nat := a - ((a / 2) &&& 85)
def bc2 (a : Nat) : Nat := (a &&& 51) + ((a / 4) &&& 51)
def bc3 (a : Nat) : Nat := (a + a / 16) &&& 15
theorem bc_1 : ∀ a, a < 256 → ∀ y, y < 2 → (a / 2 + 128 * y) &&& 85 = (a / 2) &&& 85 := by decide +kernel
theorem bc_1b : ∀ a, a < 256 → (a / 2) &&& 85 ≤ a := by decide +kernel
theorem bc_2 : ∀ a, a < 256 → ∀ y, y < 4 → (a / 4 + 64 * y) &&& 51 = (a / 4) &&& 51 := by decide +kernel
theorem bc_2b : ∀ a, a < 256 → bc2 (bc1 a) ≤ 68 ∧ bc2 (bc1 a) % 16 ≤ 4 := by decide +kernel
theorem bc_3 : ∀ c, c < 69 → ∀ y, y < 5 → (c + (c / 16 + 16 * y)) &&& 15 = bc3 c := by decide +kernel
theorem bc_p : ∀ a, a < 256 → bc3 (bc2 (bc1 a)) = cntN a 8 := by decide +kernel
/-- the steps, a byte and the rest -/
theorem st1 {a y n : Nat} (ha : a < 256) : ((a + 256 * y) / 2) &&& (85 + 256 * n) = ((a / 2) &&& 85) + 256 * ((y / 2) &&& n) := by
  rw [show (a + 256 * y) / 2 = (a / 2 + 128 * (y % 2)) + 256 * (y / 2) by omega, and_split (by omega) (by omega), bc_1 a ha _ (by omega)]
theorem st2 {a y n : Nat} (ha : a < 256) : ((a + 256 * y) / 4) &&& (51 + 256 * n) = ((a / 4) &&& 51) + 256 * ((y / 4) &&& n) := by
  rw [show (a + 256 * y) / 4 = (a / 4 + 64 * (y % 4)) + 256 * (y / 4) by omega, and_split (by omega) (by omega), bc_2 a ha _ (by omega)]
theorem st3 {c y n : Nat} (hc : c < 69) (hy : y % 16 < 5) : ((c + 256 * y) + (c + 256 * y) / 16) &&& (15 + 256 * n) = bc3 c + 256 * ((y + y / 16) &&& n) := by
  rw [show (c + 256 * y) + (c + 256 * y) / 16 = (c + (c / 16 + 16 * (y % 16))) + 256 * (y + y / 16) by omega, and_split (by omega) (by omega), bc_3 c hc _ hy]
theorem cntN_split (m : Nat) : ∀ n, cntN m (n + 8) = cntN (m % 256) 8 + cntN (m / 256) n
  | 0 => by
    have h : ∀ i, i < 8 → (m % 256).testBit i = m.testBit i := fun i hi => by
      rw [show 256 = 2 ^ 8 from rfl, Nat.testBit_mod_two_pow, decide_eq_true hi, Bool.true_and]
    simp only [cntN, h 0 (by omega), h 1 (by omega), h 2 (by omega), h 3 (by omega), h 4 (by omega), h 5 (by omega), h 6 (by omega), h 7 (by omega), Nat.zero_add, Nat.add_zero]
  | n + 1 => by
    have ih := cntN_split m n
    have h : (m / 256).testBit n = m.testBit (n + 8) := by rw [show 256 = 2 ^ 8 from rfl, Nat.testBit_div_two_pow]
    show cntN m (n + 8) + _ = _ + (cntN (m / 256) n + _)
    rw [h, ih]
    omega
theorem fold4 {p q r u : Nat} (hp : p ≤ 8) (hq : q ≤ 8) (hr : r ≤ 8) (hu : u ≤ 8) : (p + 256 * (q + 256 * (r + 256 * u)) + (p + 256 * (q + 256 * (r + 256 * u))) / 256 + (p + 256 * (q + 256 * (r + 256 * u)) + (p + 256 * (q + 256 * (r + 256 * u))) / 256) / 65536) % 64 = p + (q + (r + u)) := by
  have e1 : (p + 256 * (q + 256 * (r + 256 * u))) / 256 = q + 256 * (r + 256 * u) := by omega
  rw [e1]
  have e2 : (p + 256 * (q + 256 * (r + 256 * u)) + (q + 256 * (r + 256 * u))) / 65536 = (r + u) + 256 * u := by omega
  rw [e2]
  omega
theorem swar {m : Nat} (hm : m < 2 ^ 30) : ∃ t1 t2 t3 : Nat, m - ((m / 2) &&& 1431655765) = t1 ∧ (m / 2) &&& 1431655765 ≤ m ∧ (t1 &&& 858993459) + ((t1 / 4) &&& 858993459) = t2 ∧ t2 < 2 ^ 31 ∧ (t2 + t2 / 16) &&& 252645135 = t3 ∧ t3 < 2 ^ 28 ∧ (t3 + t3 / 256 + (t3 + t3 / 256) / 65536) % 64 = cntN m 32 := by
  obtain ⟨a, b, c, d, rfl, ha, hb, hc, hd⟩ : ∃ a b c d : Nat, m = a + 256 * (b + 256 * (c + 256 * d)) ∧ a < 256 ∧ b < 256 ∧ c < 256 ∧ d < 256 := ⟨m % 256, m / 256 % 256, m / 65536 % 256, m / 16777216, by omega, by omega, by omega, by omega, by omega⟩
  have m1 : 1431655765 = 85 + 256 * (85 + 256 * (85 + 256 * 85)) := rfl
  have m2 : 858993459 = 51 + 256 * (51 + 256 * (51 + 256 * 51)) := rfl
  have m3 : 252645135 = 15 + 256 * (15 + 256 * (15 + 256 * 15)) := rfl
  have p1 := bc_1b a ha
  have p2 := bc_1b b hb
  have p3 := bc_1b c hc
  have p4 := bc_1b d hd
  have e1 : ((a + 256 * (b + 256 * (c + 256 * d))) / 2) &&& 1431655765 = ((a / 2) &&& 85) + 256 * (((b / 2) &&& 85) + 256 * (((c / 2) &&& 85) + 256 * ((d / 2) &&& 85))) := by
    rw [m1, st1 ha, st1 hb, st1 hc]
  have f1 : (a + 256 * (b + 256 * (c + 256 * d))) - (((a / 2) &&& 85) + 256 * (((b / 2) &&& 85) + 256 * (((c / 2) &&& 85) + 256 * ((d / 2) &&& 85)))) = bc1 a + 256 * (bc1 b + 256 * (bc1 c + 256 * bc1 d)) := by
    unfold bc1
    omega
  have q : ∀ x, x < 256 → bc1 x < 256 := fun x hx => by unfold bc1; omega
  have r1 := bc_2b a ha
  have r2 := bc_2b b hb
  have r3 := bc_2b c hc
  have r4 := bc_2b d hd
  have e2 : ((bc1 a + 256 * (bc1 b + 256 * (bc1 c + 256 * bc1 d))) &&& 858993459) + (((bc1 a + 256 * (bc1 b + 256 * (bc1 c + 256 * bc1 d))) / 4) &&& 858993459) = bc2 (bc1 a) + 256 * (bc2 (bc1 b) + 256 * (bc2 (bc1 c) + 256 * bc2 (bc1 d))) := by
    rw [m2, st2 (q a ha), st2 (q b hb), st2 (q c hc), and_split (q a ha) (by omega), and_split (q b hb) (by omega), and_split (q c hc) (by omega)]
    unfold bc2
    omega
  have e3 : ((bc2 (bc1 a) + 256 * (bc2 (bc1 b) + 256 * (bc2 (bc1 c) + 256 * bc2 (bc1 d)))) + (bc2 (bc1 a) + 256 * (bc2 (bc1 b) + 256 * (bc2 (bc1 c) + 256 * bc2 (bc1 d)))) / 16) &&& 252645135 = cntN a 8 + 256 * (cntN b 8 + 256 * (cntN c 8 + 256 * cntN d 8)) := by
    rw [m3, st3 (by omega) (by omega), st3 (by omega) (by omega), st3 (by omega) (by omega), bc_p a ha, bc_p b hb, bc_p c hc]
    rw [show (bc2 (bc1 d) + bc2 (bc1 d) / 16) &&& 15 = bc3 (bc2 (bc1 d)) from rfl, bc_p d hd]
  have s1 := cntN_le a 8
  have s2 := cntN_le b 8
  have s3 := cntN_le c 8
  have s4 := cntN_le d 8
  refine ⟨_, _, _, rfl, ?_, rfl, ?_, rfl, ?_, ?_⟩
  · rw [e1]; omega
  · rw [e1, f1, e2]; omega
  · rw [e1, f1, e2, e3]; omega
  · rw [e1, f1, e2, e3]
    have k1 : cntN (a + 256 * (b + 256 * (c + 256 * d))) 32 = cntN ((a + 256 * (b + 256 * (c + 256 * d))) % 256) 8 + cntN ((a + 256 * (b + 256 * (c + 256 * d))) / 256) 24 := cntN_split _ 24
    have k2 : cntN (b + 256 * (c + 256 * d)) 24 = cntN ((b + 256 * (c + 256 * d)) % 256) 8 + cntN ((b + 256 * (c + 256 * d)) / 256) 16 := cntN_split _ 16
    have k3 : cntN (c + 256 * d) 16 = cntN ((c + 256 * d) % 256) 8 + cntN ((c + 256 * d) / 256) 8 := cntN_split _ 8
    rw [show (a + 256 * (b + 256 * (c + 256 * d))) % 256 = a by omega, show (a + 256 * (b + 256 * (c + 256 * d))) / 256 = b + 256 * (c + 256 * d) by omega] at k1
    rw [show (b + 256 * (c + 256 * d)) % 256 = b by omega, show (b + 256 * (c + 256 * d)) / 256 = c + 256 * d by omega] at k2
    rw [show (c + 256 * d) % 256 = c by omega, show (c + 256 * d) / 256 = d by omega] at k3
    rw [k1, k2, k3]
    exact fold4 s1 s2 s3 s4
theorem ushrL {n k : Nat} (hn : n < 2 ^ 32) {s : Int32} (hs : ((s.toUInt32 &&& Int32.toUInt32 31).toBitVec % 32).toNat = k) : ((nI n).toUInt32 >>> (s.toUInt32 &&& Int32.toUInt32 31)).toInt32 = nI (n / 2 ^ k) := pk_ushrN hn s k hs
theorem cnt32 {m : Nat} (hm : m < 2 ^ 25) : cntN m 32 = cntN m 25 := by
  have h : ∀ i, 25 ≤ i → m.testBit i = false := fun i hi => Nat.testBit_lt_two_pow (Nat.lt_of_lt_of_le hm (Nat.pow_le_pow_right (by omega) hi))
  simp only [cntN, h 25 (by omega), h 26 (by omega), h 27 (by omega), h 28 (by omega), h 29 (by omega), h 30 (by omega), h 31 (by omega)]
  rfl
theorem bitCount_C {m : Nat} (hm : m < 2 ^ 25) (M : xM) : F_J6_bitCount_0f7a4 (nI m) M = some (nI (cntN m 25), M) := by
  obtain ⟨t1, t2, t3, h1, h1b, h2, h2b, h3, h3b, h4⟩ := swar (m := m) (by omega)
  have u1 : ((nI m).toUInt32 >>> ((1 : Int32).toUInt32 &&& Int32.toUInt32 31)).toInt32 = nI (m / 2) := ushrL (k := 1) (by omega) (by decide)
  have a1 : nI (m / 2) &&& (1431655765 : Int32) = nI ((m / 2) &&& 1431655765) := andN (b := 1431655765) (by omega) (by omega)
  have s1 : nI m - nI ((m / 2) &&& 1431655765) = nI t1 := by rw [pk_sub h1b, h1]
  have t1b : t1 < 2 ^ 25 := by omega
  have u2 : ((nI t1).toUInt32 >>> ((2 : Int32).toUInt32 &&& Int32.toUInt32 31)).toInt32 = nI (t1 / 4) := ushrL (k := 2) (by omega) (by decide)
  have a2 : nI (t1 / 4) &&& (858993459 : Int32) = nI ((t1 / 4) &&& 858993459) := andN (b := 858993459) (by omega) (by omega)
  have a2b : nI t1 &&& (858993459 : Int32) = nI (t1 &&& 858993459) := andN (b := 858993459) (by omega) (by omega)
  have u3 : ((nI t2).toUInt32 >>> ((4 : Int32).toUInt32 &&& Int32.toUInt32 31)).toInt32 = nI (t2 / 16) := ushrL (k := 4) (by omega) (by decide)
  have t2b : t2 + t2 / 16 < 2 ^ 31 ∨ True := Or.inr trivial
  have t2c : t2 < 2 ^ 30 := by
    have x1 : t1 &&& 858993459 ≤ t1 := Nat.and_le_left
    have x2 : (t1 / 4) &&& 858993459 ≤ t1 / 4 := Nat.and_le_left
    omega
  have a3 : nI (t2 + t2 / 16) &&& (252645135 : Int32) = nI ((t2 + t2 / 16) &&& 252645135) := andN (b := 252645135) (by omega) (by omega)
  have u4 : ((nI t3).toUInt32 >>> ((8 : Int32).toUInt32 &&& Int32.toUInt32 31)).toInt32 = nI (t3 / 256) := ushrL (k := 8) (by omega) (by decide)
  have u5 : ((nI (t3 + t3 / 256)).toUInt32 >>> ((16 : Int32).toUInt32 &&& Int32.toUInt32 31)).toInt32 = nI ((t3 + t3 / 256) / 65536) := ushrL (k := 16) (by omega) (by decide)
  have a5 : nI (t3 + t3 / 256 + (t3 + t3 / 256) / 65536) &&& (63 : Int32) = nI (cntN m 25) := by
    rw [pk_andN (by omega) (m := 63) 6 (by decide), show 2 ^ 6 = 64 from rfl, h4, cnt32 hm]
  unfold F_J6_bitCount_0f7a4
  rw [u1, a1, s1, Option.bind_some, u2, a2, a2b, nI_add, h2, Option.bind_some, u3, nI_add, a3, h3, Option.bind_some, u4, nI_add, Option.bind_some, u5, nI_add, Option.bind_some, a5]
theorem bitsOf_M {m : Nat} (hm : m < 2 ^ 31) (M : xM) : F_X12_bitsOf (nI m) M = some (nI (cntN m 25), M) := by
  unfold F_X12_bitsOf F_X12_bitsOf_4
  refine xit_run (fun j => (nI (cntN m j), nI j, M)) 25 rfl (fun j hj => ?_) ?_ (by omega)
  · have c1 : ¬ (25 : Int32) ≤ nI j := nI_ge (b := 25) hj (by omega)
    simp only [F_X12_bitsOf_4b, ↓reduceIte, c1, bitN hm (show j < 32 by omega), ↓Option.bind_some, nI_1, cntN]
    by_cases h : m.testBit j = true
    · simp only [h, if_true, nI_1]
    · simp only [h, if_false]
      simp
  · have c1 : (25 : Int32) ≤ nI 25 := by decide
    simp only [F_X12_bitsOf_4b, F_X12_bitsOf_24, ↓reduceIte, c1, Option.map_some]
