/-! ===== fractions in lowest terms ===== -/
theorem halve {a b : Nat} (h : b ≤ a) (hb : 0 < b) : 2 * (b * (a % b)) ≤ a * b := by
  have e := Nat.div_add_mod a b
  have h1 : b ≤ b * (a / b) := Nat.le_mul_of_pos_right _ (Nat.div_pos h hb)
  have h2 := Nat.mod_lt a hb
  have h3 : 2 * (a % b) ≤ a := by omega
  have h4 : b * (2 * (a % b)) ≤ b * a := Nat.mul_le_mul_left _ h3
  rw [Nat.mul_comm a b, Nat.mul_left_comm]
  exact h4
theorem gcd_st (a b : Nat) : Nat.gcd a b = Nat.gcd b (a % b) := by rw [Nat.gcd_comm a b, Nat.gcd_rec b a, Nat.gcd_comm]
theorem cmp0 {b : Nat} (h : b < 2 ^ 62) : (lg_cmp (nJ b) (0 : Int64) = 0) ↔ b = 0 := by
  rw [lg_cmp_eq, show (0 : Int64) = nJ 0 from rfl, nJ_eqI h (by omega)]
theorem common_M (M : xM) : ∀ fuel a b K, b ≤ a → a < 2 ^ 62 → a * b < 2 ^ K → K < fuel → R_X12_common fuel (nJ a) (nJ b) M = some (nJ (Nat.gcd a b), M)
  | 0, _, _, _, _, _, _, h => by omega
  | fuel + 1, a, b, K, hab, ha, hK, hf => by
    show F_X12_common (R_X12_common fuel) (nJ a) (nJ b) M = _
    by_cases hb : b = 0
    · have c1 : lg_cmp (nJ b) (0 : Int64) = 0 := (cmp0 (by omega)).mpr hb
      simp only [F_X12_common, c1, ↓reduceIte]
      rw [hb, Nat.gcd_zero_right]
    · have c1 : ¬ lg_cmp (nJ b) (0 : Int64) = 0 := fun z => hb ((cmp0 (by omega)).mp z)
      have c2 : ¬ nJ b = 0 := fun z => hb ((nJ_eqI (b := 0) (by omega) (by omega)).mp z)
      have hv := halve hab (by omega)
      have hm := Nat.mod_lt a (show b > 0 by omega)
      cases K with
      | zero =>
        have : a * b = 0 := by omega
        rcases Nat.mul_eq_zero.mp this with h | h <;> omega
      | succ K =>
        have p : 2 ^ (K + 1) = 2 * 2 ^ K := by rw [Nat.pow_succ]; omega
        have ih := common_M M fuel b (a % b) K (by omega) (by omega) (by omega) (by omega)
        simp only [F_X12_common, c1, c2, ↓reduceIte, nJ_rem (a := a) (b := b) (by omega) (by omega), ↓bs ih]
        rw [← gcd_st]
theorem pow8 {m : Nat} (h : m ≤ 8) : 0 < 10 ^ m ∧ 10 ^ m ≤ 100000000 := ⟨Nat.pow_pos (by omega), Nat.le_trans (Nat.pow_le_pow_right (by omega) h) (by omega)⟩
theorem common_top {a b : Nat} (ha : a < 2 ^ 31) (hb : b < 2 ^ 31) (M : xM) : Fx_X12_common (nJ a) (nJ b) M = some (nJ (Nat.gcd a b), M) := by
  show F_X12_common (R_X12_common 99) (nJ a) (nJ b) M = _
  by_cases h : b = 0
  · have c1 : lg_cmp (nJ b) (0 : Int64) = 0 := (cmp0 (by omega)).mpr h
    simp only [F_X12_common, c1, ↓reduceIte]
    rw [h, Nat.gcd_zero_right]
  · have c1 : ¬ lg_cmp (nJ b) (0 : Int64) = 0 := fun z => h ((cmp0 (by omega)).mp z)
    have c2 : ¬ nJ b = 0 := fun z => h ((nJ_eqI (b := 0) (by omega) (by omega)).mp z)
    have hm := Nat.mod_lt a (show b > 0 by omega)
    have hp : b * (a % b) < 2 ^ 62 := by
      have h1 : b * (a % b) ≤ 2 ^ 31 * (a % b) := Nat.mul_le_mul_right _ (by omega)
      omega
    have ih := common_M M 99 b (a % b) 62 (by omega) (by omega) hp (by omega)
    simp only [F_X12_common, c1, c2, ↓reduceIte, nJ_rem (a := a) (b := b) (by omega) (by omega), ↓bs ih]
    rw [← gcd_st]
def lowS (v m : Nat) (k : Int32) : Int32 := ((if k = 0 then nJ v else nJ (10 ^ m)) / nJ (Nat.gcd v (10 ^ m))).toInt32
theorem part_M {v m : Nat} (hv : v < 2 ^ 31) (hm : m ≤ 8) (k : Int32) (M : xM) : F_X12_part (nJ v) (nJ (10 ^ m)) k M = some (lowS v m k, M) := by
  obtain ⟨p1, p2⟩ := pow8 hm
  have ct := common_top hv (show 10 ^ m < 2 ^ 31 by omega) M
  have gp : 0 < Nat.gcd v (10 ^ m) := Nat.gcd_pos_of_pos_right _ p1
  have gl : Nat.gcd v (10 ^ m) ≤ 10 ^ m := Nat.gcd_le_right _ p1
  have c2 : ¬ nJ (Nat.gcd v (10 ^ m)) = 0 := fun z => by
    have := (nJ_eqI (b := 0) (by omega) (by omega)).mp z
    omega
  unfold lowS
  by_cases hk : k = 0
  · simp only [F_X12_part, F_X12_part_10, hk, ↓reduceIte, ↓bs ct, c2]
  · simp only [F_X12_part, F_X12_part_10, hk, ↓reduceIte, ↓bs ct, c2]
theorem wholeOf_M {m : Nat} (hm : m ≤ 8) (M : xM) : F_X12_wholeOf (nI m) M = some (nJ (10 ^ m), M) := by
  unfold F_X12_wholeOf F_X12_wholeOf_4
  refine xit_run (fun j => (nJ (10 ^ j), nI j, M)) m rfl (fun j hj => ?_) ?_ (by omega)
  · have c1 : ¬ nI m ≤ nI j := nI_ge hj (by omega)
    have e : nJ (10 ^ j) * (10 : Int64) = nJ (10 ^ (j + 1)) := by rw [show (10 : Int64) = nJ 10 from rfl, nJ_mul, Nat.pow_succ]
    simp only [F_X12_wholeOf_4b, ↓reduceIte, c1, Option.bind_some, e, nI_1]
  · have c1 : nI m ≤ nI m := nI_le (Nat.le_refl _) (by omega)
    simp only [F_X12_wholeOf_4b, F_X12_wholeOf_21, ↓reduceIte, c1]
theorem low78 {v m g : Nat} (hm : m ≤ 8) (hg : g = Nat.gcd v (10 ^ m)) (k : Int32) (M : xM) : F_X2_lowest_78 (nJ v) k (nJ (10 ^ m)) (nJ g) M = some (lowS v m k, M) := by
  obtain ⟨p1, p2⟩ := pow8 hm
  have gp : 0 < Nat.gcd v (10 ^ m) := Nat.gcd_pos_of_pos_right _ p1
  have gl : Nat.gcd v (10 ^ m) ≤ 10 ^ m := Nat.gcd_le_right _ p1
  have c1 : ¬ lg_cmp (nJ g) (0 : Int64) = 0 := fun z => by
    have := (cmp0 (by omega)).mp z
    omega
  have c2 : ¬ nJ g = 0 := fun z => by
    have := (nJ_eqI (b := 0) (by omega) (by omega)).mp z
    omega
  unfold lowS
  rw [← hg]
  by_cases hk : k = 0
  · simp only [F_X2_lowest_78, hk, ↓reduceIte, c1, c2]
  · simp only [F_X2_lowest_78, hk, ↓reduceIte, c1, c2]
theorem lowest_C {v m : Nat} (hv : v < 2 ^ 31) (hm : m ≤ 8) (k : Int32) (M : xM) : F_X2_lowest (nJ v) (nI m) k M = some (lowS v m k, M) := by
  obtain ⟨p1, p2⟩ := pow8 hm
  have l43 : F_X2_lowest_43 (nJ v) k (nJ (10 ^ m)) (nJ (10 ^ m)) (nJ v) 0 M = some (lowS v m k, M) := by
    have hp : 10 ^ m * v < 2 ^ 62 := by
      have h1 : 10 ^ m * v ≤ 2 ^ 31 * v := Nat.mul_le_mul_right _ (by omega)
      omega
    have key : ∃ r : Int32 × xM, xit (F_X2_lowest_43b (nJ v) k (nJ (10 ^ m))) xFU (nJ (10 ^ m), nJ v, nI 0, M) = some r ∧ r = (lowS v m k, M) := by
      refine xit_inv (fun j z => ∃ a b, z = (nJ a, nJ b, nI j, M) ∧ Nat.gcd a b = Nat.gcd v (10 ^ m) ∧ a < 2 ^ 31 ∧ b < 2 ^ 31 ∧ ((j = 0 ∧ a * b < 2 ^ 62) ∨ (b ≤ a ∧ 1 ≤ j ∧ a * b * 2 ^ (j - 1) < 2 ^ 62))) _ 100 ⟨10 ^ m, v, rfl, Nat.gcd_comm _ _, by omega, hv, Or.inl ⟨rfl, hp⟩⟩ (fun j z hj hq => ?_) (fun z hq => ?_) (by omega)
      · obtain ⟨a, b, rfl, q1, q2, q3, q4⟩ := hq
        have c0 : ¬ (100 : Int32) ≤ nI j := nI_ge (b := 100) hj (by omega)
        by_cases hb : b = 0
        · right
          have c1 : lg_cmp (nJ b) (0 : Int64) = 0 := (cmp0 (by omega)).mpr hb
          rw [hb, Nat.gcd_zero_right] at q1
          refine ⟨(lowS v m k, M), ?_, rfl⟩
          simp only [F_X2_lowest_43b, ↓reduceIte, c0, c1, low78 hm q1, Option.map_some]
        · left
          have c1 : ¬ lg_cmp (nJ b) (0 : Int64) = 0 := fun z => hb ((cmp0 (by omega)).mp z)
          have c2 : ¬ nJ b = 0 := fun z => hb ((nJ_eqI (b := 0) (by omega) (by omega)).mp z)
          have hm := Nat.mod_lt a (show b > 0 by omega)
          refine ⟨(nJ b, nJ (a % b), nI (j + 1), M), ?_, b, a % b, rfl, by rw [← gcd_st]; exact q1, q3, by omega, Or.inr ⟨by omega, by omega, ?_⟩⟩
          · simp only [F_X2_lowest_43b, ↓reduceIte, c0, c1, c2, nJ_rem (a := a) (b := b) (by omega) (by omega), Option.bind_some, nI_1]
          · rcases q4 with ⟨rfl, h⟩ | ⟨h1, h2, h3⟩
            · have h4 : b * (a % b) ≤ b * a := Nat.mul_le_mul_left _ (Nat.mod_le a b)
              rw [Nat.mul_comm b a] at h4
              show b * (a % b) * 1 < 2 ^ 62
              omega
            · have h4 := halve h1 (by omega)
              obtain ⟨i, rfl⟩ : ∃ i, j = i + 1 := ⟨j - 1, by omega⟩
              show b * (a % b) * 2 ^ (i + 1) < 2 ^ 62
              have h5 : 2 * (b * (a % b)) * 2 ^ i ≤ a * b * 2 ^ i := Nat.mul_le_mul_right _ h4
              have h6 : b * (a % b) * 2 ^ (i + 1) = 2 * (b * (a % b)) * 2 ^ i := by rw [Nat.pow_succ, ← Nat.mul_assoc, Nat.mul_comm _ 2, ← Nat.mul_assoc]
              have h7 : a * b * 2 ^ i < 2 ^ 62 := h3
              omega
      · obtain ⟨a, b, rfl, q1, q2, q3, q4⟩ := hq
        have c0 : (100 : Int32) ≤ nI 100 := by decide
        have hb : b = 0 := by
          rcases q4 with ⟨h, -⟩ | ⟨h1, h2, h3⟩
          · omega
          · by_cases h : b = 0
            · exact h
            · have h4 : 1 ≤ a * b := Nat.mul_pos (by omega) (by omega)
              have h5 : 1 * 2 ^ 99 ≤ a * b * 2 ^ 99 := Nat.mul_le_mul_right _ h4
              have h6 : a * b * 2 ^ 99 < 2 ^ 62 := h3
              omega
        rw [hb, Nat.gcd_zero_right] at q1
        refine ⟨(lowS v m k, M), ?_, rfl⟩
        simp only [F_X2_lowest_43b, ↓reduceIte, c0, low78 hm q1, Option.map_some]
    obtain ⟨r, h1, rfl⟩ := key
    exact h1
  unfold F_X2_lowest F_X2_lowest_6
  refine xit_run (fun j => (nJ (10 ^ j), nI j, M)) m rfl (fun j hj => ?_) ?_ (by omega)
  · have c1 : ¬ nI m ≤ nI j := nI_ge hj (by omega)
    have c2 : ¬ (8 : Int32) ≤ nI j := nI_ge (b := 8) (by omega) (by omega)
    have e : nJ (10 ^ j) * (10 : Int64) = nJ (10 ^ (j + 1)) := by rw [show (10 : Int64) = nJ 10 from rfl, nJ_mul, Nat.pow_succ]
    simp only [F_X2_lowest_6b, ↓reduceIte, c1, c2, Option.bind_some, e, nI_1]
  · have c1 : nI m ≤ nI m := nI_le (Nat.le_refl _) (by omega)
    simp only [F_X2_lowest_6b, F_X2_lowest_33, ↓reduceIte, c1, l43]
