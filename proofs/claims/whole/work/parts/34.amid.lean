theorem minJ {a b : Nat} (ha : a < 2 ^ 31) (hb : b < 2 ^ 31) (M : xM) : F_J9_min_7cf53 (nI a) (nI b) M = some (nI (min a b), M) := by
  unfold F_J9_min_7cf53
  by_cases h : b < a
  · rw [if_pos (nI_lt h ha), Nat.min_eq_right (by omega)]
  · rw [if_neg (nI_nlt (by omega) hb), Nat.min_eq_left (by omega)]
theorem maxJ {a b : Nat} (ha : a < 2 ^ 31) (hb : b < 2 ^ 31) (M : xM) : F_J9_max_7cf53 (nI a) (nI b) M = some (nI (max a b), M) := by
  unfold F_J9_max_7cf53
  by_cases h : a < b
  · simp only [nI_ltI ha hb, nI_leI ha hb, nI_leI hb ha, nI_ltI hb ha]
    rw [Nat.max_eq_right (by omega)]
    split <;> first | rfl | (exfalso; omega)
  · simp only [nI_ltI ha hb, nI_leI ha hb, nI_leI hb ha, nI_ltI hb ha]
    rw [Nat.max_eq_left (by omega)]
    split <;> first | rfl | (exfalso; omega) | (congr 2; congr 1; omega)
theorem nI64 {n : Nat} (h : n < 2 ^ 31) : (nI n).toInt64.toInt = (n : Int) := by rw [Int32.toInt_toInt64, nI_toInt h]
theorem amidM {v a b : Nat} (hv : v < 2 ^ 31) (ha : a < 2 ^ 31) (hb : b < 2 ^ 31) (M : xM) : F_X12_isAmid (nI v) (nI a) (nI b) M = some (if amid v a b then 1 else 0, M) := by
  unfold F_X12_isAmid F_X12_isAmid_14 F_X12_isAmid_26
  simp only [within_eq, nI64 hv, nI64 ha, nI64 hb, nI_leI hb ha, Option.bind_some, amid]
  by_cases h : b ≤ a
  · simp only [if_pos h, Nat.min_eq_right h, Nat.max_eq_left h]
    by_cases h2 : b ≤ v ∧ v ≤ a
    · rw [if_pos (show (b : Int) ≤ v ∧ (v : Int) ≤ a by omega), xz1]
      simp [h2.1, h2.2]
    · rw [if_neg (show ¬ ((b : Int) ≤ v ∧ (v : Int) ≤ a) by omega), xz0]
      simp only [Option.bind_some]
      rw [if_neg (by simpa using h2)]
  · have h3 : a ≤ b := by omega
    simp only [if_neg h, Nat.min_eq_left h3, Nat.max_eq_right h3]
    by_cases h2 : a ≤ v ∧ v ≤ b
    · rw [if_pos (show (a : Int) ≤ v ∧ (v : Int) ≤ b by omega), xz1]
      simp [h2.1, h2.2]
    · rw [if_neg (show ¬ ((a : Int) ≤ v ∧ (v : Int) ≤ b) by omega), xz0]
      simp only [Option.bind_some]
      rw [if_neg (by simpa using h2)]
