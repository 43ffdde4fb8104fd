/-! ===== bits of numbers ===== -/
theorem sh_l : ∀ n, n < 32 → ((nI n &&& 31).toBitVec.smod 32).toNat = n := by decide +kernel
theorem shrN {s c : Nat} (hs : s < 2 ^ 31) (hc : c < 32) : nI s >>> (nI c &&& 31) = nI (s / 2 ^ c) := pk_shrN hs _ c (sh_l c hc)
theorem shlN {s c : Nat} (hc : c < 32) (h : s * 2 ^ c < 2 ^ 32) : nI s <<< (nI c &&& 31) = nI (s * 2 ^ c) := pk_shlN _ c (sh_l c hc) h
theorem and1 {s : Nat} (hs : s < 2 ^ 32) : nI s &&& 1 = nI (s % 2) := pk_andN hs 1 (by decide)
theorem bitN {s c : Nat} (hs : s < 2 ^ 31) (hc : c < 32) : (nI s >>> (nI c &&& 31)) &&& 1 = (if s.testBit c then 1 else 0) := by
  have h1 := Nat.div_le_self s (2 ^ c)
  rw [shrN hs hc, and1 (by omega), Nat.testBit_eq_decide_div_mod_eq]
  by_cases h : s / 2 ^ c % 2 = 1
  · rw [h]; rfl
  · rw [show s / 2 ^ c % 2 = 0 by omega]; rfl
theorem orN {a b : Nat} (ha : a < 2 ^ 31) (hb : b < 2 ^ 31) : nI a ||| nI b = nI (a ||| b) := by
  apply Int32.toBitVec_inj.mp
  apply BitVec.eq_of_toNat_eq
  have hab : a ||| b < 2 ^ 31 := Nat.or_lt_two_pow ha hb
  rw [Int32.toBitVec_or, BitVec.toNat_or, pk_tn (by omega), pk_tn (by omega), pk_tn (by omega)]
theorem andN {a b : Nat} (ha : a < 2 ^ 31) (hb : b < 2 ^ 31) : nI a &&& nI b = nI (a &&& b) := by
  apply Int32.toBitVec_inj.mp
  apply BitVec.eq_of_toNat_eq
  have hab : a &&& b < 2 ^ 31 := Nat.and_lt_two_pow a hb
  rw [Int32.toBitVec_and, BitVec.toNat_and, pk_tn (by omega), pk_tn (by omega), pk_tn (by omega)]
