/-! ===== more on bits ===== -/
theorem sh64 : ∀ c, c < 32 → (((nI c).toInt64 &&& 63).toBitVec.smod 64).toNat = c := by decide +kernel
theorem shr64 (x n : Int64) {k : Nat} (hs : (n.toBitVec.smod 64).toNat = k) : (x >>> n).toInt = x.toInt >>> k := by
  show (x.toBitVec.sshiftRight (n.toBitVec.smod 64).toNat).toInt = _
  rw [hs, BitVec.toInt_sshiftRight]
  rfl
theorem isIn_N {m c : Nat} (hm : m < 2 ^ 31) (hc : c < 32) : (((nI m).toInt64 >>> ((nI c).toInt64 &&& 63)) &&& 1 = 1) ↔ m.testBit c = true := by
  have hd := Nat.div_le_self m (2 ^ c)
  have e1 : (nI m).toInt64 >>> ((nI c).toInt64 &&& 63) = (nI (m / 2 ^ c)).toInt64 := by
    apply Int64.toInt_inj.mp
    rw [shr64 _ _ (sh64 c hc), Int32.toInt_toInt64, Int32.toInt_toInt64, nI_toInt hm, nI_toInt (by omega), Int.shiftRight_eq_div_pow]
    rfl
  have e2 : (1 : Int64) = (1 : Int32).toInt64 := by decide
  rw [e1, e2, ← Int32.toInt64_and, toInt64_eq, and1 (by omega), Nat.testBit_eq_decide_div_mod_eq, decide_eq_true_iff]
  exact nI_eqI (b := 1) (by omega) (by omega)
theorem isInM {m c : Nat} (hm : m < 2 ^ 31) (hc : c < 32) (M : xM) : F_X12_isIn (nI m).toInt64 (nI c) M = some (if m.testBit c then 1 else 0, M) := by
  unfold F_X12_isIn
  simp only [lg_cmp_eq, xz0, xz1, Option.bind_some]
  by_cases hb : m.testBit c = true
  · rw [if_pos ((isIn_N hm hc).mpr hb), if_pos hb]
  · rw [if_neg (fun z => hb ((isIn_N hm hc).mp z)), if_neg hb]
def anot (a b : Nat) : Nat := a ^^^ (a &&& b)
theorem anot_bit (a b i : Nat) : (anot a b).testBit i = (a.testBit i && !b.testBit i) := by
  unfold anot
  rw [Nat.testBit_xor, Nat.testBit_and]
  cases a.testBit i <;> cases b.testBit i <;> rfl
theorem anot_lt {a b n : Nat} (h : a < 2 ^ n) : anot a b < 2 ^ n := by
  apply Nat.lt_pow_two_of_testBit
  intro i hi
  rw [anot_bit, Nat.testBit_lt_two_pow (Nat.lt_of_lt_of_le h (Nat.pow_le_pow_right (by omega) hi))]
  rfl
theorem anotN {a b : Nat} (ha : a < 2 ^ 31) (hb : b < 2 ^ 31) : nI a &&& (nI b ^^^ -1) = nI (anot a b) := by
  apply Int32.toBitVec_inj.mp
  apply BitVec.eq_of_getLsbD_eq
  intro i hi
  rw [Int32.toBitVec_and, Int32.toBitVec_xor, show (-1 : Int32).toBitVec = BitVec.allOnes 32 by decide]
  show ((BitVec.ofNat 32 a) &&& (BitVec.ofNat 32 b ^^^ BitVec.allOnes 32)).getLsbD i = (BitVec.ofNat 32 (anot a b)).getLsbD i
  rw [BitVec.getLsbD_and, BitVec.getLsbD_xor, BitVec.getLsbD_allOnes, BitVec.getLsbD_ofNat, BitVec.getLsbD_ofNat, BitVec.getLsbD_ofNat, anot_bit]
  simp only [hi, decide_true, Bool.true_and]
  cases a.testBit i <;> cases b.testBit i <;> rfl
theorem bit_lt {m n i : Nat} (h : m < 2 ^ n) (hb : m.testBit i = true) : i < n := by
  apply Decidable.byContradiction
  intro hn
  rw [Nat.testBit_lt_two_pow (Nat.lt_of_lt_of_le h (Nat.pow_le_pow_right (by omega) (by omega)))] at hb
  cases hb
theorem pow_sub_one {w : Nat} (h : w < 31) : ((1 : Int32) <<< (nI w &&& 31)) - 1 = nI (2 ^ w - 1) := by
  have h2 : 2 ^ w < 2 ^ 31 := Nat.pow_lt_pow_right (by omega) h
  have e := shlN (s := 1) (c := w) (by omega) (by omega)
  rw [Nat.one_mul] at e
  have e2 : (1 : Int32) <<< (nI w &&& 31) = nI (2 ^ w) := e
  have h3 := Nat.two_pow_pos w
  rw [e2]
  exact pk_sub (b := 1) (by omega)
theorem one_shl {c : Nat} (h : c < 31) : (1 : Int32) <<< (nI c &&& 31) = nI (2 ^ c) := by
  have h2 : 2 ^ c < 2 ^ 31 := Nat.pow_lt_pow_right (by omega) h
  have e := shlN (s := 1) (c := c) (by omega) (by omega)
  rw [Nat.one_mul] at e
  exact e
/-! ===== cells side by side ===== -/
def adjB (w a b : Nat) : Bool := decide (a = b + w) || decide (b = a + w) || (decide (b = a + 1) && !decide (a % w = w - 1)) || (decide (a = b + 1) && !decide (b % w = w - 1))
theorem left_bit : ∀ r, r < 6 → ∀ w, w < 6 → 1 ≤ w → ∀ x, x < 26 → (leftM r w).testBit x = (decide (x % w = 0) && decide (x < r * w)) := by decide +kernel
theorem right_bit : ∀ r, r < 6 → ∀ w, w < 6 → 1 ≤ w → ∀ x, x < 26 → (leftM r w * 2 ^ (w - 1)).testBit x = (decide (x % w = w - 1) && decide (x < r * w)) := by decide +kernel
theorem left_lt : ∀ r, r < 6 → ∀ w, w < 6 → leftM r w < 2 ^ 25 ∧ leftM r w * 2 ^ (w - 1) < 2 ^ 25 := by decide +kernel
def besM (r w m : Nat) : Nat := ((m * 2 ^ w ||| m / 2 ^ w) ||| anot m (leftM r w * 2 ^ (w - 1)) * 2 ^ 1) ||| anot m (leftM r w) / 2 ^ 1
theorem succ_mod {w b : Nat} (h1 : 1 ≤ w) (h5 : w ≤ 5) : (b + 1) % w = 0 ↔ b % w = w - 1 := by
  have h : w = 1 ∨ w = 2 ∨ w = 3 ∨ w = 4 ∨ w = 5 := by omega
  rcases h with rfl | rfl | rfl | rfl | rfl <;> omega
theorem bes_bit {r w m b : Nat} (hr : r ≤ 5) (h1 : 1 ≤ w) (hw : w ≤ 5) (hm : ∀ a, m.testBit a = true → a < r * w) (hb : b < r * w) : (besM r w m).testBit b = true ↔ ∃ a, m.testBit a = true ∧ adjB w a b = true := by
  have hN : r * w ≤ 25 := Nat.mul_le_mul hr hw
  unfold besM
  rw [Nat.testBit_or, Nat.testBit_or, Nat.testBit_or, Nat.testBit_mul_two_pow, Nat.testBit_div_two_pow, Nat.testBit_mul_two_pow, Nat.testBit_div_two_pow, anot_bit, anot_bit]
  simp only [Bool.or_eq_true, Bool.and_eq_true, decide_eq_true_iff, Bool.not_eq_true']
  constructor
  · rintro (((⟨h2, h3⟩ | h2) | ⟨h2, h3, h4⟩) | ⟨h2, h3⟩)
    · refine ⟨b - w, h3, ?_⟩
      unfold adjB
      simp only [Bool.or_eq_true, decide_eq_true_iff]
      exact Or.inl (Or.inl (Or.inr (by omega)))
    · refine ⟨b + w, h2, ?_⟩
      unfold adjB
      simp
    · refine ⟨b - 1, h3, ?_⟩
      rw [right_bit r (by omega) w (by omega) h1 (b - 1) (by omega)] at h4
      unfold adjB
      simp only [Bool.or_eq_true, Bool.and_eq_true, decide_eq_true_iff, Bool.not_eq_true', decide_eq_false_iff_not]
      refine Or.inl (Or.inr ⟨by omega, fun z => ?_⟩)
      rw [decide_eq_true z, decide_eq_true (show b - 1 < r * w by omega)] at h4
      cases h4
    · refine ⟨b + 1, h2, ?_⟩
      have h5 := hm _ h2
      rw [left_bit r (by omega) w (by omega) h1 (b + 1) (by omega)] at h3
      unfold adjB
      simp only [Bool.or_eq_true, Bool.and_eq_true, decide_eq_true_iff, Bool.not_eq_true', decide_eq_false_iff_not]
      refine Or.inr ⟨trivial, fun z => ?_⟩
      rw [decide_eq_true ((succ_mod h1 hw).mpr z), decide_eq_true h5] at h3
      cases h3
  · rintro ⟨a, h2, h3⟩
    have ha := hm a h2
    unfold adjB at h3
    simp only [Bool.or_eq_true, Bool.and_eq_true, decide_eq_true_iff, Bool.not_eq_true', decide_eq_false_iff_not] at h3
    rcases h3 with ((h3 | h3) | ⟨h3, h4⟩) | ⟨h3, h4⟩
    · subst h3
      exact Or.inl (Or.inl (Or.inr h2))
    · subst h3
      refine Or.inl (Or.inl (Or.inl ⟨by omega, ?_⟩))
      rw [show a + w - w = a by omega]
      exact h2
    · subst h3
      refine Or.inl (Or.inr ⟨by omega, ?_, ?_⟩)
      · rw [show a + 1 - 1 = a by omega]; exact h2
      · rw [show a + 1 - 1 = a by omega, right_bit r (by omega) w (by omega) h1 a (by omega), decide_eq_false h4]
        rfl
    · subst h3
      refine Or.inr ⟨h2, ?_⟩
      rw [left_bit r (by omega) w (by omega) h1 (b + 1) (by omega), decide_eq_false (fun z => h4 ((succ_mod h1 hw).mp z))]
      rfl
theorem besides_C {P : Nat → Nat → Option Nat} (hP : GP P) {I : Nat → Nat → Int32} {J : Nat → Nat → Int64} {t : Txt} (hw : wfT t) (hL : LandC (mm P I J) 14 t) {m : Nat} (hm : m < 2 ^ 25) : F_X8_besides 14 (nI m) (mm P I J) = some (nI (besM (tR t) (tW t) m), mm P I J) ∧ besM (tR t) (tW t) m < 2 ^ 31 := by
  obtain ⟨⟨r1, r5⟩, ⟨w1, w5⟩, -⟩ := hw
  have l1 : I 14 1 = nI (tW t) := hL.2.1
  have l2 : I 14 2 = nI (leftM (tR t) (tW t)) := hL.2.2.1
  obtain ⟨lt1, lt2⟩ := left_lt (tR t) (by omega) (tW t) (by omega)
  have p5 : 2 ^ tW t ≤ 2 ^ 5 := Nat.pow_le_pow_right (by omega) w5
  have b1 : m * 2 ^ tW t < 2 ^ 31 := by
    have : m * 2 ^ tW t ≤ m * 2 ^ 5 := Nat.mul_le_mul_left _ p5
    omega
  have b2 := Nat.div_le_self m (2 ^ tW t)
  have a1 := anot_lt (a := m) (b := leftM (tR t) (tW t) * 2 ^ (tW t - 1)) (n := 25) hm
  have a2 := anot_lt (a := m) (b := leftM (tR t) (tW t)) (n := 25) hm
  have d2 := Nat.div_le_self (anot m (leftM (tR t) (tW t))) (2 ^ 1)
  have o1 : m * 2 ^ tW t ||| m / 2 ^ tW t < 2 ^ 31 := Nat.or_lt_two_pow b1 (by omega)
  have o2 : (m * 2 ^ tW t ||| m / 2 ^ tW t) ||| anot m (leftM (tR t) (tW t) * 2 ^ (tW t - 1)) * 2 ^ 1 < 2 ^ 31 := Nat.or_lt_two_pow o1 (by omega)
  have e0 : nI (tW t) - 1 = nI (tW t - 1) := pk_sub (b := 1) (by omega)
  have e1 : nI (leftM (tR t) (tW t)) <<< (nI (tW t - 1) &&& 31) = nI (leftM (tR t) (tW t) * 2 ^ (tW t - 1)) := shlN (by omega) (by omega)
  have e2 : nI m <<< (nI (tW t) &&& 31) = nI (m * 2 ^ tW t) := shlN (by omega) (by omega)
  have e3 : nI m >>> (nI (tW t) &&& 31) = nI (m / 2 ^ tW t) := shrN (by omega) (by omega)
  have e4 : nI (anot m (leftM (tR t) (tW t) * 2 ^ (tW t - 1))) <<< ((1 : Int32) &&& 31) = nI (anot m (leftM (tR t) (tW t) * 2 ^ (tW t - 1)) * 2 ^ 1) := shlN (c := 1) (by omega) (by omega)
  have e5 : nI (anot m (leftM (tR t) (tW t))) >>> ((1 : Int32) &&& 31) = nI (anot m (leftM (tR t) (tW t)) / 2 ^ 1) := shrN (c := 1) (by omega) (by omega)
  unfold besM
  refine ⟨?_, Nat.or_lt_two_pow o2 (by omega)⟩
  unfold F_X8_besides
  simp only [↓bOC hP, l1, l2]
  rw [e0, e1, e2, e3, Option.bind_some, anotN (by omega) (by omega), anotN (by omega) (by omega), e4, e5, orN b1 (by omega), orN o1 (by omega), orN o2 (by omega)]
/-- the cells beside one -/
def besN (w n c : Nat) : Nat := ((((if w ≤ c then 2 ^ (c - w) else 0) ||| (if c + w < n then 2 ^ (c + w) else 0)) ||| (if 0 < c % w then 2 ^ (c - 1) else 0)) ||| (if c % w < w - 1 then 2 ^ (c + 1) else 0))
theorem ite_pow_bit {p : Prop} [Decidable p] {x b : Nat} : (if p then 2 ^ x else 0).testBit b = (decide p && decide (x = b)) := by
  by_cases h : p
  · rw [if_pos h, Nat.testBit_two_pow, decide_eq_true h, Bool.true_and]
  · rw [if_neg h, Nat.zero_testBit, decide_eq_false h, Bool.false_and]
theorem besN_bit {w n c b : Nat} (h1 : 1 ≤ w) (h5 : w ≤ 5) (hb : b < n) : (besN w n c).testBit b = adjB w b c := by
  unfold besN adjB
  rw [Nat.testBit_or, Nat.testBit_or, Nat.testBit_or, ite_pow_bit, ite_pow_bit, ite_pow_bit, ite_pow_bit]
  rw [Bool.eq_iff_iff]
  simp only [Bool.or_eq_true, Bool.and_eq_true, decide_eq_true_iff, Bool.not_eq_true', decide_eq_false_iff_not]
  have hml : ∀ x, x % w < w := fun x => Nat.mod_lt x (by omega)
  constructor
  · rintro (((⟨h2, h3⟩ | ⟨h2, h3⟩) | ⟨h2, h3⟩) | ⟨h2, h3⟩)
    · exact Or.inl (Or.inl (Or.inr (by omega)))
    · exact Or.inl (Or.inl (Or.inl (by omega)))
    · have hc : c ≠ 0 := by
        intro z
        rw [z, Nat.zero_mod] at h2
        omega
      refine Or.inl (Or.inr ⟨by omega, fun z => ?_⟩)
      have := (succ_mod (b := b) h1 h5).mpr z
      rw [show b + 1 = c by omega] at this
      omega
    · refine Or.inr ⟨by omega, fun z => by omega⟩
  · rintro (((h2 | h2) | ⟨h2, h3⟩) | ⟨h2, h3⟩)
    · exact Or.inl (Or.inl (Or.inr ⟨by omega, by omega⟩))
    · exact Or.inl (Or.inl (Or.inl ⟨by omega, by omega⟩))
    · refine Or.inl (Or.inr ⟨?_, by omega⟩)
      have h4 : ¬ c % w = 0 := fun z => h3 ((succ_mod (b := b) h1 h5).mp (by rw [← h2]; exact z))
      omega
    · have := hml c
      exact Or.inr ⟨by omega, by omega⟩
