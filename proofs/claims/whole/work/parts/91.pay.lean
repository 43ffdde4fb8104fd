/-! ===== payments: groups that come to nothing ===== -/
def subB (v s : Nat) : Bool := (v &&& s) == v
theorem sub_iff {v s : Nat} : subB v s = true ↔ ∀ i, v.testBit i = true → s.testBit i = true := by
  unfold subB
  rw [beq_iff_eq]
  constructor
  · intro h i hv
    have e : (v &&& s).testBit i = v.testBit i := by rw [h]
    rw [Nat.testBit_and, hv] at e
    simpa using e
  · intro h
    apply Nat.eq_of_testBit_eq
    intro i
    rw [Nat.testBit_and]
    cases hv : v.testBit i with
    | false => rfl
    | true => rw [h i hv]; rfl
theorem anot_comm (s v w : Nat) : anot (anot s v) w = anot (anot s w) v := by
  apply Nat.eq_of_testBit_eq
  intro i
  rw [anot_bit, anot_bit, anot_bit, anot_bit]
  cases s.testBit i <;> cases v.testBit i <;> cases w.testBit i <;> rfl
/-- so many groups, no two sharing an owner, each coming to nothing -/
def Pk (Z : Nat → Bool) : Nat → Nat → Prop
  | 0, _ => True
  | k + 1, s => ∃ v, subB v s = true ∧ 0 < v ∧ Z v = true ∧ Pk Z k (anot s v)
def lbB (s v : Nat) : Bool := allN (fun i => !(s.testBit i && allN (fun j => !s.testBit j) i) || v.testBit i) 5
/-- the same, the first owner left in the first group -/
def Ck (Z : Nat → Bool) : Nat → Nat → Prop
  | 0, _ => True
  | k + 1, s => ∃ v, subB v s = true ∧ 0 < v ∧ lbB s v = true ∧ Z v = true ∧ Ck Z k (anot s v)
theorem Pk_of {Z : Nat → Bool} : ∀ k s, Ck Z k s → Pk Z k s
  | 0, _, _ => trivial
  | k + 1, s, h => by
    obtain ⟨v, h1, h2, hl, h3, h4⟩ := h
    exact ⟨v, h1, h2, h3, Pk_of k _ h4⟩
theorem Pk_mono {Z : Nat → Bool} : ∀ k s, Pk Z k s → ∀ s', subB s s' = true → Pk Z k s'
  | 0, _, _, _, _ => trivial
  | k + 1, s, h, s', hs => by
    obtain ⟨v, h1, h2, h3, h4⟩ := h
    have a := sub_iff.mp h1
    have b := sub_iff.mp hs
    refine ⟨v, sub_iff.mpr fun i hv => b i (a i hv), h2, h3, Pk_mono k _ h4 _ (sub_iff.mpr fun i hi => ?_)⟩
    rw [anot_bit] at hi ⊢
    cases hv : v.testBit i with
    | true => rw [hv] at hi; simp at hi
    | false =>
      rw [hv] at hi
      have hi' : s.testBit i = true := by simpa using hi
      rw [b i hi']; rfl
theorem anot_lt_of : ∀ s, s < 32 → ∀ v, v < 32 → subB v s = true → 0 < v → anot s v < s := by decide +kernel
theorem low_allT : ∀ s, s < 32 → ∀ v, v < 32 → ∀ w, w < 32 → (!(subB v s && (!lbB s v && (subB w (anot s v) && lbB (anot s v) w))) || lbB s w) = true := by decide +kernel
theorem low_all (s : Nat) (hs : s < 32) (v : Nat) (hv : v < 32) (h1 : subB v s = true) (h2 : lbB s v = false) (w : Nat) (hw : w < 32) (h3 : subB w (anot s v) = true) (h4 : lbB (anot s v) w = true) : lbB s w = true := by
  have h := low_allT s hs v hv w hw
  rw [h1, h2, h3, h4] at h
  simpa using h
theorem low_self : ∀ s, s < 32 → lbB s s = true := by decide +kernel
theorem sub_lt {v s : Nat} (h : subB v s = true) : v ≤ s := by
  unfold subB at h
  rw [beq_iff_eq] at h
  rw [← h]
  exact Nat.and_le_right
theorem sub_self (s : Nat) : subB s s = true := sub_iff.mpr fun _ h => h
/-- what the zero sums keep -/
def okZ (Z : Nat → Bool) : Prop := ∀ s v, s < 32 → subB v s = true → Z s = true → Z v = true → Z (anot s v) = true
theorem Ck_of {Z : Nat → Bool} (hZ : okZ Z) : ∀ n s k, s ≤ n → s < 32 → Z s = true → Pk Z k s → Ck Z k s := by
  intro n
  induction n with
  | zero =>
    intro s k hn hs hz h
    cases k with
    | zero => trivial
    | succ k =>
      obtain ⟨v, h1, h2, h3, h4⟩ := h
      have := sub_lt h1
      omega
  | succ n ih =>
    intro s k hn hs hz h
    cases k with
    | zero => trivial
    | succ k =>
      obtain ⟨v, h1, h2, h3, h4⟩ := h
      have vl := sub_lt h1
      have al := anot_lt_of s hs v (by omega) h1 h2
      have hz2 := hZ s v hs h1 hz h3
      have c1 := ih (anot s v) k (by omega) (by omega) hz2 h4
      cases hl : lbB s v with
      | true => exact ⟨v, h1, h2, hl, h3, c1⟩
      | false =>
        cases k with
        | zero => exact ⟨s, sub_self s, by omega, low_self s hs, hz, trivial⟩
        | succ k =>
          obtain ⟨w, g1, g2, gl, g3, g4⟩ := c1
          have wl := sub_lt g1
          have gl2 := low_all s hs v (by omega) h1 hl w (by omega) g1 gl
          have a := sub_iff.mp g1
          have ws : subB w s = true := sub_iff.mpr fun i hi => by
            have := a i hi
            rw [anot_bit] at this
            cases hx : s.testBit i with
            | true => rfl
            | false => rw [hx] at this; cases this
          have vs : subB v (anot s w) = true := sub_iff.mpr fun i hi => by
            rw [anot_bit, sub_iff.mp h1 i hi]
            cases hw : w.testBit i with
            | false => rfl
            | true =>
              have := a i hw
              rw [anot_bit, hi] at this
              simp at this
          have al2 := anot_lt_of s hs w (by omega) ws g2
          have hz3 := hZ s w hs ws hz g3
          have p : Pk Z (k + 1) (anot s w) := ⟨v, vs, h2, h3, by rw [anot_comm]; exact Pk_of k _ g4⟩
          exact ⟨w, ws, g2, gl2, g3, ih (anot s w) (k + 1) (by omega) (by omega) hz3 p⟩
/-- an owner who owes nothing is a group -/
theorem Pk_drop {Z : Nat → Bool} {o : Nat} : ∀ k s, Pk Z (k + 1) s → s.testBit o = true → Pk Z k (anot s (2 ^ o))
  | 0, _, _, _ => trivial
  | k + 1, s, h, ho => by
    obtain ⟨v, h1, h2, h3, h4⟩ := h
    cases hv : v.testBit o with
    | true =>
      refine Pk_mono _ _ h4 _ (sub_iff.mpr fun i hi => ?_)
      rw [anot_bit] at hi ⊢
      by_cases e : o = i
      · subst e
        rw [hv] at hi; simp at hi
      · rw [Nat.testBit_two_pow_of_ne e]
        cases hs : s.testBit i with
        | true => rfl
        | false => rw [hs] at hi; cases hi
    | false =>
      have q := Pk_drop k (anot s v) h4 (by rw [anot_bit, ho, hv]; rfl)
      refine ⟨v, sub_iff.mpr fun i hi => ?_, h2, h3, by rw [anot_comm]; exact q⟩
      rw [anot_bit, sub_iff.mp h1 i hi]
      by_cases e : o = i
      · subst e
        rw [hv] at hi; cases hi
      · rw [Nat.testBit_two_pow_of_ne e]; rfl
theorem Pk_add {Z : Nat → Bool} {o s k : Nat} (ho : s.testBit o = true) (hz : Z (2 ^ o) = true) (h : Pk Z k (anot s (2 ^ o))) : Pk Z (k + 1) s := by
  refine ⟨2 ^ o, sub_iff.mpr fun i hi => ?_, Nat.pow_pos (by omega), hz, h⟩
  by_cases e : o = i
  · rw [← e]; exact ho
  · rw [Nat.testBit_two_pow_of_ne e] at hi; cases hi
/-! ===== the greatest number, as both reckon it ===== -/
def gL (ok : Nat → Bool) (f : Nat → Nat) (s : Nat) : Nat → Nat
  | 0 => 0
  | j + 1 => if ok (j + 1) then max (gL ok f s j) (1 + f (anot s (j + 1))) else gL ok f s j
theorem gL_ge {ok : Nat → Bool} {f : Nat → Nat} {s v : Nat} : ∀ n, 0 < v → v ≤ n → ok v = true → 1 + f (anot s v) ≤ gL ok f s n
  | 0, h1, h2, _ => by omega
  | n + 1, h1, h2, h3 => by
    have e : gL ok f s (n + 1) = if ok (n + 1) then max (gL ok f s n) (1 + f (anot s (n + 1))) else gL ok f s n := rfl
    rw [e]
    by_cases g : v = n + 1
    · subst g
      rw [h3, if_pos rfl]
      omega
    · have := gL_ge (ok := ok) (f := f) (s := s) n h1 (by omega) h3
      split <;> omega
theorem gL_eq {ok : Nat → Bool} {f : Nat → Nat} {s : Nat} : ∀ n, gL ok f s n = 0 ∨ ∃ v, 0 < v ∧ v ≤ n ∧ ok v = true ∧ gL ok f s n = 1 + f (anot s v)
  | 0 => Or.inl rfl
  | n + 1 => by
    have e : gL ok f s (n + 1) = if ok (n + 1) then max (gL ok f s n) (1 + f (anot s (n + 1))) else gL ok f s n := rfl
    rw [e]
    have ih := gL_eq (ok := ok) (f := f) (s := s) n
    cases ho : ok (n + 1) with
    | false =>
      rw [if_neg (by decide)]
      rcases ih with h | ⟨v, h1, h2, h3, h4⟩
      · exact Or.inl h
      · exact Or.inr ⟨v, h1, by omega, h3, h4⟩
    | true =>
      rw [if_pos rfl]
      by_cases g : gL ok f s n ≤ 1 + f (anot s (n + 1))
      · exact Or.inr ⟨n + 1, by omega, by omega, ho, by omega⟩
      · rcases ih with h | ⟨v, h1, h2, h3, h4⟩
        · omega
        · exact Or.inr ⟨v, h1, by omega, h3, by omega⟩
theorem gL_gap {ok : Nat → Bool} {f : Nat → Nat} {s a : Nat} : ∀ b, a ≤ b → (∀ v, a < v → v ≤ b → ok v = false) → gL ok f s b = gL ok f s a
  | 0, h, _ => by
    have : a = 0 := by omega
    rw [this]
  | b + 1, h, hv => by
    by_cases g : a = b + 1
    · rw [g]
    · have e : gL ok f s (b + 1) = if ok (b + 1) then max (gL ok f s b) (1 + f (anot s (b + 1))) else gL ok f s b := rfl
      rw [e, hv (b + 1) (by omega) (by omega), if_neg (by decide)]
      exact gL_gap b (by omega) (fun v h1 h2 => hv v h1 (by omega))
def okM (Z : Nat → Bool) (s v : Nat) : Bool := subB v s && Z v
def okC (Z : Nat → Bool) (s v : Nat) : Bool := subB v s && (lbB s v && Z v)
def mP (Z : Nat → Bool) : Nat → Nat → Nat
  | 0, _ => 0
  | n + 1, s => gL (okM Z s) (mP Z n) s s
def mC (Z : Nat → Bool) : Nat → Nat → Nat
  | 0, _ => 0
  | n + 1, s => gL (okC Z s) (mC Z n) s s
theorem mP_P (Z : Nat → Bool) : ∀ n s, Pk Z (mP Z n s) s
  | 0, s => trivial
  | n + 1, s => by
    show Pk Z (gL (okM Z s) (mP Z n) s s) s
    rcases gL_eq (ok := okM Z s) (f := mP Z n) (s := s) s with h | ⟨v, h1, h2, h3, h4⟩
    · rw [h]; trivial
    · rw [h4, Nat.add_comm]
      unfold okM at h3
      rw [Bool.and_eq_true] at h3
      exact ⟨v, h3.1, h1, h3.2, mP_P Z n _⟩
theorem mC_C (Z : Nat → Bool) : ∀ n s, Ck Z (mC Z n s) s
  | 0, s => trivial
  | n + 1, s => by
    show Ck Z (gL (okC Z s) (mC Z n) s s) s
    rcases gL_eq (ok := okC Z s) (f := mC Z n) (s := s) s with h | ⟨v, h1, h2, h3, h4⟩
    · rw [h]; trivial
    · rw [h4, Nat.add_comm]
      unfold okC at h3
      rw [Bool.and_eq_true, Bool.and_eq_true] at h3
      exact ⟨v, h3.1, h1, h3.2.1, h3.2.2, mC_C Z n _⟩
theorem cnt_lt : ∀ s, s < 32 → ∀ v, v < 32 → subB v s = true → 0 < v → cntN (anot s v) 25 < cntN s 25 := by decide +kernel
theorem mP_max {Z : Nat → Bool} : ∀ n s k, s < 32 → cntN s 25 ≤ n → Pk Z k s → k ≤ mP Z n s
  | n, s, 0, hs, hn, h => by omega
  | n, s, k + 1, hs, hn, h => by
      obtain ⟨v, h1, h2, h3, h4⟩ := h
      have vl := sub_lt h1
      have cl := cnt_lt s hs v (by omega) h1 h2
      have al := anot_lt_of s hs v (by omega) h1 h2
      cases n with
      | zero => omega
      | succ n =>
        have ih := mP_max n (anot s v) k (by omega) (by omega) h4
        have g := gL_ge (ok := okM Z s) (f := mP Z n) (s := s) s h2 vl (by unfold okM; rw [h1, h3]; rfl)
        show k + 1 ≤ gL (okM Z s) (mP Z n) s s
        omega
theorem mC_max {Z : Nat → Bool} : ∀ n s k, s < 32 → cntN s 25 ≤ n → Ck Z k s → k ≤ mC Z n s
  | n, s, 0, hs, hn, h => by omega
  | n, s, k + 1, hs, hn, h => by
      obtain ⟨v, h1, h2, hl, h3, h4⟩ := h
      have vl := sub_lt h1
      have cl := cnt_lt s hs v (by omega) h1 h2
      have al := anot_lt_of s hs v (by omega) h1 h2
      cases n with
      | zero => omega
      | succ n =>
        have ih := mC_max n (anot s v) k (by omega) (by omega) h4
        have g := gL_ge (ok := okC Z s) (f := mC Z n) (s := s) s h2 vl (by unfold okC; rw [h1, hl, h3]; rfl)
        show k + 1 ≤ gL (okC Z s) (mC Z n) s s
        omega
theorem cnt_6 : ∀ s, s < 32 → cntN s 25 ≤ 6 := by decide +kernel
theorem mC_mP {Z : Nat → Bool} (hZ : okZ Z) {s : Nat} (hs : s < 32) (hz : Z s = true) : mC Z 6 s = mP Z 6 s := by
  have h1 := mC_max 6 s _ hs (cnt_6 s hs) (Ck_of hZ s s _ (Nat.le_refl _) hs hz (mP_P Z 6 s))
  have h2 := mP_max 6 s _ hs (cnt_6 s hs) (Pk_of _ _ (mC_C Z 6 s))
  omega
theorem mP_drop {Z : Nat → Bool} {o s : Nat} (hs : s < 32) (ho : s.testBit o = true) (hz : Z (2 ^ o) = true) : mP Z 6 s = mP Z 6 (anot s (2 ^ o)) + 1 := by
  have al : anot s (2 ^ o) < 2 ^ 5 := anot_lt (n := 5) hs
  have h1 := mP_max 6 s _ hs (cnt_6 s hs) (Pk_add ho hz (mP_P Z 6 (anot s (2 ^ o))))
  have h2 := mP_P Z 6 s
  cases hk : mP Z 6 s with
  | zero => omega
  | succ k =>
    rw [hk] at h2
    have h3 := mP_max 6 (anot s (2 ^ o)) k al (cnt_6 _ al) (Pk_drop k s h2 ho)
    omega
theorem mP_le (Z : Nat → Bool) : ∀ n s, mP Z n s ≤ n
  | 0, _ => Nat.le_refl _
  | n + 1, s => by
    show gL (okM Z s) (mP Z n) s s ≤ n + 1
    rcases gL_eq (ok := okM Z s) (f := mP Z n) (s := s) s with h | ⟨v, h1, h2, h3, h4⟩
    · omega
    · have := mP_le Z n (anot s v)
      omega
