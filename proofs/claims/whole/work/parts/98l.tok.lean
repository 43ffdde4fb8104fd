/-! ===== tokens ===== -/
def blP (c : Nat) : Prop := c = 10 ∨ c = 32
def smP (c : Nat) : Prop := 97 ≤ c ∧ c ≤ 122
def dgP (c : Nat) : Prop := 48 ≤ c ∧ c ≤ 57
/-- as long as they go on -/
def runE (p : Nat → Prop) (b : Nat → Nat) (n f e : Nat) : Prop := f < e ∧ e ≤ n ∧ (∀ x, f ≤ x → x < e → p (b x)) ∧ (e < n → ¬ p (b e))
def signP (c k : Nat) : Prop := (∃ j, j < 12 ∧ sCh 0 j = c ∧ k = 32 + j) ∨ (k = 31 ∧ ∀ j, j < 12 → sCh 0 j ≠ c)
/-- a token from f to e of the kind k (the model's numbers) -/
def tokE (b : Nat → Nat) (n f e k : Nat) : Prop :=
  (n ≤ f ∧ e = f ∧ k = 30) ∨ (f < n ∧ smP (b f) ∧ runE smP b n f e ∧ keyP b f e k) ∨ (f < n ∧ dgP (b f) ∧ runE dgP b n f e ∧ k = (if e - f ≤ 3 then 29 else 31)) ∨ (f < n ∧ ¬ smP (b f) ∧ ¬ dgP (b f) ∧ e = f + 1 ∧ signP (b f) k)
def isTok (b : Nat → Nat) (n p f e k : Nat) : Prop := (p ≤ f ∧ f ≤ n ∧ (∀ x, p ≤ x → x < f → blP (b x)) ∧ (f < n → ¬ blP (b f))) ∧ tokE b n f e k
def numF (b : Nat → Nat) (f : Nat) : Nat → Nat
  | 0 => 0
  | m + 1 => numF b f m * 10 + (b (f + m) - 48)
theorem numF_lt {b : Nat → Nat} {f : Nat} : ∀ m, (∀ x, x < m → b (f + x) ≤ 57) → numF b f m < 10 ^ m
  | 0, _ => (by decide : 0 < 10 ^ 0)
  | m + 1, h => by
    have ih := numF_lt m (fun x hx => h x (by omega))
    have hm := h m (by omega)
    show numF b f m * 10 + (b (f + m) - 48) < 10 ^ m * 10
    omega
theorem tokE_le {b : Nat → Nat} {n f e k : Nat} (h : tokE b n f e k) (hf : f ≤ n) : f ≤ e ∧ e ≤ n ∧ k < 44 ∧ (k ≠ 30 → f < e) ∧ (k = 30 → f = n) := by
  rcases h with ⟨h1, h2, h3⟩ | ⟨h1, h2, h3, h4⟩ | ⟨h1, h2, h3, h4⟩ | ⟨h1, h2, h3, h4, h5⟩
  · omega
  · have := h3.1
    have := h3.2.1
    rcases h4 with ⟨h4, _⟩ | ⟨h4, _⟩ <;> omega
  · have := h3.1
    have := h3.2.1
    split at h4 <;> omega
  · rcases h5 with ⟨j, j1, j2, j3⟩ | ⟨j1, j2⟩ <;> omega
/-- the text in the model -/
def TxM (K : Nat → Nat → Int32) (b : Nat → Nat) (n : Nat) : Prop := n ≤ 900 ∧ K 164 8 = nI n ∧ ∀ x, x < n → b x < 256 ∧ K 167 x = nI (b x)
theorem TxM_fr {K K' : Nat → Nat → Int32} {b : Nat → Nat} {n : Nat} (h : TxM K b n) (e1 : K' 164 8 = K 164 8) (e2 : ∀ x, K' 167 x = K 167 x) : TxM K' b n := ⟨h.1, by rw [e1]; exact h.2.1, fun x hx => by rw [e2]; exact h.2.2 x hx⟩
def seeV (b : Nat → Nat) (n x : Nat) : Int32 := if x < n then nI (b x) else -1
theorem see_M {P : Nat → Nat → Option Nat} (hP : GP P) {K : Nat → Nat → Int32} {J : Nat → Nat → Int64} {b : Nat → Nat} {n x : Nat} (hT : TxM K b n) (hx : x < 2 ^ 31) : F_X12_see 164 (nI x) (mm P K J) = some (seeV b n x, mm P K J) := by
  have n9 := hT.1
  have h8 := hT.2.1
  unfold F_X12_see seeV
  by_cases h : x < n
  · have c1 : ¬ nI n ≤ nI x := nI_ge h (by omega)
    have b2 := (hT.2.2 x h).2
    simp (disch := omega) only [↓bOM hP, h8, c1, ↓reduceIte, ↓bAM, b2, h]
  · have c1 : nI n ≤ nI x := nI_le (by omega) hx
    simp (disch := omega) only [↓bOM hP, h8, c1, ↓reduceIte, h]
theorem small_V {b : Nat → Nat} {n x : Nat} (hb : x < n → b x < 256) (M : xM) : ∃ v, F_X12_isSmall (seeV b n x) M = some (v, M) ∧ ((v = 1 ∧ x < n ∧ smP (b x)) ∨ (v = 0 ∧ ¬ (x < n ∧ smP (b x)))) := by
  unfold F_X12_isSmall F_X12_isSmall_16 seeV smP
  simp only [xz0, xz1, Option.bind_some]
  by_cases h : x < n
  · rw [if_pos h]
    have hb := hb h
    have e1 : nI (b x) < (97 : Int32) ↔ b x < 97 := nI_ltI (b := 97) (by omega) (by omega)
    have e2 : (122 : Int32) < nI (b x) ↔ 122 < b x := nI_ltI (a := 122) (by omega) (by omega)
    by_cases h1 : b x < 97
    · rw [if_pos (e1.mpr h1)]
      exact ⟨0, rfl, Or.inr ⟨rfl, by omega⟩⟩
    · rw [if_neg (fun z => h1 (e1.mp z))]
      by_cases h2 : 122 < b x
      · rw [if_pos (e2.mpr h2)]
        exact ⟨0, rfl, Or.inr ⟨rfl, by omega⟩⟩
      · rw [if_neg (fun z => h2 (e2.mp z))]
        exact ⟨1, rfl, Or.inl ⟨rfl, by omega⟩⟩
  · rw [if_neg h, if_pos (by decide)]
    exact ⟨0, rfl, Or.inr ⟨rfl, by omega⟩⟩
theorem digit_V {b : Nat → Nat} {n x : Nat} (hb : x < n → b x < 256) (M : xM) : ∃ v, F_X12_isDigit (seeV b n x) M = some (v, M) ∧ ((v = 1 ∧ x < n ∧ dgP (b x)) ∨ (v = 0 ∧ ¬ (x < n ∧ dgP (b x)))) := by
  unfold F_X12_isDigit F_X12_isDigit_16 seeV dgP
  simp only [xz0, xz1, Option.bind_some]
  by_cases h : x < n
  · rw [if_pos h]
    have hb := hb h
    have e1 : nI (b x) < (48 : Int32) ↔ b x < 48 := nI_ltI (b := 48) (by omega) (by omega)
    have e2 : (57 : Int32) < nI (b x) ↔ 57 < b x := nI_ltI (a := 57) (by omega) (by omega)
    by_cases h1 : b x < 48
    · rw [if_pos (e1.mpr h1)]
      exact ⟨0, rfl, Or.inr ⟨rfl, by omega⟩⟩
    · rw [if_neg (fun z => h1 (e1.mp z))]
      by_cases h2 : 57 < b x
      · rw [if_pos (e2.mpr h2)]
        exact ⟨0, rfl, Or.inr ⟨rfl, by omega⟩⟩
      · rw [if_neg (fun z => h2 (e2.mp z))]
        exact ⟨1, rfl, Or.inl ⟨rfl, by omega⟩⟩
  · rw [if_neg h, if_pos (by decide)]
    exact ⟨0, rfl, Or.inr ⟨rfl, by omega⟩⟩
/-- what next() leaves as it was -/
def frN (K K' : Nat → Nat → Int32) : Prop := ∀ a i, ¬ (a = 164 ∧ (i = 6 ∨ i = 7 ∨ i = 9 ∨ i = 10)) → K' a i = K a i
theorem frN.rf {K : Nat → Nat → Int32} : frN K K := fun _ _ _ => rfl
theorem frN.tr {K K1 K2 : Nat → Nat → Int32} (h : frN K K1) (g : frN K1 K2) : frN K K2 := fun a i z => (g a i z).trans (h a i z)
theorem frN.pt {K : Nat → Nat → Int32} {i : Nat} {v : Int32} (h : i = 6 ∨ i = 7 ∨ i = 9 ∨ i = 10) : frN K (xu K 164 i v) := fun a j z => xu_o (fun w => z ⟨w.1, by omega⟩)
theorem TxM.fr {K K' : Nat → Nat → Int32} {b : Nat → Nat} {n : Nat} (h : TxM K b n) (g : frN K K') : TxM K' b n := TxM_fr h (g _ _ (by omega)) (fun x => g _ _ (by omega))
/-! a word -/
theorem next89 {P : Nat → Nat → Option Nat} (hP : GP P) {K : Nat → Nat → Int32} {J : Nat → Nat → Int64} {b : Nat → Nat} {n f : Nat} (hT : TxM K b n) (h6 : K 164 6 = nI f) (h7 : K 164 7 = nI f) (hf : f < n) (hs : smP (b f)) :
    ∃ K' e k, F_X12_next_89 164 (mm P K J) = some (mm P K' J) ∧ frN K K' ∧ K' 164 6 = nI f ∧ K' 164 7 = nI e ∧ K' 164 9 = nI k ∧ runE smP b n f e ∧ keyP b f e k := by
  have n9 := hT.1
  have fin : ∀ {K1 : Nat → Nat → Int32} {e : Nat}, TxM K1 b n → frN K K1 → K1 164 6 = nI f → K1 164 7 = nI e → f ≤ e → e ≤ n → (∀ x, f ≤ x → x < e → smP (b x)) → ¬ (e < n ∧ smP (b e)) → ∃ K' e k, F_X12_next_116 164 (mm P K1 J) = some (mm P K' J) ∧ frN K K' ∧ K' 164 6 = nI f ∧ K' 164 7 = nI e ∧ K' 164 9 = nI k ∧ runE smP b n f e ∧ keyP b f e k := by
    intro K1 e t1 t2 t3 t4 t5 t6 t7 t8
    obtain ⟨k, k1, k2⟩ := keyAt_M hP (K := K1) (J := J) (b := b) t3 t4 t5 (by omega) (fun x h1 h2 => t1.2.2 x (by omega))
    refine ⟨xu K1 164 9 (nI k), e, k, ?_, t2.tr (frN.pt (by omega)), by rw [xu_o (by omega)]; exact t3, by rw [xu_o (by omega)]; exact t4, xu_self, ⟨?_, t6, t7, fun h1 h2 => t8 ⟨h1, h2⟩⟩, k2⟩
    · unfold F_X12_next_116 F_X12_next_294
      simp only [↓bOM hP, ↓bs k1]
    · have : e ≠ f := fun z => t8 (by rw [z]; exact ⟨hf, hs⟩)
      omega
  have key : ∃ r : xM, xit (F_X12_next_89b 164) xFU (mm P K J) = some r ∧ (∃ K' e k, r = mm P K' J ∧ frN K K' ∧ K' 164 6 = nI f ∧ K' 164 7 = nI e ∧ K' 164 9 = nI k ∧ runE smP b n f e ∧ keyP b f e k) := by
    refine xit_inv (fun j z => ∃ K1, z = mm P K1 J ∧ frN K K1 ∧ K1 164 6 = nI f ∧ K1 164 7 = nI (f + j) ∧ f + j ≤ n ∧ ∀ x, f ≤ x → x < f + j → smP (b x)) _ (n - f) ⟨K, rfl, frN.rf, h6, h7, by omega, fun x h1 h2 => by omega⟩ (fun j z hj hz => ?_) (fun z hz => ?_) (by omega)
    · obtain ⟨K1, rfl, g1, g2, g3, g4, g5⟩ := hz
      have t1 := hT.fr g1
      have se := see_M hP (J := J) t1 (show f + j < 2 ^ 31 by omega)
      obtain ⟨v, v1, v2⟩ := small_V (b := b) (n := n) (x := f + j) (fun h => (hT.2.2 _ h).1) (mm P K1 J)
      rcases v2 with ⟨rfl, v3, v4⟩ | ⟨rfl, v3⟩
      · left
        refine ⟨mm P (xu K1 164 7 (nI (f + (j + 1)))) J, ?_, _, rfl, g1.tr (frN.pt (by omega)), by rw [xu_o (by omega)]; exact g2, xu_self, by omega, fun x h1 h2 => ?_⟩
        · unfold F_X12_next_89b
          simp only [↓bOM hP, g3, ↓bs se, ↓bs v1, one_ne, ↓reduceIte, nI_1]
          rfl
        · by_cases e : x = f + j
          · rw [e]; exact v4
          · exact g5 x h1 (by omega)
      · right
        obtain ⟨K', e, k, k1, k2⟩ := fin t1 g1 g2 g3 (by omega) g4 g5 v3
        refine ⟨mm P K' J, ?_, K', e, k, rfl, k2⟩
        unfold F_X12_next_89b
        simp only [↓bOM hP, g3, ↓bs se, ↓bs v1, ↓reduceIte, k1, Option.map_some]
    · obtain ⟨K1, rfl, g1, g2, g3, g4, g5⟩ := hz
      have t1 := hT.fr g1
      have se := see_M hP (J := J) t1 (show f + (n - f) < 2 ^ 31 by omega)
      obtain ⟨v, v1, v2⟩ := small_V (b := b) (n := n) (x := f + (n - f)) (fun h => (hT.2.2 _ h).1) (mm P K1 J)
      rcases v2 with ⟨rfl, v3, v4⟩ | ⟨rfl, v3⟩
      · omega
      · obtain ⟨K', e, k, k1, k2⟩ := fin t1 g1 g2 g3 (by omega) g4 g5 v3
        refine ⟨mm P K' J, ?_, K', e, k, rfl, k2⟩
        unfold F_X12_next_89b
        simp only [↓bOM hP, g3, ↓bs se, ↓bs v1, ↓reduceIte, k1, Option.map_some]
  obtain ⟨r, k1, K', e, k, rfl, k2⟩ := key
  exact ⟨K', e, k, k1, k2⟩
/-! a number -/
theorem next146 {P : Nat → Nat → Option Nat} (hP : GP P) {K : Nat → Nat → Int32} {J : Nat → Nat → Int64} {b : Nat → Nat} {n f : Nat} (hT : TxM K b n) (h6 : K 164 6 = nI f) (h7 : K 164 7 = nI f) (h10 : K 164 10 = 0) (hf : f < n) (hs : dgP (b f)) :
    ∃ K' e k, F_X12_next_146 164 (mm P K J) = some (mm P K' J) ∧ frN K K' ∧ K' 164 6 = nI f ∧ K' 164 7 = nI e ∧ K' 164 9 = nI k ∧ runE dgP b n f e ∧ k = (if e - f ≤ 3 then 29 else 31) ∧ (k = 29 → K' 164 10 = nI (numF b f (e - f))) := by
  have n9 := hT.1
  have fin : ∀ {K1 : Nat → Nat → Int32} {e : Nat}, frN K K1 → K1 164 6 = nI f → K1 164 7 = nI e → (e - f ≤ 3 → K1 164 10 = nI (numF b f (e - f))) → f ≤ e → e ≤ n → (∀ x, f ≤ x → x < e → dgP (b x)) → ¬ (e < n ∧ dgP (b e)) → ∃ K' e k, F_X12_next_209 164 (mm P K1 J) = some (mm P K' J) ∧ frN K K' ∧ K' 164 6 = nI f ∧ K' 164 7 = nI e ∧ K' 164 9 = nI k ∧ runE dgP b n f e ∧ k = (if e - f ≤ 3 then 29 else 31) ∧ (k = 29 → K' 164 10 = nI (numF b f (e - f))) := by
    intro K1 e t2 t3 t4 t0 t5 t6 t7 t8
    have fe : f < e := by
      have : e ≠ f := fun z => t8 (by rw [z]; exact ⟨hf, hs⟩)
      omega
    have sb : nI e - nI f = nI (e - f) := pk_sub (by omega)
    by_cases h : e - f ≤ 3
    · have c1 : nI (e - f) ≤ (3 : Int32) := nI_le (b := 3) h (by omega)
      refine ⟨xu K1 164 9 (nI 29), e, 29, ?_, t2.tr (frN.pt (by omega)), by rw [xu_o (by omega)]; exact t3, by rw [xu_o (by omega)]; exact t4, xu_self, ⟨fe, t6, t7, fun h1 h2 => t8 ⟨h1, h2⟩⟩, by rw [if_pos h], fun _ => by rw [xu_o (by omega)]; exact t0 h⟩
      unfold F_X12_next_209 F_X12_next_230 F_X12_next_294
      simp only [↓bOM hP, t3, t4, sb, c1, ↓reduceIte]
      rfl
    · have c1 : ¬ nI (e - f) ≤ (3 : Int32) := nI_ge (a := 3) (by omega) (by omega)
      refine ⟨xu K1 164 9 (nI 31), e, 31, ?_, t2.tr (frN.pt (by omega)), by rw [xu_o (by omega)]; exact t3, by rw [xu_o (by omega)]; exact t4, xu_self, ⟨fe, t6, t7, fun h1 h2 => t8 ⟨h1, h2⟩⟩, by rw [if_neg h], fun z => by omega⟩
      unfold F_X12_next_209 F_X12_next_230 F_X12_next_294
      simp only [↓bOM hP, t3, t4, sb, c1, ↓reduceIte]
      rfl
  have key : ∃ r : xM, xit (F_X12_next_146b 164) xFU (mm P K J) = some r ∧ (∃ K' e k, r = mm P K' J ∧ frN K K' ∧ K' 164 6 = nI f ∧ K' 164 7 = nI e ∧ K' 164 9 = nI k ∧ runE dgP b n f e ∧ k = (if e - f ≤ 3 then 29 else 31) ∧ (k = 29 → K' 164 10 = nI (numF b f (e - f)))) := by
    refine xit_inv (fun j z => ∃ K1, z = mm P K1 J ∧ frN K K1 ∧ K1 164 6 = nI f ∧ K1 164 7 = nI (f + j) ∧ (j ≤ 3 → K1 164 10 = nI (numF b f j)) ∧ f + j ≤ n ∧ ∀ x, f ≤ x → x < f + j → dgP (b x)) _ (n - f) ⟨K, rfl, frN.rf, h6, h7, fun _ => h10, by omega, fun x h1 h2 => by omega⟩ (fun j z hj hz => ?_) (fun z hz => ?_) (by omega)
    · obtain ⟨K1, rfl, g1, g2, g3, g0, g4, g5⟩ := hz
      have t1 := hT.fr g1
      have se := see_M hP (J := J) t1 (show f + j < 2 ^ 31 by omega)
      obtain ⟨v, v1, v2⟩ := digit_V (b := b) (n := n) (x := f + j) (fun h => (hT.2.2 _ h).1) (mm P K1 J)
      have sb : nI (f + j) - nI f = nI j := by
        have := pk_sub (a := f + j) (b := f) (by omega)
        rw [show f + j - f = j by omega] at this
        exact this
      rcases v2 with ⟨rfl, v3, v4⟩ | ⟨rfl, v3⟩
      · left
        have g5' : ∀ x, f ≤ x → x < f + (j + 1) → dgP (b x) := fun x h1 h2 => by
          by_cases e : x = f + j
          · rw [e]; exact v4
          · exact g5 x h1 (by omega)
        by_cases h : j < 3
        · have c1 : ¬ (3 : Int32) ≤ nI j := nI_ge (b := 3) h (by omega)
          have sv : seeV b n (f + j) = nI (b (f + j)) := if_pos v3
          have nv : ((10 : Int32) * nI (numF b f j) + nI (b (f + j))) - (48 : Int32) = nI (numF b f (j + 1)) := by
            rw [show (10 : Int32) = nI 10 from rfl, show (48 : Int32) = nI 48 from rfl, pk_mul, nI_add, pk_sub (by have := v4.1; omega)]
            congr 1
            show 10 * numF b f j + b (f + j) - 48 = numF b f j * 10 + (b (f + j) - 48)
            have := v4.1
            omega
          have g0' := g0 (by omega)
          rw [sv] at se v1
          refine ⟨mm P (xu (xu K1 164 10 (nI (numF b f (j + 1)))) 164 7 (nI (f + (j + 1)))) J, ?_, _, rfl, (g1.tr (frN.pt (i := 10) (by omega))).tr (frN.pt (by omega)), by rw [xu_o (by omega), xu_o (by omega)]; exact g2, xu_self, fun _ => by rw [xu_o (by omega), xu_self], by omega, g5'⟩
          have g3' : ∀ w, xu K1 164 10 w 164 7 = nI (f + j) := fun w => by rw [xu_o (by omega)]; exact g3
          unfold F_X12_next_146b F_X12_next_196
          simp only [↓bOM hP, g3, ↓bs se, ↓bs v1, one_ne, ↓reduceIte, g2, sb, c1, g0', nv, g3', nI_1]
          rfl
        · have c1 : (3 : Int32) ≤ nI j := nI_le (a := 3) (by omega) (by omega)
          refine ⟨mm P (xu K1 164 7 (nI (f + (j + 1)))) J, ?_, _, rfl, g1.tr (frN.pt (by omega)), by rw [xu_o (by omega)]; exact g2, xu_self, fun z => by omega, by omega, g5'⟩
          unfold F_X12_next_146b F_X12_next_196
          simp only [↓bOM hP, g3, ↓bs se, ↓bs v1, one_ne, ↓reduceIte, g2, sb, c1, nI_1]
          rfl
      · right
        obtain ⟨K', e, k, k1, k2⟩ := fin g1 g2 g3 (by rw [show f + j - f = j by omega]; exact g0) (by omega) g4 g5 v3
        refine ⟨mm P K' J, ?_, K', e, k, rfl, k2⟩
        unfold F_X12_next_146b
        simp only [↓bOM hP, g3, ↓bs se, ↓bs v1, ↓reduceIte, k1, Option.map_some]
    · obtain ⟨K1, rfl, g1, g2, g3, g0, g4, g5⟩ := hz
      have t1 := hT.fr g1
      have se := see_M hP (J := J) t1 (show f + (n - f) < 2 ^ 31 by omega)
      obtain ⟨v, v1, v2⟩ := digit_V (b := b) (n := n) (x := f + (n - f)) (fun h => (hT.2.2 _ h).1) (mm P K1 J)
      rcases v2 with ⟨rfl, v3, v4⟩ | ⟨rfl, v3⟩
      · omega
      · obtain ⟨K', e, k, k1, k2⟩ := fin g1 g2 g3 (by rw [show f + (n - f) - f = n - f by omega]; exact g0) (by omega) g4 g5 v3
        refine ⟨mm P K' J, ?_, K', e, k, rfl, k2⟩
        unfold F_X12_next_146b
        simp only [↓bOM hP, g3, ↓bs se, ↓bs v1, ↓reduceIte, k1, Option.map_some]
  obtain ⟨r, k1, K', e, k, rfl, k2⟩ := key
  exact ⟨K', e, k, k1, k2⟩
/-! a sign -/
theorem sign_tab : sLen 29 = 12 ∧ sLen 0 = 12 ∧ (∀ j, j < 12 → sCh 29 j = sCh 0 j) ∧ ∀ j, j < 12 → ∀ j', j' < 12 → sCh 0 j = sCh 0 j' → j = j' := by decide +kernel
theorem next254 {P : Nat → Nat → Option Nat} (hP : GP P) {K : Nat → Nat → Int32} {J : Nat → Nat → Int64} {b : Nat → Nat} {n f : Nat} (hT : TxM K b n) (h6 : K 164 6 = nI f) (h9 : K 164 9 = 31) (hf : f < n) :
    ∃ K' k, F_X12_next_254 164 0 (mm P K J) = some (mm P K' J) ∧ (∀ a i, ¬ (a = 164 ∧ i = 9) → K' a i = K a i) ∧ K' 164 9 = nI k ∧ signP (b f) k := by
  obtain ⟨s1, s2, s3, s4⟩ := sign_tab
  have n9 := hT.1
  have so := (str_tab 29 (by omega)).1
  have bf := (hT.2.2 f hf).1
  have sv : seeV b n f = nI (b f) := if_pos hf
  have key : ∃ r : xM, xit (F_X12_next_254b 164) xFU (nI 0, mm P K J) = some r ∧ (∃ K' k, r = mm P K' J ∧ (∀ a i, ¬ (a = 164 ∧ i = 9) → K' a i = K a i) ∧ K' 164 9 = nI k ∧ signP (b f) k) := by
    refine xit_inv (fun j z => ∃ K' k, z = (nI j, mm P K' J) ∧ (∀ a i, ¬ (a = 164 ∧ i = 9) → K' a i = K a i) ∧ K' 164 9 = nI k ∧ ((∃ x, x < j ∧ sCh 0 x = b f ∧ k = 32 + x) ∨ (k = 31 ∧ ∀ x, x < j → sCh 0 x ≠ b f))) _ 12 ⟨K, 31, rfl, fun _ _ _ => rfl, h9, Or.inr ⟨rfl, fun x hx => by omega⟩⟩ (fun j z hj hz => ?_) (fun z hz => ?_) (by omega)
    · obtain ⟨K1, k, rfl, g1, g2, g3⟩ := hz
      left
      have t1 : TxM K1 b n := TxM_fr hT (g1 _ _ (by omega)) (fun x => g1 _ _ (by omega))
      have se := see_M hP (J := J) t1 (show f < 2 ^ 31 by omega)
      rw [sv] at se
      have ln := lenA (i := 29) (by omega) (mm P K1 J)
      rw [s1] at ln
      have c1 : ¬ nI 12 ≤ nI j := nI_ge hj (by omega)
      have c := chA (i := 29) (k := j) (by omega) (by omega) (mm P K1 J)
      rw [s3 j hj] at c
      have lt := (str_ch 0 (by omega) j (by omega)).2
      have h6' : K1 164 6 = nI f := by rw [g1 _ _ (by omega)]; exact h6
      by_cases h : b f = sCh 0 j
      · have c2 : nI (b f) = nI (sCh 0 j) := by rw [h]
        refine ⟨(nI (j + 1), mm P (xu K1 164 9 (nI (32 + j))) J), ?_, _, 32 + j, rfl, fun a i z => by rw [xu_o z, g1 a i z], xu_self, Or.inl ⟨j, by omega, h.symm, rfl⟩⟩
        have ad : (32 : Int32) + nI j = nI (32 + j) := nI_add 32 j
        unfold F_X12_next_254b F_X12_next_288
        simp only [↓bs so, ↓bs ln, c1, ↓reduceIte, ↓bOM hP, h6', ↓bs se, ↓bs c, c2, ad, nI_1]
      · have c2 : ¬ nI (b f) = nI (sCh 0 j) := nI_neI (by omega) (by omega) h
        refine ⟨(nI (j + 1), mm P K1 J), ?_, K1, k, rfl, g1, g2, ?_⟩
        · unfold F_X12_next_254b F_X12_next_288
          simp only [↓bs so, ↓bs ln, c1, ↓reduceIte, ↓bOM hP, h6', ↓bs se, ↓bs c, c2, nI_1]
        · rcases g3 with ⟨x, x1, x2, x3⟩ | ⟨x1, x2⟩
          · exact Or.inl ⟨x, by omega, x2, x3⟩
          · refine Or.inr ⟨x1, fun x hx => ?_⟩
            by_cases e : x = j
            · rw [e]; exact fun z => h z.symm
            · exact x2 x (by omega)
    · obtain ⟨K1, k, rfl, g1, g2, g3⟩ := hz
      have ln := lenA (i := 29) (by omega) (mm P K1 J)
      rw [s1] at ln
      have c1 : nI 12 ≤ nI 12 := nI_le (Nat.le_refl _) (by omega)
      refine ⟨mm P K1 J, ?_, K1, k, rfl, g1, g2, g3⟩
      unfold F_X12_next_254b F_X12_next_294
      simp only [↓bs so, ↓bs ln, c1, ↓reduceIte, Option.map_some]
  obtain ⟨r, k1, K', k, rfl, k2⟩ := key
  exact ⟨K', k, k1, k2⟩
theorem next47 {P : Nat → Nat → Option Nat} (hP : GP P) {K : Nat → Nat → Int32} {J : Nat → Nat → Int64} {b : Nat → Nat} {n f : Nat} (hT : TxM K b n) (h6 : K 164 6 = nI f) (hf : f ≤ n) :
    ∃ K' e k, F_X12_next_47 164 (mm P K J) = some (mm P K' J) ∧ frN K K' ∧ K' 164 6 = nI f ∧ K' 164 7 = nI e ∧ K' 164 9 = nI k ∧ tokE b n f e k ∧ (k = 29 → K' 164 10 = nI (numF b f (e - f))) := by
  have n9 := hT.1
  have f1 : frN K (xu K 164 7 (nI f)) := frN.pt (by omega)
  have t1 := hT.fr f1
  have e6 : ∀ w, xu K 164 7 w 164 6 = nI f := fun w => by rw [xu_o (by omega)]; exact h6
  have e8 : ∀ w, xu K 164 7 w 164 8 = nI n := fun w => by rw [xu_o (by omega)]; exact hT.2.1
  by_cases h : f < n
  · have c1 : nI f < nI n := nI_lt h (by omega)
    have se := see_M hP (J := J) t1 (show f < 2 ^ 31 by omega)
    obtain ⟨v, v1, v2⟩ := small_V (b := b) (n := n) (x := f) (fun h => (hT.2.2 _ h).1) (mm P (xu K 164 7 (nI f)) J)
    rcases v2 with ⟨rfl, v3, v4⟩ | ⟨rfl, v3⟩
    · obtain ⟨K', e, k, k1, k2, k3, k4, k5, k6, k7⟩ := next89 hP (J := J) t1 (e6 _) xu_self h v4
      refine ⟨K', e, k, ?_, f1.tr k2, k3, k4, k5, Or.inr (Or.inl ⟨h, v4, k6, k7⟩), fun z => ?_⟩
      · unfold F_X12_next_47
        simp only [↓bOM hP, h6, e6, e8, c1, ↓reduceIte, ↓bs se, ↓bs v1, one_ne, k1]
      · rcases k7 with ⟨k7, _⟩ | ⟨k7, _⟩ <;> omega
    · have ns : ¬ smP (b f) := fun z => v3 ⟨h, z⟩
      obtain ⟨w, w1, w2⟩ := digit_V (b := b) (n := n) (x := f) (fun h => (hT.2.2 _ h).1) (mm P (xu K 164 7 (nI f)) J)
      rcases w2 with ⟨rfl, w3, w4⟩ | ⟨rfl, w3⟩
      · have f2 : frN K (xu (xu K 164 7 (nI f)) 164 10 0) := f1.tr (frN.pt (by omega))
        obtain ⟨K', e, k, k1, k2, k3, k4, k5, k6, k7, k8⟩ := next146 hP (J := J) (hT.fr f2) (by rw [xu_o (by omega)]; exact e6 _) (by rw [xu_o (by omega), xu_self]) xu_self h w4
        refine ⟨K', e, k, ?_, f2.tr k2, k3, k4, k5, Or.inr (Or.inr (Or.inl ⟨h, w4, k6, k7⟩)), k8⟩
        unfold F_X12_next_47
        simp only [↓bOM hP, h6, e6, e8, c1, ↓reduceIte, ↓bs se, ↓bs v1, ↓bs w1, one_ne, k1]
      · have nd : ¬ dgP (b f) := fun z => w3 ⟨h, z⟩
        have f2 : frN K (xu (xu (xu K 164 7 (nI f)) 164 7 (nI (f + 1))) 164 9 31) := (f1.tr (frN.pt (by omega))).tr (frN.pt (by omega))
        obtain ⟨K', k, k1, k2, k3, k4⟩ := next254 hP (J := J) (hT.fr f2) (by rw [xu_o (by omega), xu_o (by omega)]; exact e6 _) xu_self h
        have e7 : xu K 164 7 (nI f) 164 7 = nI f := xu_self
        refine ⟨K', f + 1, k, ?_, f2.tr (fun a i z => k2 a i (by omega)), by rw [k2 _ _ (by omega), xu_o (by omega), xu_o (by omega)]; exact e6 _, by rw [k2 _ _ (by omega), xu_o (by omega), xu_self], k3, Or.inr (Or.inr (Or.inr ⟨h, ns, nd, rfl, k4⟩)), fun z => ?_⟩
        · unfold F_X12_next_47
          simp only [↓bOM hP, h6, e6, e8, c1, ↓reduceIte, ↓bs se, ↓bs v1, ↓bs w1, e7, nI_1, k1]
        · rcases k4 with ⟨j, j1, j2, j3⟩ | ⟨j1, j2⟩ <;> omega
  · have c1 : ¬ nI f < nI n := nI_nlt (by omega) (by omega)
    refine ⟨xu (xu K 164 7 (nI f)) 164 9 (nI 30), f, 30, ?_, f1.tr (frN.pt (by omega)), by rw [xu_o (by omega)]; exact e6 _, by rw [xu_o (by omega), xu_self], xu_self, Or.inl ⟨by omega, rfl, rfl⟩, fun z => by omega⟩
    unfold F_X12_next_47 F_X12_next_294
    simp only [↓bOM hP, h6, e6, e8, c1, ↓reduceIte]
    rfl
theorem nextT_M {P : Nat → Nat → Option Nat} (hP : GP P) {K : Nat → Nat → Int32} {J : Nat → Nat → Int64} {b : Nat → Nat} {n p : Nat} (hT : TxM K b n) (h7 : K 164 7 = nI p) (hp : p ≤ n) :
    ∃ K' f e k, F_X12_next 164 (mm P K J) = some (mm P K' J) ∧ frN K K' ∧ K' 164 6 = nI f ∧ K' 164 7 = nI e ∧ K' 164 9 = nI k ∧ isTok b n p f e k ∧ (k = 29 → K' 164 10 = nI (numF b f (e - f))) := by
  have n9 := hT.1
  have f1 : frN K (xu K 164 6 (nI p)) := frN.pt (by omega)
  have key : ∃ r : xM, xit (F_X12_next_8b 164) xFU (mm P (xu K 164 6 (nI p)) J) = some r ∧ (∃ K' f e k, r = mm P K' J ∧ frN K K' ∧ K' 164 6 = nI f ∧ K' 164 7 = nI e ∧ K' 164 9 = nI k ∧ isTok b n p f e k ∧ (k = 29 → K' 164 10 = nI (numF b f (e - f)))) := by
    have stop : ∀ {K1 : Nat → Nat → Int32} {f : Nat}, frN K K1 → K1 164 6 = nI f → p ≤ f → f ≤ n → (∀ x, p ≤ x → x < f → blP (b x)) → (f < n → ¬ blP (b f)) → ∃ r, F_X12_next_8b 164 (mm P K1 J) = some (.inr r) ∧ (∃ K' f e k, r = mm P K' J ∧ frN K K' ∧ K' 164 6 = nI f ∧ K' 164 7 = nI e ∧ K' 164 9 = nI k ∧ isTok b n p f e k ∧ (k = 29 → K' 164 10 = nI (numF b f (e - f)))) := by
      intro K1 f g1 g2 g3 g4 g5 g6
      have t1 := hT.fr g1
      have se := see_M hP (J := J) t1 (show f < 2 ^ 31 by omega)
      have c1 : ¬ seeV b n f = (10 : Int32) := fun z => by
        unfold seeV at z
        by_cases h : f < n
        · rw [if_pos h] at z
          exact g6 h (Or.inl ((nI_eqI (b := 10) (by have := (hT.2.2 f h).1; omega) (by omega)).mp z))
        · rw [if_neg h] at z
          exact absurd z (by decide)
      have c2 : ¬ seeV b n f = (32 : Int32) := fun z => by
        unfold seeV at z
        by_cases h : f < n
        · rw [if_pos h] at z
          exact g6 h (Or.inr ((nI_eqI (b := 32) (by have := (hT.2.2 f h).1; omega) (by omega)).mp z))
        · rw [if_neg h] at z
          exact absurd z (by decide)
      obtain ⟨K', e, k, k1, k2, k3, k4, k5, k6, k7⟩ := next47 hP (J := J) t1 g2 g4
      refine ⟨mm P K' J, ?_, K', f, e, k, rfl, g1.tr k2, k3, k4, k5, ⟨⟨g3, g4, g5, g6⟩, k6⟩, k7⟩
      unfold F_X12_next_8b
      simp only [↓bOM hP, g2, ↓bs se, c1, c2, ↓reduceIte, k1, Option.map_some]
    refine xit_inv (fun j z => ∃ K1, z = mm P K1 J ∧ frN K K1 ∧ K1 164 6 = nI (p + j) ∧ p + j ≤ n ∧ ∀ x, p ≤ x → x < p + j → blP (b x)) _ (n - p) ⟨_, rfl, f1, xu_self, by omega, fun x h1 h2 => by omega⟩ (fun j z hj hz => ?_) (fun z hz => ?_) (by omega)
    · obtain ⟨K1, rfl, g1, g2, g3, g4⟩ := hz
      have t1 := hT.fr g1
      by_cases hb : blP (b (p + j))
      · left
        have se := see_M hP (J := J) t1 (show p + j < 2 ^ 31 by omega)
        rw [show seeV b n (p + j) = nI (b (p + j)) from if_pos (by omega)] at se
        refine ⟨mm P (xu K1 164 6 (nI (p + (j + 1)))) J, ?_, _, rfl, g1.tr (frN.pt (by omega)), xu_self, by omega, fun x h1 h2 => ?_⟩
        · unfold F_X12_next_8b F_X12_next_34
          rcases hb with hb | hb
          · have c1 : nI (b (p + j)) = (10 : Int32) := by rw [hb]; rfl
            simp only [↓bOM hP, g2, ↓bs se, c1, ↓reduceIte, nI_1]
            rfl
          · have c1 : ¬ nI (b (p + j)) = (10 : Int32) := by rw [hb]; decide
            have c2 : nI (b (p + j)) = (32 : Int32) := by rw [hb]; rfl
            have c3 : ¬ (32 : Int32) = 10 := by decide
            simp only [↓bOM hP, g2, ↓bs se, c2, c3, ↓reduceIte, nI_1]
            rfl
        · by_cases e : x = p + j
          · rw [e]; exact hb
          · exact g4 x h1 (by omega)
      · right
        exact stop g1 g2 (by omega) (by omega) g4 (fun _ => hb)
    · obtain ⟨K1, rfl, g1, g2, g3, g4⟩ := hz
      exact stop g1 g2 (by omega) (by omega) g4 (fun z => by omega)
  obtain ⟨r, k1, K', f, e, k, rfl, k2⟩ := key
  refine ⟨K', f, e, k, ?_, k2⟩
  unfold F_X12_next
  simp only [↓bOM hP, h7]
  exact k1
