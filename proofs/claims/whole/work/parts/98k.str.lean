/-! ===== String constants ===== -/
def sLen (i : Nat) : Nat := ((xSC[i]?).map fun q => q.2.2.2.length).getD 0
def sRow (i : Nat) : List Int32 := ((xSC[i]?).map fun q => q.2.2.2).getD []
def sCh (i k : Nat) : Nat := ((sRow i).getD k 0).toNatClampNeg
theorem str_tab : ∀ i, i < 30 → xso i = some () ∧ xsl i = some (nI (sLen i)) ∧ sLen i < 1000 := by decide +kernel
theorem str_ch : ∀ i, i < 30 → ∀ k, k < sLen i → xsb i (nI k) = some (nI (sCh i k)) ∧ sCh i k < 128 := by decide +kernel
theorem chr_id : ∀ c, c < 128 → ((nI c &&& (255 : Int32)).toUInt32 % 65536).toInt32 = nI c ∧ xzc (nI c) = some (nI c) := by decide +kernel
theorem lenA {i : Nat} (hi : i < 30) (M : xM) : F_J0_length_8abf5 i M = some (nI (sLen i), M) := by
  obtain ⟨h1, h2, h3⟩ := str_tab i hi
  have sh : nI (sLen i) >>> ((0 : Int32) &&& 31) = nI (sLen i) := by
    have := shrN (s := sLen i) (c := 0) (by omega) (by omega)
    rw [Nat.pow_zero, Nat.div_one] at this
    exact this
  unfold F_J0_length_8abf5 F_J0_coder_7d493
  simp only [↓bs h1, ↓bs h2, one_ne, ↓reduceIte, xz0, Option.bind_some, sh]
theorem chA {i k : Nat} (hi : i < 30) (hk : k < sLen i) (M : xM) : F_J0_charAt_5068e i (nI k) M = some (nI (sCh i k), M) := by
  obtain ⟨h1, h2, h3⟩ := str_tab i hi
  obtain ⟨h4, h5⟩ := str_ch i hi k hk
  obtain ⟨h6, h7⟩ := chr_id _ h5
  have c1 : ¬ nI k < 0 := nI_pos (by omega)
  have c2 : nI k < nI (sLen i) := nI_lt hk (by omega)
  unfold F_J0_charAt_5068e F_J0_isLatin1_aae02 F_J1_charAt_3b067 F_J0_checkIndex_df160 F_J3_checkIndex_8e157
  simp only [↓bs h1, ↓bs h2, one_ne, ↓reduceIte, xz1, Option.bind_some, c1, c2, ↓bs h4, h6, h7]
/-! ===== the words ===== -/
def kS (j : Nat) : Nat := [1, 2, 3, 4, 5, 6, 7, 8, 9, 10, 11, 12, 13, 14, 27, 20, 24, 25, 26, 15, 16, 17, 18, 19, 22, 23, 21].getD j 0
/-- where a word stands in the model's row of words -/
def kT : Nat → Nat
  | 0 => 1
  | j + 1 => kT j + sLen (kS j) + 1
theorem kS_lt : ∀ j, j < 27 → kS j < 28 := by decide +kernel
theorem keys_tab : ∀ j, j < 27 → (∀ i, i < sLen (kS j) → sCh 28 (kT j + i) = sCh (kS j) i ∧ sCh (kS j) i ≠ 32) ∧ sCh 28 (kT j + sLen (kS j)) = 32 ∧ kT j + sLen (kS j) < sLen 28 := by decide +kernel
theorem keys_end : sLen 28 = kT 27 := by decide +kernel
theorem keys_dif : ∀ j, j < 27 → ∀ j', j' < 27 → j ≠ j' → sLen (kS j) ≠ sLen (kS j') ∨ ∃ x, x < sLen (kS j) ∧ sCh (kS j) x ≠ sCh (kS j') x := by decide +kernel
/-- the text from f to e is this constant -/
def matB (b : Nat → Nat) (f e i : Nat) : Prop := e - f = sLen i ∧ ∀ x, x < e - f → b (f + x) = sCh i x
def keyP (b : Nat → Nat) (f e k : Nat) : Prop := (k < 27 ∧ matB b f e (kS k)) ∨ (k = 28 ∧ ∀ j, j < 27 → ¬ matB b f e (kS j))
theorem mat_one {b : Nat → Nat} {f e j j' : Nat} (hj : j < 27) (hj' : j' < 27) (h : matB b f e (kS j)) (h' : matB b f e (kS j')) : j = j' := by
  apply Classical.byContradiction
  intro hn
  rcases keys_dif j hj j' hj' hn with z | ⟨x, x1, x2⟩
  · exact z (h.1.symm.trans h'.1)
  · have a := h.2 x (by rw [h.1]; exact x1)
    have c := h'.2 x (by rw [h.1]; exact x1)
    exact x2 (a.symm.trans c)
theorem keyP_iff {b : Nat → Nat} {f e k j : Nat} (h : keyP b f e k) (hj : j < 27) : k = j ↔ matB b f e (kS j) := by
  rcases h with ⟨h1, h2⟩ | ⟨h1, h2⟩
  · exact ⟨fun z => by rw [← z]; exact h2, fun z => mat_one h1 hj h2 z⟩
  · exact ⟨fun z => by omega, fun z => absurd z (h2 j hj)⟩
/-! ===== which word it is, in the model ===== -/
theorem key97 {j : Nat} (hj : j < 27) (M : xM) : F_X12_keyAt_97 164 (nI j) (nI (kT j)) M = some (.inl (nI (j + 1), nI (kT (j + 1)), M)) := by
  obtain ⟨t1, t2, t3⟩ := keys_tab j hj
  have l28 : sLen 28 < 1000 := (str_tab 28 (by omega)).2.2
  have so := (str_tab 28 (by omega)).1
  unfold F_X12_keyAt_97
  refine xit_run (fun d => (nI (kT j + d), M)) (sLen (kS j)) rfl (fun d hd => ?_) ?_ (by omega)
  · have c := chA (i := 28) (k := kT j + d) (by omega) (by omega) M
    rw [(t1 d hd).1] at c
    have lt := (str_ch 28 (by omega) (kT j + d) (by omega)).2
    rw [(t1 d hd).1] at lt
    have ne : ¬ nI (sCh (kS j) d) = (32 : Int32) := fun z => (t1 d hd).2 ((nI_eqI (b := 32) (by omega) (by omega)).mp z)
    unfold F_X12_keyAt_97b
    simp only [↓bs so, ↓bs c, ne, ↓reduceIte, nI_1]
    rfl
  · have c := chA (i := 28) (k := kT j + sLen (kS j)) (by omega) t3 M
    rw [t2] at c
    have e32 : nI 32 = (32 : Int32) := rfl
    unfold F_X12_keyAt_97b F_X12_keyAt_114
    simp only [↓bs so, ↓bs c, e32, ↓reduceIte, nI_1]
    rfl
theorem key15 {P : Nat → Nat → Option Nat} (hP : GP P) {K : Nat → Nat → Int32} {J : Nat → Nat → Int64} {b : Nat → Nat} {f e j : Nat} (hj : j < 27) (h6 : K 164 6 = nI f) (h7 : K 164 7 = nI e) (hfe : f ≤ e) (he : e ≤ 900) (hT : ∀ x, f ≤ x → x < e → b x < 256 ∧ K 167 x = nI (b x)) :
    ∃ r, F_X12_keyAt_15 164 (nI j) (nI (kT j)) 0 (mm P K J) = some r ∧ ((matB b f e (kS j) ∧ r = .inr (nI j, mm P K J)) ∨ (¬ matB b f e (kS j) ∧ r = .inl (nI (j + 1), nI (kT (j + 1)), mm P K J))) := by
  obtain ⟨t1, t2, t3⟩ := keys_tab j hj
  have l28 : sLen 28 < 1000 := (str_tab 28 (by omega)).2.2
  have so := (str_tab 28 (by omega)).1
  have n97 := key97 hj (mm P K J)
  have ne32 : ∀ i, i < sLen (kS j) → sCh (kS j) i < 128 ∧ ¬ nI (sCh (kS j) i) = (32 : Int32) := fun i hi => by
    have lt := (str_ch 28 (by omega) (kT j + i) (by omega)).2
    rw [(t1 i hi).1] at lt
    exact ⟨lt, fun z => (t1 i hi).2 ((nI_eqI (b := 32) (by omega) (by omega)).mp z)⟩
  have c28 : ∀ i, i < sLen (kS j) → F_J0_charAt_5068e 28 (nI (kT j + i)) (mm P K J) = some (nI (sCh (kS j) i), mm P K J) := fun i hi => by
    have c := chA (i := 28) (k := kT j + i) (by omega) (by omega) (mm P K J)
    rw [(t1 i hi).1] at c
    exact c
  have cEnd := chA (i := 28) (k := kT j + sLen (kS j)) (by omega) t3 (mm P K J)
  rw [t2] at cEnd
  have e32 : nI 32 = (32 : Int32) := rfl
  -- amid the word: on to the next one
  have amid : ∀ i, i < sLen (kS j) → F_X12_keyAt_69 164 (nI j) (nI (kT j)) (nI i) (mm P K J) = some (.inl (nI (j + 1), nI (kT (j + 1)), mm P K J)) := fun i hi => by
    have c := c28 i hi
    have ne := (ne32 i hi).2
    unfold F_X12_keyAt_69
    simp only [nI_add, ↓bs so, ↓bs c, ne, ↓reduceIte, n97]
  unfold F_X12_keyAt_15
  refine xit_inv (fun i z => z = (nI i, mm P K J) ∧ f + i ≤ e ∧ ∀ x, x < i → b (f + x) = sCh (kS j) x) _ (sLen (kS j)) ⟨rfl, by omega, fun x hx => by omega⟩ (fun i z hi hz => ?_) (fun z hz => ?_) (by omega)
  · obtain ⟨rfl, g1, g2⟩ := hz
    have c := c28 i hi
    obtain ⟨ne1, ne2⟩ := ne32 i hi
    by_cases h1 : e ≤ f + i
    · right
      have c1 : nI e ≤ nI (f + i) := nI_le h1 (by omega)
      refine ⟨.inl (nI (j + 1), nI (kT (j + 1)), mm P K J), ?_, Or.inr ⟨fun z => by have := z.1; omega, rfl⟩⟩
      unfold F_X12_keyAt_15b
      simp (disch := omega) only [nI_add, ↓bs so, ↓bs c, ne2, ↓reduceIte, ↓bOM hP, h6, h7, c1, amid i hi, Option.map_some]
    · have c1 : ¬ nI e ≤ nI (f + i) := nI_ge (by omega) (by omega)
      obtain ⟨b1, b2⟩ := hT (f + i) (by omega) (by omega)
      by_cases h2 : b (f + i) = sCh (kS j) i
      · left
        refine ⟨(nI (i + 1), mm P K J), ?_, rfl, by omega, fun x hx => ?_⟩
        · have c2 : nI (b (f + i)) = nI (sCh (kS j) i) := by rw [h2]
          unfold F_X12_keyAt_15b
          simp (disch := omega) only [nI_add, ↓bs so, ↓bs c, ne2, ↓reduceIte, ↓bOM hP, h6, h7, c1, ↓bAM, b2, c2, nI_1]
        · by_cases e2 : x = i
          · rw [e2]; exact h2
          · exact g2 x (by omega)
      · right
        have c2 : ¬ nI (b (f + i)) = nI (sCh (kS j) i) := nI_neI (by omega) (by omega) h2
        refine ⟨.inl (nI (j + 1), nI (kT (j + 1)), mm P K J), ?_, Or.inr ⟨fun z => h2 (z.2 i (by omega)), rfl⟩⟩
        unfold F_X12_keyAt_15b
        simp (disch := omega) only [nI_add, ↓bs so, ↓bs c, ne2, ↓reduceIte, ↓bOM hP, h6, h7, c1, ↓bAM, b2, c2, amid i hi, Option.map_some]
  · obtain ⟨rfl, g1, g2⟩ := hz
    by_cases h1 : f + sLen (kS j) = e
    · have c1 : nI (f + sLen (kS j)) = nI e := by rw [h1]
      refine ⟨.inr (nI j, mm P K J), ?_, Or.inl ⟨⟨by omega, fun x hx => g2 x (by omega)⟩, rfl⟩⟩
      unfold F_X12_keyAt_15b F_X12_keyAt_69 F_X12_keyAt_95
      simp (disch := omega) only [nI_add, ↓bs so, ↓bs cEnd, e32, ↓reduceIte, ↓bOM hP, h6, h7, c1, Option.map_some]
    · have c1 : ¬ nI (f + sLen (kS j)) = nI e := nI_neI (by omega) (by omega) h1
      refine ⟨.inl (nI (j + 1), nI (kT (j + 1)), mm P K J), ?_, Or.inr ⟨fun z => h1 (by have := z.1; omega), rfl⟩⟩
      unfold F_X12_keyAt_15b F_X12_keyAt_69
      simp (disch := omega) only [nI_add, ↓bs so, ↓bs cEnd, e32, ↓reduceIte, ↓bOM hP, h6, h7, c1, n97, Option.map_some]
theorem keyAt_M {P : Nat → Nat → Option Nat} (hP : GP P) {K : Nat → Nat → Int32} {J : Nat → Nat → Int64} {b : Nat → Nat} {f e : Nat} (h6 : K 164 6 = nI f) (h7 : K 164 7 = nI e) (hfe : f ≤ e) (he : e ≤ 900) (hT : ∀ x, f ≤ x → x < e → b x < 256 ∧ K 167 x = nI (b x)) :
    ∃ k, F_X12_keyAt 164 (mm P K J) = some (nI k, mm P K J) ∧ keyP b f e k := by
  have l28 : sLen 28 < 1000 := (str_tab 28 (by omega)).2.2
  have so := (str_tab 28 (by omega)).1
  have ln := lenA (i := 28) (by omega) (mm P K J)
  have key : ∃ r : Int32 × xM, xit (F_X12_keyAt_4b 164) xFU (nI 0, nI (kT 0), mm P K J) = some r ∧ (∃ k, r = (nI k, mm P K J) ∧ keyP b f e k) := by
    refine xit_inv (fun j z => z = (nI j, nI (kT j), mm P K J) ∧ ∀ x, x < j → ¬ matB b f e (kS x)) _ 27 ⟨rfl, fun x hx => by omega⟩ (fun j z hj hz => ?_) (fun z hz => ?_) (by omega)
    · obtain ⟨rfl, g1⟩ := hz
      have t3 := (keys_tab j hj).2.2
      have c1 : ¬ nI (sLen 28) ≤ nI (kT j) := nI_ge (by omega) (by omega)
      obtain ⟨r, r1, r2⟩ := key15 hP (J := J) (b := b) hj h6 h7 hfe he hT
      rcases r2 with ⟨m, rfl⟩ | ⟨m, rfl⟩
      · right
        refine ⟨(nI j, mm P K J), ?_, j, rfl, Or.inl ⟨hj, m⟩⟩
        unfold F_X12_keyAt_4b
        simp only [↓bs so, ↓bs ln, c1, ↓reduceIte, r1]
      · left
        refine ⟨(nI (j + 1), nI (kT (j + 1)), mm P K J), ?_, rfl, fun x hx => ?_⟩
        · unfold F_X12_keyAt_4b
          simp only [↓bs so, ↓bs ln, c1, ↓reduceIte, r1]
        · by_cases e2 : x = j
          · rw [e2]; exact m
          · exact g1 x (by omega)
    · obtain ⟨rfl, g1⟩ := hz
      have c1 : nI (sLen 28) ≤ nI (kT 27) := by rw [keys_end]; exact nI_le (Nat.le_refl _) (by rw [← keys_end]; omega)
      refine ⟨(nI 28, mm P K J), ?_, 28, rfl, Or.inr ⟨rfl, g1⟩⟩
      unfold F_X12_keyAt_4b F_X12_keyAt_123
      simp only [↓bs so, ↓bs ln, c1, ↓reduceIte, Option.map_some]
      rfl
  obtain ⟨r, k1, k, rfl, k2⟩ := key
  exact ⟨k, k1, k2⟩
