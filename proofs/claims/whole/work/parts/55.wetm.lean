/-! ===== the model's cells side by side ===== -/
theorem or_ite {x y : Nat} {p : Prop} [Decidable p] : (if p then x ||| y else x) = x ||| (if p then y else 0) := by
  by_cases h : p
  · rw [if_pos h, if_pos h]
  · rw [if_neg h, if_neg h, Nat.or_zero]
theorem besides_M {P : Nat → Nat → Option Nat} (hP : GP P) {I : Nat → Nat → Int32} {J : Nat → Nat → Int64} {t : Txt} (hw : wfT t) (hA : LandA (I 165) 0 t) {c : Nat} (hc : c < tN t) : F_X12_besides 164 (nI c) (mm P I J) = some (nI (besN (tW t) (tN t) c), mm P I J) ∧ besN (tW t) (tN t) c < 2 ^ 31 := by
  have hN := tN_le hw
  have hw' := hw
  obtain ⟨⟨r1, r5⟩, ⟨w1, w5⟩, -⟩ := hw'
  have a2 : I 165 2 = nI (tW t) := hA.2.2.1
  have wz : ¬ nI (tW t) = 0 := nI_ne0 (by omega) (by omega)
  have rm := pk_rem (a := c) (d := tW t) (by omega) (by omega) (by omega)
  have w1' : nI (tW t) - 1 = nI (tW t - 1) := pk_sub (b := 1) (by omega)
  have ml := Nat.mod_lt c (show 0 < tW t by omega)
  have pw : ∀ x, x < 30 → 2 ^ x < 2 ^ 30 := fun x hx => Nat.pow_lt_pow_right (by omega) hx
  have s55 : ∀ x, x < 2 ^ 30 → F_X12_besides_55 (nI c) (nI (tW t)) (nI x) (mm P I J) = some (nI (x ||| (if c % tW t < tW t - 1 then 2 ^ (c + 1) else 0)), mm P I J) := by
    intro x hx
    unfold F_X12_besides_55
    rw [if_neg wz, rm, w1', ← or_ite]
    by_cases h : c % tW t < tW t - 1
    · have := pw (c + 1) (by omega)
      rw [if_neg (nI_ge h (by omega)), if_pos h, Option.bind_some, nI_1, one_shl (by omega), orN (by omega) (by omega)]
    · rw [if_pos (nI_le (by omega) (by omega)), if_neg h]
  have s41 : ∀ x, x < 2 ^ 30 → F_X12_besides_41 (nI c) (nI (tW t)) (nI x) (mm P I J) = some (nI ((x ||| (if 0 < c % tW t then 2 ^ (c - 1) else 0)) ||| (if c % tW t < tW t - 1 then 2 ^ (c + 1) else 0)), mm P I J) := by
    intro x hx
    unfold F_X12_besides_41
    rw [if_neg wz, rm]
    by_cases h : 0 < c % tW t
    · have hc0 : c ≠ 0 := by
        intro z
        rw [z, Nat.zero_mod] at h
        omega
      have := pw (c - 1) (by omega)
      have c1 : nI c - 1 = nI (c - 1) := pk_sub (b := 1) (by omega)
      rw [if_neg (show ¬ nI (c % tW t) ≤ 0 from nI_ge (a := 0) h (by omega)), if_pos h, Option.bind_some, c1, one_shl (by omega), orN (by omega) (by omega), s55 _ (Nat.or_lt_two_pow hx this)]
    · rw [if_pos (show nI (c % tW t) ≤ 0 from nI_le (b := 0) (by omega) (by omega)), if_neg h, Nat.or_zero, s55 x hx]
  have s22 : ∀ x, x < 2 ^ 30 → F_X12_besides_22 164 (nI c) (nI (tW t)) (nI x) (mm P I J) = some (nI (((x ||| (if c + tW t < tN t then 2 ^ (c + tW t) else 0)) ||| (if 0 < c % tW t then 2 ^ (c - 1) else 0)) ||| (if c % tW t < tW t - 1 then 2 ^ (c + 1) else 0)), mm P I J) := by
    intro x hx
    unfold F_X12_besides_22
    have ic := isCellM (mm_G (I := I) (J := J) hP) hw (show LandA ((mm P I J).2.1 165) 0 t from hA) (nI c + nI (tW t))
    rw [nI_add, nI_toInt (by omega)] at ic
    rw [nI_add]
    simp only [↓bOM hP, ↓bs ic]
    by_cases h : c + tW t < tN t
    · have := pw (c + tW t) (by omega)
      rw [if_pos (show (0 : Int) ≤ ((c + tW t : Nat) : Int) ∧ ((c + tW t : Nat) : Int) < (tN t : Int) by omega), if_neg one_ne, Option.bind_some, one_shl (by omega), orN (by omega) (by omega), s41 _ (Nat.or_lt_two_pow hx this), if_pos h]
    · rw [if_neg (show ¬ ((0 : Int) ≤ ((c + tW t : Nat) : Int) ∧ ((c + tW t : Nat) : Int) < (tN t : Int)) by omega), if_pos rfl, s41 x hx, if_neg h, Nat.or_zero]
  have l1 : (if tW t ≤ c then 2 ^ (c - tW t) else 0) < 2 ^ 30 := by
    split
    · exact pw _ (by omega)
    · omega
  have l2 : (if c + tW t < tN t then 2 ^ (c + tW t) else 0) < 2 ^ 30 := by
    split
    · exact pw _ (by omega)
    · omega
  have l3 : (if 0 < c % tW t then 2 ^ (c - 1) else 0) < 2 ^ 30 := by
    split
    · exact pw _ (by omega)
    · omega
  have l4 : (if c % tW t < tW t - 1 then 2 ^ (c + 1) else 0) < 2 ^ 30 := by
    split
    · exact pw _ (by omega)
    · omega
  have lt := Nat.or_lt_two_pow (Nat.or_lt_two_pow (Nat.or_lt_two_pow l1 l2) l3) l4
  refine ⟨?_, by unfold besN; omega⟩
  unfold F_X12_besides besN
  simp only [↓bOM hP, ↓bAM, a2]
  by_cases h : c < tW t
  · rw [if_pos (nI_lt h (by omega)), if_neg (show ¬ tW t ≤ c by omega)]
    exact s22 0 (by omega)
  · have := pw (c - tW t) (by omega)
    rw [if_neg (nI_nlt (by omega) (by omega)), if_pos (show tW t ≤ c by omega), pk_sub (by omega), one_shl (by omega), show (0 : Int32) = nI 0 from rfl, orN (by omega) (by omega), Nat.zero_or, Option.bind_some, s22 _ this]
/-! ===== the model's sweeps ===== -/
theorem wet_M {P : Nat → Nat → Option Nat} (hP : GP P) {I : Nat → Nat → Int32} {J : Nat → Nat → Int64} {t : Txt} {s : Nat → Nat} (hw : wfT t) (hA : LandA (I 165) 0 t) (hs : ∀ i, i < tN t → I 171 i = nI (s i) ∧ s i ≤ 9) {lv : Nat} (hlv : lv < 2 ^ 31) : F_X12_wetOf 164 (nI lv) (mm P I J) = some (nI (wetS t s lv), mm P I J) ∧ wetP t s lv (wetS t s lv) := by
  have hN := tN_le hw
  have hw' := hw
  obtain ⟨⟨r1, r5⟩, ⟨w1, w5⟩, -⟩ := hw'
  have a2 : I 165 2 = nI (tW t) := hA.2.2.1
  -- a sweep
  have sweep : ∀ m0, wetI t s lv m0 → ∃ m mo, F_X12_wetOf_13 164 (nI lv) (nI m0) 0 0 (mm P I J) = some (.inl (nI m, mo, mm P I J)) ∧ wetI t s lv m ∧ ((mo = 1 ∧ cntN m0 25 < cntN m 25) ∨ (mo = 0 ∧ m = m0 ∧ ∀ c, c < tN t → m0.testBit c = true ∨ lv ≤ s c ∨ (tW t ≤ c ∧ besN (tW t) (tN t) c &&& m0 = 0))) := by
    intro m0 h0
    have key : ∃ r : (Int32 × Int32 × xM) ⊕ (Int32 × xM), xit (F_X12_wetOf_13b 164 (nI lv)) xFU (nI m0, 0, nI 0, mm P I J) = some r ∧ (∃ m mo, r = .inl (nI m, mo, mm P I J) ∧ wetI t s lv m ∧ ((mo = 1 ∧ cntN m0 25 < cntN m 25) ∨ (mo = 0 ∧ m = m0 ∧ ∀ c, c < tN t → m0.testBit c = true ∨ lv ≤ s c ∨ (tW t ≤ c ∧ besN (tW t) (tN t) c &&& m0 = 0)))) := by
      refine xit_inv (fun j z => ∃ m mo, z = (nI m, mo, nI j, mm P I J) ∧ wetI t s lv m ∧ (∀ b, m0.testBit b = true → m.testBit b = true) ∧ ((mo = 1 ∧ cntN m0 25 < cntN m 25) ∨ (mo = 0 ∧ m = m0 ∧ ∀ c, c < j → m0.testBit c = true ∨ lv ≤ s c ∨ (tW t ≤ c ∧ besN (tW t) (tN t) c &&& m0 = 0)))) _ (tN t) ⟨m0, 0, rfl, h0, fun _ h => h, Or.inr ⟨rfl, rfl, fun c hc => by omega⟩⟩ (fun j z hj hq => ?_) (fun z hq => ?_) (by omega)
      · obtain ⟨m, mo, rfl, q1, q2, q3⟩ := hq
        have mlt := wetI_lt hw q1
        obtain ⟨b1, b2⟩ := besides_M hP (J := J) hw hA hj
        obtain ⟨s1, s2⟩ := hs j hj
        have ic := isCellM (mm_G (I := I) (J := J) hP) hw (show LandA ((mm P I J).2.1 165) 0 t from hA) (nI j)
        rw [nI_toInt (by omega), if_pos (by omega)] at ic
        have ii := isInM (m := m) (c := j) (by omega) (by omega) (mm P I J)
        have c2 : nI lv ≤ nI (s j) ↔ lv ≤ s j := nI_leI hlv (by omega)
        have c3 : nI j < nI (tW t) ↔ j < tW t := nI_ltI (by omega) (by omega)
        have an := andN (a := besN (tW t) (tN t) j) (b := m) b2 (by omega)
        have al : besN (tW t) (tN t) j &&& m < 2 ^ 25 := Nat.and_lt_two_pow _ mlt
        have c4 : nI (besN (tW t) (tN t) j &&& m) = 0 ↔ besN (tW t) (tN t) j &&& m = 0 := nI_eqI (b := 0) (by omega) (by omega)
        have pj : 2 ^ j < 2 ^ 25 := Nat.pow_lt_pow_right (by omega) (by omega)
        have skip : F_X12_wetOf_13b 164 (nI lv) (nI m, mo, nI j, mm P I J) = some (.inl (nI m, mo, nI (j + 1), mm P I J)) → (m.testBit j = true ∨ lv ≤ s j ∨ (tW t ≤ j ∧ besN (tW t) (tN t) j &&& m = 0)) → (∃ s', F_X12_wetOf_13b 164 (nI lv) (nI m, mo, nI j, mm P I J) = some (.inl s') ∧ (∃ m mo, s' = (nI m, mo, nI (j + 1), mm P I J) ∧ wetI t s lv m ∧ (∀ b, m0.testBit b = true → m.testBit b = true) ∧ ((mo = 1 ∧ cntN m0 25 < cntN m 25) ∨ (mo = 0 ∧ m = m0 ∧ ∀ c, c < j + 1 → m0.testBit c = true ∨ lv ≤ s c ∨ (tW t ≤ c ∧ besN (tW t) (tN t) c &&& m0 = 0))))) := by
          intro e1 e2
          refine ⟨_, e1, m, mo, rfl, q1, q2, ?_⟩
          rcases q3 with q3 | ⟨q3, q4, q5⟩
          · exact Or.inl q3
          · refine Or.inr ⟨q3, q4, fun c hc => ?_⟩
            by_cases ec : c = j
            · rw [ec, ← q4]; exact e2
            · exact q5 c (by omega)
        have add : F_X12_wetOf_13b 164 (nI lv) (nI m, mo, nI j, mm P I J) = some (.inl (nI (m ||| 2 ^ j), 1, nI (j + 1), mm P I J)) → ¬ m.testBit j = true → s j < lv → (j < tW t ∨ ¬ besN (tW t) (tN t) j &&& m = 0) → (∃ s', F_X12_wetOf_13b 164 (nI lv) (nI m, mo, nI j, mm P I J) = some (.inl s') ∧ (∃ m mo, s' = (nI m, mo, nI (j + 1), mm P I J) ∧ wetI t s lv m ∧ (∀ b, m0.testBit b = true → m.testBit b = true) ∧ ((mo = 1 ∧ cntN m0 25 < cntN m 25) ∨ (mo = 0 ∧ m = m0 ∧ ∀ c, c < j + 1 → m0.testBit c = true ∨ lv ≤ s c ∨ (tW t ≤ c ∧ besN (tW t) (tN t) c &&& m0 = 0))))) := by
          intro e1 e2 e3 e4
          have lj : lowB t s lv j = true := lowB_iff.mpr ⟨hj, e3⟩
          have nb : ∀ b, (m ||| 2 ^ j).testBit b = true ↔ m.testBit b = true ∨ j = b := fun b => by rw [Nat.testBit_or, Nat.testBit_two_pow, Bool.or_eq_true, decide_eq_true_iff]
          have sub : ∀ b, m.testBit b = true → (m ||| 2 ^ j).testBit b = true := fun b hb => (nb b).mpr (Or.inl hb)
          have lt := cntN_lt sub ((nb j).mpr (Or.inr rfl)) e2 25 (by omega)
          have le := cntN_mono q2 25
          refine ⟨_, e1, m ||| 2 ^ j, 1, rfl, ⟨fun b hb => ?_, fun p h1 h2 b hb => ?_⟩, fun b hb => sub b (q2 b hb), Or.inl ⟨rfl, by omega⟩⟩
          · rcases (nb b).mp hb with hb | rfl
            · exact q1.1 b hb
            · exact lj
          · rcases (nb b).mp hb with hb | rfl
            · exact q1.2 p h1 h2 b hb
            · rcases e4 with e4 | e4
              · exact h1 _ e4 lj
              · obtain ⟨a, ha⟩ := Nat.exists_testBit_of_ne_zero e4
                rw [Nat.testBit_and, Bool.and_eq_true] at ha
                have haN := (lowB_iff.mp (q1.1 a ha.2)).1
                rw [besN_bit w1 w5 haN] at ha
                exact h2 a _ (q1.2 p h1 h2 a ha.2) ha.1 lj
        left
        by_cases hb : m.testBit j = true
        · rw [if_pos hb] at ii
          refine skip ?_ (Or.inl hb)
          simp only [F_X12_wetOf_13b, F_X12_wetOf_78, ↓bOM hP, ↓bs ic, ↓bs ii, ↓reduceIte, one_ne, hb, nI_1]
        · rw [if_neg hb] at ii
          by_cases hl : lv ≤ s j
          · refine skip ?_ (Or.inr (Or.inl hl))
            simp (disch := omega) only [F_X12_wetOf_13b, F_X12_wetOf_78, ↓bOM hP, ↓bAM, ↓bs ic, ↓bs ii, ↓reduceIte, one_ne, hb, s1, c2, hl, nI_1]
          · by_cases hjw : j < tW t
            · refine add ?_ hb (by omega) (Or.inl hjw)
              simp (disch := omega) only [F_X12_wetOf_13b, F_X12_wetOf_78, F_X12_wetOf_69, ↓bOM hP, ↓bAM, ↓bs ic, ↓bs ii, ↓reduceIte, one_ne, hb, s1, c2, hl, a2, c3, hjw, nI_1, one_shl, orN, ↓Option.bind_some]
            · by_cases ha : besN (tW t) (tN t) j &&& m = 0
              · refine skip ?_ (Or.inr (Or.inr ⟨by omega, ha⟩))
                simp (disch := omega) only [F_X12_wetOf_13b, F_X12_wetOf_78, F_X12_wetOf_69, ↓bOM hP, ↓bAM, ↓bs ic, ↓bs ii, ↓bs b1, ↓reduceIte, one_ne, hb, s1, c2, hl, a2, c3, hjw, nI_1, an, c4.mpr ha]
              · refine add ?_ hb (by omega) (Or.inr ha)
                simp (disch := omega) only [F_X12_wetOf_13b, F_X12_wetOf_78, F_X12_wetOf_69, ↓bOM hP, ↓bAM, ↓bs ic, ↓bs ii, ↓bs b1, ↓reduceIte, one_ne, hb, s1, c2, hl, a2, c3, hjw, nI_1, an, c4, ha, one_shl, orN, ↓Option.bind_some]
      · obtain ⟨m, mo, rfl, q1, q2, q3⟩ := hq
        have ic := isCellM (mm_G (I := I) (J := J) hP) hw (show LandA ((mm P I J).2.1 165) 0 t from hA) (nI (tN t))
        rw [nI_toInt (by omega), if_neg (by omega)] at ic
        refine ⟨.inl (nI m, mo, mm P I J), ?_, m, mo, rfl, q1, q3⟩
        simp only [F_X12_wetOf_13b, F_X12_wetOf_84, ↓bOM hP, ↓bs ic, ↓reduceIte, Option.map_some]
    obtain ⟨r, k1, m, mo, rfl, k2, k3⟩ := key
    exact ⟨m, mo, k1, k2, k3⟩
  have key : ∃ r : Int32 × xM, xit (F_X12_wetOf_4b 164 (nI lv)) xFU (nI 0, 1, mm P I J) = some r ∧ (∃ m, r = (nI m, mm P I J) ∧ wetP t s lv m) := by
    refine xit_inv (fun j z => ∃ m mo, z = (nI m, mo, mm P I J) ∧ wetI t s lv m ∧ ((mo = 1 ∧ j ≤ cntN m 25) ∨ (mo = 0 ∧ ∀ c, c < tN t → m.testBit c = true ∨ lv ≤ s c ∨ (tW t ≤ c ∧ besN (tW t) (tN t) c &&& m = 0)))) _ 26 ⟨0, 1, rfl, ⟨fun b hb => (by rw [Nat.zero_testBit] at hb; cases hb), fun p _ _ b hb => (by rw [Nat.zero_testBit] at hb; cases hb)⟩, Or.inl ⟨rfl, by omega⟩⟩ (fun j z hj hq => ?_) (fun z hq => ?_) (by omega)
    all_goals
      obtain ⟨m, mo, rfl, q1, q3⟩ := hq
      have stop : mo = 0 → (∀ c, c < tN t → m.testBit c = true ∨ lv ≤ s c ∨ (tW t ≤ c ∧ besN (tW t) (tN t) c &&& m = 0)) → ∃ r, F_X12_wetOf_4b 164 (nI lv) (nI m, mo, mm P I J) = some (.inr r) ∧ ∃ m, r = (nI m, mm P I J) ∧ wetP t s lv m := by
        intro e1 e2
        refine ⟨(nI m, mm P I J), ?_, m, rfl, q1, fun b h1 h2 => ?_, fun a b h1 h2 h3 => ?_⟩
        · simp only [F_X12_wetOf_4b, F_X12_wetOf_87, ↓reduceIte, e1, Option.map_some]
        · have := lowB_iff.mp h2
          rcases e2 b this.1 with h | h | h
          · exact h
          · omega
          · omega
        · have := lowB_iff.mp h3
          rcases e2 b this.1 with h | h | ⟨h, h4⟩
          · exact h
          · omega
          · have haN := (lowB_iff.mp (q1.1 a h1)).1
            have h5 : (besN (tW t) (tN t) b &&& m).testBit a = true := by rw [Nat.testBit_and, besN_bit w1 w5 haN, h2, h1]; rfl
            rw [h4, Nat.zero_testBit] at h5
            cases h5
    · rcases q3 with ⟨q3, q4⟩ | ⟨q3, q4⟩
      · obtain ⟨m', mo', k1, k2, k3⟩ := sweep m q1
        left
        refine ⟨(nI m', mo', mm P I J), ?_, m', mo', rfl, k2, ?_⟩
        · rw [q3]
          simp only [F_X12_wetOf_4b, ↓reduceIte, one_ne, k1]
        · rcases k3 with ⟨k3, k4⟩ | ⟨k3, k4, k5⟩
          · exact Or.inl ⟨k3, by omega⟩
          · rw [k4]
            exact Or.inr ⟨k3, k5⟩
      · exact Or.inr (stop q3 q4)
    · rcases q3 with ⟨q3, q4⟩ | ⟨q3, q4⟩
      · have := cntN_le m 25
        omega
      · exact stop q3 q4
  obtain ⟨r, h1, m, rfl, h2⟩ := key
  rw [wetS_eq h2]
  refine ⟨?_, h2⟩
  unfold F_X12_wetOf F_X12_wetOf_4
  rw [show (0 : Int32) = nI 0 from rfl]
  exact h1
