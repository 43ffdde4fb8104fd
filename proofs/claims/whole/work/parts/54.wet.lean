/-! ===== how many bits ===== -/
def cntN (m : Nat) : Nat → Nat
  | 0 => 0
  | n + 1 => cntN m n + (if m.testBit n then 1 else 0)
theorem cntN_le (m : Nat) : ∀ n, cntN m n ≤ n
  | 0 => Nat.le_refl _
  | n + 1 => by
    have := cntN_le m n
    unfold cntN
    split <;> omega
theorem cntN_mono {m m' : Nat} (h : ∀ b, m.testBit b = true → m'.testBit b = true) : ∀ n, cntN m n ≤ cntN m' n
  | 0 => Nat.le_refl _
  | n + 1 => by
    have h1 := cntN_mono h n
    have h2 := h n
    unfold cntN
    split
    · next hb => rw [if_pos (h2 hb)]; omega
    · split <;> omega
theorem cntN_lt {m m' : Nat} (h : ∀ b, m.testBit b = true → m'.testBit b = true) {b : Nat} (h1 : m'.testBit b = true) (h2 : ¬ m.testBit b = true) : ∀ n, b < n → cntN m n < cntN m' n
  | 0, hb => by omega
  | n + 1, hb => by
    by_cases e : b = n
    · subst e
      have h3 := cntN_mono h b
      unfold cntN
      rw [if_pos h1, if_neg h2]
      omega
    · have h3 := cntN_lt h h1 h2 n (by omega)
      have h4 := h n
      unfold cntN
      split
      · next hc => rw [if_pos (h4 hc)]; omega
      · split <;> omega
theorem cntN_pos {m b n : Nat} (h : m.testBit b = true) (hb : b < n) : 0 < cntN m n := by
  have := cntN_lt (m := 0) (m' := m) (fun b hb => by rw [Nat.zero_testBit] at hb; cases hb) h (by rw [Nat.zero_testBit]; decide) n hb
  omega
/-! ===== what is wet ===== -/
def lowB (t : Txt) (s : Nat → Nat) (lv b : Nat) : Bool := decide (b < tN t) && decide (s b < lv)
theorem lowB_iff {t : Txt} {s : Nat → Nat} {lv b : Nat} : lowB t s lv b = true ↔ b < tN t ∧ s b < lv := by
  unfold lowB
  rw [Bool.and_eq_true, decide_eq_true_iff, decide_eq_true_iff]
/-- bits that are low, and wet in every closed set -/
def wetI (t : Txt) (s : Nat → Nat) (lv m : Nat) : Prop := (∀ b, m.testBit b = true → lowB t s lv b = true) ∧
  ∀ p : Nat → Prop, (∀ b, b < tW t → lowB t s lv b = true → p b) → (∀ a b, p a → adjB (tW t) a b = true → lowB t s lv b = true → p b) → ∀ b, m.testBit b = true → p b
def wetP (t : Txt) (s : Nat → Nat) (lv m : Nat) : Prop := wetI t s lv m ∧ (∀ b, b < tW t → lowB t s lv b = true → m.testBit b = true) ∧ ∀ a b, m.testBit a = true → adjB (tW t) a b = true → lowB t s lv b = true → m.testBit b = true
theorem wetP_eq {t : Txt} {s : Nat → Nat} {lv m m' : Nat} (h : wetP t s lv m) (h' : wetP t s lv m') : m = m' := by
  apply Nat.eq_of_testBit_eq
  intro b
  rw [Bool.eq_iff_iff]
  exact ⟨fun hb => h.1.2 (fun b => m'.testBit b = true) h'.2.1 h'.2.2 b hb, fun hb => h'.1.2 (fun b => m.testBit b = true) h.2.1 h.2.2 b hb⟩
theorem wetI_lt {t : Txt} {s : Nat → Nat} {lv m : Nat} (hw : wfT t) (h : wetI t s lv m) : m < 2 ^ 25 := by
  have hN := tN_le hw
  apply Nat.lt_pow_two_of_testBit
  intro i hi
  cases hb : m.testBit i with
  | false => rfl
  | true =>
    have := lowB_iff.mp (h.1 i hb)
    omega
noncomputable def wetS (t : Txt) (s : Nat → Nat) (lv : Nat) : Nat := Classical.epsilon (fun m => wetP t s lv m)
theorem wetS_eq {t : Txt} {s : Nat → Nat} {lv m : Nat} (h : wetP t s lv m) : wetS t s lv = m := wetP_eq (Classical.epsilon_spec (p := fun m => wetP t s lv m) ⟨m, h⟩) h
def lowN (s : Nat → Nat) (lv : Nat) : Nat → Nat
  | 0 => 0
  | j + 1 => if s j < lv then lowN s lv j ||| 2 ^ j else lowN s lv j
theorem lowN_bit (s : Nat → Nat) (lv : Nat) : ∀ j b, (lowN s lv j).testBit b = (decide (b < j) && decide (s b < lv))
  | 0, b => by unfold lowN; rw [Nat.zero_testBit, decide_eq_false (by omega)]; rfl
  | j + 1, b => by
    have ih := lowN_bit s lv j b
    unfold lowN
    by_cases h : s j < lv
    · rw [if_pos h, Nat.testBit_or, ih, Nat.testBit_two_pow]
      by_cases e : j = b
      · subst e
        rw [decide_eq_true h, decide_eq_true (show j < j + 1 by omega), decide_eq_true (show j = j from rfl)]
        simp
      · rw [decide_eq_false e, Bool.or_false]
        congr 1
        rw [decide_eq_decide]
        omega
    · rw [if_neg h, ih]
      by_cases e : b = j
      · subst e
        rw [decide_eq_false h, Bool.and_false, Bool.and_false]
      · congr 1
        rw [decide_eq_decide]
        omega
theorem lowN_lt (s : Nat → Nat) (lv : Nat) {j : Nat} (hj : j ≤ 25) : lowN s lv j < 2 ^ 25 := by
  apply Nat.lt_pow_two_of_testBit
  intro i hi
  rw [lowN_bit, decide_eq_false (by omega)]
  rfl
/-! ===== the class ===== -/
theorem wetLow_C {P : Nat → Nat → Option Nat} (hP : GP P) {I : Nat → Nat → Int32} {J : Nat → Nat → Int64} {t : Txt} {c : Cst} {n k : Nat} (hk : k ∈ coastL) (hw : wfT t) (hc : wfC t c n) (hC : CoI I k t c) {lv : Nat} (hlv : lv < 2 ^ 31) : F_X8_wetAt_16 14 (k + 1) (nI lv) 0 (nI (tN t)) 0 (mm P I J) = F_X8_wetAt_44 14 (nI (lowN (cSand c) lv (tN t))) (mm P I J) := by
  have hN := tN_le hw
  unfold F_X8_wetAt_16
  refine xit_run (fun j => (nI (lowN (cSand c) lv j), nI j, mm P I J)) (tN t) rfl (fun j hj => ?_) ?_ (by omega)
  · have c1 : ¬ nI (tN t) ≤ nI j := nI_ge hj (by omega)
    have s1 : I (k + 1) j = nI (cSand c j) := hC.1 j hj
    have s9 := hc.1 j hj
    have c2 : nI lv ≤ nI (cSand c j) ↔ lv ≤ cSand c j := nI_leI hlv (by omega)
    have lt := lowN_lt (cSand c) lv (j := j) (by omega)
    have lp : 2 ^ j < 2 ^ 25 := Nat.pow_lt_pow_right (by omega) (by omega)
    simp (disch := omega) only [F_X8_wetAt_16b, F_X8_wetAt_38, ↓reduceIte, c1, ↓bOK hP hk, s1, c2, nI_1, lowN]
    by_cases h : lv ≤ cSand c j
    · rw [if_pos h, if_neg (show ¬ cSand c j < lv by omega)]
    · rw [if_neg h, if_pos (show cSand c j < lv by omega), Option.bind_some, one_shl (by omega), orN (by omega) (by omega)]
  · simp only [F_X8_wetAt_16b, ↓reduceIte, nI_le (Nat.le_refl (tN t)) (by omega)]
theorem wetGrow_C {P : Nat → Nat → Option Nat} (hP : GP P) {I : Nat → Nat → Int32} {J : Nat → Nat → Int64} {t : Txt} {s : Nat → Nat} (hw : wfT t) (hL : LandC (mm P I J) 14 t) {lv : Nat} : ∃ m, F_X8_wetAt_44 14 (nI (lowN s lv (tN t))) (mm P I J) = some (nI m, mm P I J) ∧ wetP t s lv m := by
  have hN := tN_le hw
  have hw' := hw
  obtain ⟨⟨r1, r5⟩, ⟨w1, w5⟩, -⟩ := hw'
  have l1 : I 14 1 = nI (tW t) := hL.2.1
  have lowlt := lowN_lt s lv (j := tN t) (by omega)
  have lowb : ∀ b, (lowN s lv (tN t)).testBit b = lowB t s lv b := fun b => lowN_bit s lv (tN t) b
  have p5 : 2 ^ tW t ≤ 2 ^ 5 := Nat.pow_le_pow_right (by omega) w5
  have baseb : ∀ b, (lowN s lv (tN t) &&& (2 ^ tW t - 1)).testBit b = (lowB t s lv b && decide (b < tW t)) := fun b => by rw [Nat.testBit_and, Nat.testBit_two_pow_sub_one, lowb]
  have key : ∃ r : Int32 × xM, xit (F_X8_wetAt_59b 14 (nI (lowN s lv (tN t)))) xFU (nI (lowN s lv (tN t) &&& (2 ^ tW t - 1)), nI 0, mm P I J) = some r ∧ (∃ m, r = (nI m, mm P I J) ∧ wetP t s lv m) := by
    refine xit_inv (fun j z => ∃ m, z = (nI m, nI j, mm P I J) ∧ wetI t s lv m ∧ (∀ b, b < tW t → lowB t s lv b = true → m.testBit b = true) ∧ (j = 0 ∨ j + 1 ≤ cntN m 25)) _ 25 ⟨_, rfl, ⟨fun b hb => ?_, fun p h1 h2 b hb => ?_⟩, fun b h1 h2 => ?_, Or.inl rfl⟩ (fun j z hj hq => ?_) (fun z hq => ?_) (by omega)
    · rw [baseb, Bool.and_eq_true] at hb
      exact hb.1
    · rw [baseb, Bool.and_eq_true, decide_eq_true_iff] at hb
      exact h1 b hb.2 hb.1
    · rw [baseb, h2, decide_eq_true h1]
      rfl
    · obtain ⟨m, rfl, q1, q2, q3⟩ := hq
      have mlt := wetI_lt hw q1
      have mb : ∀ a, m.testBit a = true → a < tR t * tW t := fun a ha => (lowB_iff.mp (q1.1 a ha)).1
      obtain ⟨e1, e2⟩ := besides_C hP (J := J) hw hL mlt
      have alt : besM (tR t) (tW t) m &&& lowN s lv (tN t) < 2 ^ 25 := Nat.and_lt_two_pow _ lowlt
      have c1 : ¬ (25 : Int32) ≤ nI j := nI_ge (b := 25) hj (by omega)
      have nb : ∀ b, (m ||| (besM (tR t) (tW t) m &&& lowN s lv (tN t))).testBit b = (m.testBit b || ((besM (tR t) (tW t) m).testBit b && lowB t s lv b)) := fun b => by rw [Nat.testBit_or, Nat.testBit_and, lowb]
      have nlt : m ||| (besM (tR t) (tW t) m &&& lowN s lv (tN t)) < 2 ^ 25 := Nat.or_lt_two_pow mlt alt
      have st : F_X8_wetAt_59b 14 (nI (lowN s lv (tN t))) (nI m, nI j, mm P I J) = if m ||| (besM (tR t) (tW t) m &&& lowN s lv (tN t)) = m then some (.inr (nI m, mm P I J)) else some (.inl (nI (m ||| (besM (tR t) (tW t) m &&& lowN s lv (tN t))), nI (j + 1), mm P I J)) := by
        simp only [F_X8_wetAt_59b, F_X8_wetAt_86, F_X8_wetAt_99, ↓reduceIte, c1, ↓bs e1, Option.map_some, nI_1]
        rw [andN e2 (by omega), orN (by omega) (by omega), Option.bind_some]
        simp (disch := omega) only [nI_eqI]
      rw [st]
      by_cases h : m ||| (besM (tR t) (tW t) m &&& lowN s lv (tN t)) = m
      · rw [if_pos h]
        refine Or.inr ⟨_, rfl, m, rfl, q1, q2, fun a b h1 h2 h3 => ?_⟩
        have h4 := nb b
        rw [h] at h4
        have h5 := (bes_bit (b := b) r5 w1 w5 mb (lowB_iff.mp h3).1).mpr ⟨a, h1, h2⟩
        rw [h5, h3] at h4
        rw [h4]
        simp
      · rw [if_neg h]
        have sub : ∀ b, m.testBit b = true → (m ||| (besM (tR t) (tW t) m &&& lowN s lv (tN t))).testBit b = true := fun b hb => by rw [nb, hb]; rfl
        refine Or.inl ⟨_, rfl, _, rfl, ⟨fun b hb => ?_, fun p h1 h2 b hb => ?_⟩, fun b h1 h2 => sub b (q2 b h1 h2), Or.inr ?_⟩
        · rw [nb, Bool.or_eq_true, Bool.and_eq_true] at hb
          rcases hb with hb | hb
          · exact q1.1 b hb
          · exact hb.2
        · rw [nb, Bool.or_eq_true, Bool.and_eq_true] at hb
          rcases hb with hb | ⟨hb1, hb2⟩
          · exact q1.2 p h1 h2 b hb
          · obtain ⟨a, ha1, ha2⟩ := (bes_bit (b := b) r5 w1 w5 mb (lowB_iff.mp hb2).1).mp hb1
            exact h2 a b (q1.2 p h1 h2 a ha1) ha2 hb2
        · obtain ⟨b, hb⟩ := Nat.exists_testBit_ne_of_ne h
          have hb2 : ¬ m.testBit b = true := fun z => hb (by rw [sub b z, z])
          have hb1 : (m ||| (besM (tR t) (tW t) m &&& lowN s lv (tN t))).testBit b = true := by
            cases hx : (m ||| (besM (tR t) (tW t) m &&& lowN s lv (tN t))).testBit b with
            | true => rfl
            | false =>
              rw [hx] at hb
              cases hy : m.testBit b with
              | true => exact absurd hy hb2
              | false => exact absurd hy.symm hb
          have b25 := bit_lt nlt hb1
          have l1 := cntN_lt sub hb1 hb2 25 b25
          rcases q3 with q3 | q3
          · by_cases hm0 : m = 0
            · subst hm0
              have : besM (tR t) (tW t) 0 = 0 := by
                unfold besM
                have : ∀ x, anot 0 x = 0 := fun x => by unfold anot; rw [Nat.zero_and]; rfl
                rw [this, this]
                simp
              rw [this, Nat.zero_and] at h
              exact absurd rfl h
            · obtain ⟨i, hi⟩ := Nat.exists_testBit_of_ne_zero hm0
              have := cntN_pos (n := 25) hi (bit_lt mlt hi)
              omega
          · omega
    · obtain ⟨m, rfl, q1, q2, q3⟩ := hq
      have := cntN_le m 25
      omega
  obtain ⟨r, h1, m, rfl, h2⟩ := key
  refine ⟨m, ?_, h2⟩
  unfold F_X8_wetAt_44 F_X8_wetAt_59
  simp only [↓bOC hP, l1]
  rw [pow_sub_one (by omega), andN (by omega) (by omega), Option.bind_some, show (0 : Int32) = nI 0 from rfl]
  exact h1
theorem wet_C {P : Nat → Nat → Option Nat} (hP : GP P) {I : Nat → Nat → Int32} {J : Nat → Nat → Int64} {t : Txt} {c : Cst} {n k : Nat} (hk : k ∈ coastL) (hw : wfT t) (hc : wfC t c n) (hL : LandC (mm P I J) 14 t) (hC : CoI I k t c) {lv : Nat} (hlv : lv < 2 ^ 31) : F_X8_wetAt 14 (k + 1) (nI lv) (mm P I J) = some (nI (wetS t (cSand c) lv), mm P I J) ∧ wetP t (cSand c) lv (wetS t (cSand c) lv) := by
  have hN := tN_le hw
  obtain ⟨m, h1, h2⟩ := wetGrow_C hP (J := J) (s := cSand c) (lv := lv) hw hL
  rw [wetS_eq h2]
  refine ⟨?_, h2⟩
  have al := m_al (P := P) (k := k + 1) (t := 20) (n := 25) (coast_sh k hk).2.2.2.2.1 I J
  have mn := minJ (a := tN t) (b := 25) (by omega) (by omega) (mm P I J)
  rw [Nat.min_eq_left (by omega)] at mn
  simp only [F_X8_wetAt, ↓bOC hP, ↓bs (cellsC (mm_G hP) hL), ↓bs al, ↓bs mn]
  rw [wetLow_C hP hk hw hc hC hlv, h1]
