/-! ===== the class' search ===== -/
def unC (I : Nat → Nat → Int32) : Nat := sumN (fun u => if I 118 u = -1 then 1 else 0) 50
/-- the sea first (not in the row), then so many sides, each come by an earlier one; the sea's own by themselves -/
def QuC (r : Nat → Nat → Int) (I : Nat → Nat → Int32) (q : Nat → Nat) (len : Nat) : Prop :=
  1 ≤ len ∧ q 0 = 50 ∧ unC I + len = 51 ∧ I 114 5 = nI (len - 1) ∧ (∀ i, 0 < i → i < len → q i < 50 ∧ I 119 (i - 1) = nI (q i) ∧ ¬ I 118 (q i) = -1) ∧ (∀ i j, i < len → j < len → q i = q j → i = j) ∧
  (∀ u, u < 50 → ¬ I 118 u = -1 → ∃ i, 0 < i ∧ i < len ∧ q i = u) ∧ ∀ i, 0 < i → i < len → ∃ p, p < i ∧ I 118 (q i) = nI (if p = 0 then q i else q p) ∧ 0 < r (q p) (q i)
/-- what stays if sides are put into the row -/
def frC (I I' : Nat → Nat → Int32) : Prop := (∀ a i, a ≠ 118 → a ≠ 119 → ¬ (a = 114 ∧ i = 5) → I' a i = I a i) ∧ ∀ u, ¬ I 118 u = -1 → ¬ I' 118 u = -1
theorem frC.rf {I : Nat → Nat → Int32} : frC I I := ⟨fun _ _ _ _ _ => rfl, fun _ h => h⟩
theorem frC.tr {I I1 I2 : Nat → Nat → Int32} (h : frC I I1) (g : frC I1 I2) : frC I I2 := ⟨fun a i h1 h2 h3 => (g.1 a i h1 h2 h3).trans (h.1 a i h1 h2 h3), fun u hu => g.2 u (h.2 u hu)⟩
theorem QuC_add {r : Nat → Nat → Int} {I : Nat → Nat → Int32} {q : Nat → Nat} {len h u : Nat} (hq : QuC r I q len) (hh : h < len) (hu : u < 50) (h1 : I 118 u = -1) (h2 : 0 < r (q h) u) : len < 51 ∧ QuC r (xu (xu (xu I 118 u (nI (if h = 0 then u else q h))) 119 (len - 1) (nI u)) 114 5 (nI len)) (fun i => if i = len then u else q i) (len + 1) := by
  obtain ⟨q1, q2, q3, q0, q4, q5, q6, q7⟩ := hq
  have ge := sumN_ge (f := fun u => if I 118 u = -1 then 1 else 0) 50 hu
  rw [if_pos h1] at ge
  have by50 : (if h = 0 then u else q h) < 50 := by
    by_cases e : h = 0
    · rw [if_pos e]; exact hu
    · rw [if_neg e]; exact (q4 h (by omega) hh).1
  obtain ⟨b, hb⟩ : ∃ b, (if h = 0 then u else q h) = b := ⟨_, rfl⟩
  rw [hb] at by50
  rw [hb]
  have r118 : ∀ x, x ≠ u → xu (xu (xu I 118 u (nI b)) 119 (len - 1) (nI u)) 114 5 (nI len) 118 x = I 118 x := fun x hx => by rw [xu_o (by omega), xu_o (by omega), xu_o (by omega)]
  have s118 : xu (xu (xu I 118 u (nI b)) 119 (len - 1) (nI u)) 114 5 (nI len) 118 u = nI b := by rw [xu_o (by omega), xu_o (by omega), xu_self]
  have r119 : ∀ x, x ≠ len - 1 → xu (xu (xu I 118 u (nI b)) 119 (len - 1) (nI u)) 114 5 (nI len) 119 x = I 119 x := fun x hx => by rw [xu_o (by omega), xu_o (by omega), xu_o (by omega)]
  have s119 : xu (xu (xu I 118 u (nI b)) 119 (len - 1) (nI u)) 114 5 (nI len) 119 (len - 1) = nI u := by rw [xu_o (by omega), xu_self]
  have nm := nI_nm1 (a := b) (by omega)
  have qn : ∀ i, i < len → q i ≠ u := fun i hi z => by
    by_cases e : i = 0
    · rw [e, q2] at z
      omega
    · exact (q4 i (by omega) hi).2.2 (by rw [z]; exact h1)
  have un : unC (xu (xu (xu I 118 u (nI b)) 119 (len - 1) (nI u)) 114 5 (nI len)) + 1 = unC I := by
    have v := sumN_upd (f := fun x => if xu (xu (xu I 118 u (nI b)) 119 (len - 1) (nI u)) 114 5 (nI len) 118 x = -1 then 1 else 0) (g := fun x => if I 118 x = -1 then 1 else 0) 50 hu (fun p _ hn => by rw [r118 p hn])
    rw [s118, if_neg nm, if_pos h1] at v
    unfold unC
    omega
  have ge' : 1 ≤ unC I := ge
  refine ⟨by omega, by omega, ?_, by omega, ?_, fun i h0 hi => ?_, fun i j hi hj e => ?_, fun x hx hn => ?_, fun i h0 hi => ?_⟩
  · show (if 0 = len then u else q 0) = 50
    rw [if_neg (by omega)]; exact q2
  · rw [xu_self, show len + 1 - 1 = len by omega]
  · by_cases e : i = len
    · simp only [e, if_true]
      exact ⟨hu, s119, by rw [s118]; exact nm⟩
    · simp only [if_neg e]
      obtain ⟨a, c, d⟩ := q4 i h0 (by omega)
      exact ⟨a, by rw [r119 _ (by omega)]; exact c, by rw [r118 _ (qn i (by omega))]; exact d⟩
  · by_cases e1 : i = len
    · by_cases e2 : j = len
      · omega
      · simp only [e1, if_true, if_neg e2] at e
        exact absurd e.symm (qn j (by omega))
    · by_cases e2 : j = len
      · simp only [e2, if_true, if_neg e1] at e
        exact absurd e (qn i (by omega))
      · simp only [if_neg e1, if_neg e2] at e
        exact q5 i j (by omega) (by omega) e
  · by_cases e : x = u
    · exact ⟨len, by omega, by omega, by simp only [if_true]; exact e.symm⟩
    · rw [r118 x e] at hn
      obtain ⟨i, h0, hi, hx2⟩ := q6 x hx hn
      exact ⟨i, h0, by omega, by simp only [if_neg (show ¬ i = len by omega)]; exact hx2⟩
  · by_cases e : i = len
    · refine ⟨h, by omega, ?_, ?_⟩
      · simp only [e, if_true, if_neg (show ¬ h = len by omega)]
        rw [hb]
        exact s118
      · simp only [e, if_true, if_neg (show ¬ h = len by omega)]
        exact h2
    · obtain ⟨p, p1, p2, p3⟩ := q7 i h0 (by omega)
      refine ⟨p, p1, ?_, ?_⟩
      · simp only [if_neg e, if_neg (show ¬ p = len by omega)]
        rw [r118 _ (qn i (by omega))]
        exact p2
      · simp only [if_neg e, if_neg (show ¬ p = len by omega)]
        exact p3
theorem enq_C {P : Nat → Nat → Option Nat} (hP : GP P) {I : Nat → Nat → Int32} {J : Nat → Nat → Int64} {r : Nat → Nat → Int} {q : Nat → Nat} {len h u b : Nat} (hq : QuC r I q len) (hh : h < len) (hu : u < 50) (hb : b = if h = 0 then u else q h) (h2 : 0 < r (q h) u) :
    ∃ I' q' len', F_X1_enqueue 114 (nI u) (nI b) (mm P I J) = some (mm P I' J) ∧ QuC r I' q' len' ∧ len ≤ len' ∧ (∀ i, i < len → q' i = q i) ∧ frC I I' ∧ ¬ I' 118 u = -1 := by
  have b50 : b < 50 := by
    rw [hb]
    by_cases e : h = 0
    · rw [if_pos e]; exact hu
    · rw [if_neg e]; exact (hq.2.2.2.2.1 h (by omega) hh).1
  by_cases h1 : I 118 u = -1
  · obtain ⟨a1, a2⟩ := QuC_add hq hh hu h1 h2
    rw [← hb] at a2
    have q0 := hq.2.2.2.1
    have l1 := hq.1
    have c1 : ¬ (50 : Int32) ≤ nI (len - 1) := nI_ge (b := 50) (by omega) (by omega)
    have e1 : ∀ v, xu I 118 u v 114 5 = nI (len - 1) := fun v => by rw [xu_o (by omega)]; exact q0
    have e2 : ∀ v v', xu (xu I 118 u v) 119 (len - 1) v' 114 5 = nI (len - 1) := fun v v' => by rw [xu_o (by omega)]; exact e1 v
    have e3 : nI (len - 1 + 1) = nI len := by rw [show len - 1 + 1 = len by omega]
    refine ⟨_, _, len + 1, ?_, a2, by omega, fun i hi => if_neg (by omega), ⟨fun a i z1 z2 z3 => by rw [xu_o (by omega), xu_o (by omega), xu_o (by omega)], fun x hx => ?_⟩, ?_⟩
    · unfold F_X1_enqueue
      simp (disch := omega) only [↓bOX hP, ↓bAX, h1, ↓reduceIte, q0, c1, e1, e2, nI_1, e3]
    · by_cases e : x = u
      · rw [e, xu_o (by omega), xu_o (by omega), xu_self]
        exact nI_nm1 (by omega)
      · rw [xu_o (by omega), xu_o (by omega), xu_o (by omega)]; exact hx
    · rw [xu_o (by omega), xu_o (by omega), xu_self]
      exact nI_nm1 (by omega)
  · refine ⟨I, q, len, ?_, hq, Nat.le_refl _, fun _ _ => rfl, frC.rf, h1⟩
    unfold F_X1_enqueue
    simp (disch := omega) only [↓bOX hP, ↓bAX, h1, ↓reduceIte]
/-! ===== what the class keeps of what was sent ===== -/
theorem adj_sym {w a b : Nat} : adjB w a b = adjB w b a := by
  unfold adjB
  rw [Bool.eq_iff_iff]
  simp only [Bool.or_eq_true, Bool.and_eq_true, decide_eq_true_iff, Bool.not_eq_true', decide_eq_false_iff_not]
  constructor
  · rintro (((h | h) | h) | h)
    · exact Or.inl (Or.inl (Or.inr h))
    · exact Or.inl (Or.inl (Or.inl h))
    · exact Or.inr h
    · exact Or.inl (Or.inr h)
  · rintro (((h | h) | h) | h)
    · exact Or.inl (Or.inl (Or.inr h))
    · exact Or.inl (Or.inl (Or.inl h))
    · exact Or.inr h
    · exact Or.inl (Or.inr h)
theorem adj_irr {w a : Nat} (h : 1 ≤ w) : adjB w a a = false := by
  unfold adjB
  rw [decide_eq_false (show ¬ a = a + w by omega), decide_eq_false (show ¬ a = a + 1 by omega)]
  rfl
/-- room, what goes through a cell, what goes from cell c to cell d -/
def GhC (I : Nat → Nat → Int32) (t : Txt) (s : Nat → Nat) (lv : Nat) (r : Nat → Nat → Int) : Prop :=
  (∀ c, c < tN t → I 115 c = nI (lv - s c)) ∧ (∀ c, c < tN t → (I 116 c).toInt = r (2 * c + 1) (2 * c)) ∧ ∀ c d, c < tN t → d < tN t → adjB (tW t) d c = true → (I 117 (25 * c + d)).toInt = r (2 * d) (2 * c + 1)
theorem GhC_fr {I I' : Nat → Nat → Int32} {t : Txt} {s : Nat → Nat} {lv : Nat} {r : Nat → Nat → Int} (h : GhC I t s lv r) (e1 : ∀ i, I' 115 i = I 115 i) (e2 : ∀ i, I' 116 i = I 116 i) (e3 : ∀ i, I' 117 i = I 117 i) : GhC I' t s lv r :=
  ⟨fun c hc => by rw [e1]; exact h.1 c hc, fun c hc => by rw [e2]; exact h.2.1 c hc, fun c d hc hd ha => by rw [e3]; exact h.2.2 c d hc hd ha⟩
/-- rooms both ways together -/
theorem r2_in {t : Txt} {s : Nat → Nat} {lv c : Nat} (hw : wfT t) (hc : c < tN t) : r0D t s lv (2 * c) (2 * c + 1) + r0D t s lv (2 * c + 1) (2 * c) = ((lv - s c : Nat) : Int) := by
  have hN := tN_le hw
  rw [r0D_in hc (by omega), r0D_out hc, if_pos rfl, if_neg (fun z => by
    have := z.2.2
    rw [show 2 * c / 2 = c by omega, adj_irr hw.2.1.1] at this
    cases this)]
  omega
theorem r2_adj {t : Txt} {s : Nat → Nat} {lv c d : Nat} (hw : wfT t) (hc : c < tN t) (hd : d < tN t) (ha : adjB (tW t) d c = true) : r0D t s lv (2 * d) (2 * c + 1) + r0D t s lv (2 * c + 1) (2 * d) = 268435456 := by
  have hN := tN_le hw
  have hne : ¬ 2 * c + 1 = 2 * d + 1 := fun z => by
    have e : c = d := by omega
    rw [e, adj_irr hw.2.1.1] at ha
    cases ha
  rw [r0D_in hd (by omega), r0D_out hc, if_neg hne, if_pos ⟨by omega, by omega, by rw [show 2 * d / 2 = d by omega]; exact ha⟩]
  omega
/-- which two nodes have room between them -/
theorem r2_pos {t : Txt} {s : Nat → Nat} {lv i j : Nat} (hw : wfT t) (hi : i < 51) (hj : j < 51) (h : 0 < r0D t s lv i j + r0D t s lv j i) :
    (i = 50 ∧ j % 2 = 0 ∧ j / 2 < tW t) ∨ (j = 50 ∧ i % 2 = 0 ∧ i / 2 < tW t) ∨ (i / 2 < tN t ∧ j / 2 < tN t ∧ i < 50 ∧ j < 50 ∧ i % 2 ≠ j % 2 ∧ (i / 2 = j / 2 ∨ adjB (tW t) (i / 2) (j / 2) = true)) := by
  have hN := tN_le hw
  have hWN := tW_tN hw
  have one : ∀ a b, a < 51 → b < 51 → 0 < r0D t s lv a b → (a = 50 ∧ b % 2 = 0 ∧ b / 2 < tW t) ∨ (a / 2 < tN t ∧ b / 2 < tN t ∧ a < 50 ∧ b < 50 ∧ a % 2 ≠ b % 2 ∧ (a / 2 = b / 2 ∨ adjB (tW t) (a / 2) (b / 2) = true)) := fun a b ha hb h => by
    unfold r0D at h
    by_cases e1 : a = 50
    · rw [if_pos e1] at h
      by_cases e2 : b % 2 = 0 ∧ b / 2 < tW t
      · exact Or.inl ⟨e1, e2⟩
      · rw [if_neg e2] at h
        omega
    · rw [if_neg e1] at h
      by_cases e2 : a / 2 < tN t
      · rw [if_pos e2] at h
        by_cases e3 : a % 2 = 0
        · rw [if_pos e3] at h
          by_cases e4 : b = a + 1
          · exact Or.inr ⟨e2, by omega, by omega, by omega, by omega, Or.inl (by omega)⟩
          · rw [if_neg e4] at h
            omega
        · rw [if_neg e3] at h
          by_cases e4 : b % 2 = 0 ∧ b / 2 < tN t ∧ adjB (tW t) (b / 2) (a / 2) = true
          · exact Or.inr ⟨e2, e4.2.1, by omega, by omega, by omega, Or.inr (by rw [adj_sym]; exact e4.2.2)⟩
          · rw [if_neg e4] at h
            omega
      · rw [if_neg e2] at h
        omega
  by_cases h1 : 0 < r0D t s lv i j
  · rcases one i j hi hj h1 with z | z
    · exact Or.inl z
    · exact Or.inr (Or.inr z)
  · have h2 : 0 < r0D t s lv j i := by omega
    rcases one j i hj hi h2 with z | ⟨z1, z2, z3, z4, z5, z6⟩
    · exact Or.inr (Or.inl z)
    · refine Or.inr (Or.inr ⟨z2, z1, z4, z3, fun e => z5 e.symm, ?_⟩)
      rcases z6 with z6 | z6
      · exact Or.inl z6.symm
      · exact Or.inr (by rw [adj_sym]; exact z6)
