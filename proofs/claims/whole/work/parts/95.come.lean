/-! ===== the model's search ===== -/
def unN (I : Nat → Nat → Int32) : Nat := sumN (fun u => if I 175 u = -1 then 1 else 0) 51
/-- a queue of so many nodes, each but the first come by an earlier one -/
def QuM (I : Nat → Nat → Int32) (q : Nat → Nat) (len : Nat) : Prop :=
  1 ≤ len ∧ q 0 = 50 ∧ unN I + len = 51 ∧ (∀ i, i < len → q i < 51 ∧ I 176 i = nI (q i) ∧ ¬ I 175 (q i) = -1) ∧ (∀ i j, i < len → j < len → q i = q j → i = j) ∧
  (∀ u, u < 51 → ¬ I 175 u = -1 → ∃ i, i < len ∧ q i = u) ∧ ∀ i, 0 < i → i < len → ∃ p, p < i ∧ I 175 (q i) = nI (q p) ∧ ¬ I 174 (51 * q p + q i) = 0
theorem Qu_add {I : Nat → Nat → Int32} {q : Nat → Nat} {len h u : Nat} (hq : QuM I q len) (hh : h < len) (hu : u < 51) (h1 : I 175 u = -1) (h2 : ¬ I 174 (51 * q h + u) = 0) : len < 51 ∧ QuM (xu (xu I 175 u (nI (q h))) 176 len (nI u)) (fun i => if i = len then u else q i) (len + 1) := by
  obtain ⟨q1, q2, q3, q4, q5, q6, q7⟩ := hq
  have ge := sumN_ge (f := fun u => if I 175 u = -1 then 1 else 0) 51 hu
  rw [if_pos h1] at ge
  have qh := q4 h hh
  have r175 : ∀ x, x ≠ u → xu (xu I 175 u (nI (q h))) 176 len (nI u) 175 x = I 175 x := fun x hx => by rw [xu_o (by omega), xu_o (by omega)]
  have s175 : xu (xu I 175 u (nI (q h))) 176 len (nI u) 175 u = nI (q h) := by rw [xu_o (by omega), xu_self]
  have r174 : ∀ x, xu (xu I 175 u (nI (q h))) 176 len (nI u) 174 x = I 174 x := fun x => by rw [xu_o (by omega), xu_o (by omega)]
  have nm := nI_nm1 (a := q h) (by omega)
  have qn : ∀ i, i < len → q i ≠ u := fun i hi z => (q4 i hi).2.2 (by rw [z]; exact h1)
  have un : unN (xu (xu I 175 u (nI (q h))) 176 len (nI u)) + 1 = unN I := by
    have v := sumN_upd (f := fun x => if xu (xu I 175 u (nI (q h))) 176 len (nI u) 175 x = -1 then 1 else 0) (g := fun x => if I 175 x = -1 then 1 else 0) 51 hu (fun p _ hn => by rw [r175 p hn])
    rw [s175, if_neg nm, if_pos h1] at v
    unfold unN
    omega
  have ge' : 1 ≤ unN I := ge
  refine ⟨by omega, by omega, ?_, by omega, fun i hi => ?_, fun i j hi hj e => ?_, fun x hx hn => ?_, fun i h0 hi => ?_⟩
  · show (if 0 = len then u else q 0) = 50
    rw [if_neg (by omega)]; exact q2
  · by_cases e : i = len
    · simp only [e, if_true]
      exact ⟨hu, xu_self, by rw [s175]; exact nm⟩
    · simp only [if_neg e]
      obtain ⟨a, b, c⟩ := q4 i (by omega)
      exact ⟨a, by rw [xu_o (by omega), xu_o (by omega)]; exact b, by rw [r175 _ (qn i (by omega))]; exact c⟩
  · by_cases e1 : i = len
    · by_cases e2 : j = len
      · omega
      · simp only [e1, if_true, if_neg e2] at e
        exact absurd e.symm (qn j (by omega))
    · by_cases e2 : j = len
      · simp only [e2, if_true, if_neg e1] at e
        exact absurd e (qn i (by omega))
      · simp only [if_neg e1, if_neg e2] at e
        exact q5 i j (by omega) (by omega) e
  · by_cases e : x = u
    · exact ⟨len, by omega, by simp only [if_true]; exact e.symm⟩
    · rw [r175 x e] at hn
      obtain ⟨i, hi, hx2⟩ := q6 x hx hn
      exact ⟨i, by omega, by simp only [if_neg (show ¬ i = len by omega)]; exact hx2⟩
  · by_cases e : i = len
    · refine ⟨h, by omega, ?_, ?_⟩
      · simp only [e, if_true, if_neg (show ¬ h = len by omega)]
        exact s175
      · simp only [e, if_true, if_neg (show ¬ h = len by omega), r174]
        exact h2
    · obtain ⟨p, p1, p2, p3⟩ := q7 i h0 (by omega)
      refine ⟨p, p1, ?_, ?_⟩
      · simp only [if_neg e, if_neg (show ¬ p = len by omega)]
        rw [r175 _ (qn i (by omega))]
        exact p2
      · simp only [if_neg e, if_neg (show ¬ p = len by omega), r174]
        exact p3
/-- one node looked round from -/
theorem come50 {P : Nat → Nat → Option Nat} (hP : GP P) {I : Nat → Nat → Int32} {J : Nat → Nat → Int64} {q : Nat → Nat} {len h : Nat} (v1 : Int32) (hq : QuM I q len) (hh : h < len) : ∃ I' q' len', F_X12_isCome_50 164 v1 (nI len) (nI h) 0 (mm P I J) = some (.inl (nI len', nI (h + 1), mm P I' J)) ∧ QuM I' q' len' ∧ len ≤ len' ∧ (∀ i, i < len → q' i = q i) ∧ (∀ a i, a ≠ 175 → a ≠ 176 → I' a i = I a i) ∧ (∀ u, ¬ I 175 u = -1 → ¬ I' 175 u = -1) ∧ ∀ u, u < 51 → ¬ I 174 (51 * q h + u) = 0 → ¬ I' 175 u = -1 := by
  have l51 : len ≤ 51 := by have := hq.2.2.1; omega
  have key : ∃ r : (Int32 × Int32 × xM) ⊕ (Int32 × xM), xit (F_X12_isCome_50b 164 v1 (nI h)) xFU (nI len, nI 0, mm P I J) = some r ∧ (∃ I' q' len', r = .inl (nI len', nI (h + 1), mm P I' J) ∧ QuM I' q' len' ∧ len ≤ len' ∧ (∀ i, i < len → q' i = q i) ∧ (∀ a i, a ≠ 175 → a ≠ 176 → I' a i = I a i) ∧ (∀ u, ¬ I 175 u = -1 → ¬ I' 175 u = -1) ∧ ∀ u, u < 51 → ¬ I 174 (51 * q h + u) = 0 → ¬ I' 175 u = -1) := by
    refine xit_inv (fun j z => ∃ I' q' len', z = (nI len', nI j, mm P I' J) ∧ QuM I' q' len' ∧ len ≤ len' ∧ (∀ i, i < len → q' i = q i) ∧ (∀ a i, a ≠ 175 → a ≠ 176 → I' a i = I a i) ∧ (∀ u, ¬ I 175 u = -1 → ¬ I' 175 u = -1) ∧ ∀ u, u < j → ¬ I 174 (51 * q h + u) = 0 → ¬ I' 175 u = -1) _ 51 ⟨I, q, len, rfl, hq, Nat.le_refl _, fun _ _ => rfl, fun _ _ _ _ => rfl, fun _ z => z, fun u hu => by omega⟩ (fun j z hj hq2 => ?_) (fun z hq2 => ?_) (by omega)
    · obtain ⟨I1, q1, l1, rfl, g1, g2, g3, g4, g5, g6⟩ := hq2
      left
      have c1 : ¬ (51 : Int32) ≤ nI j := nI_ge (b := 51) hj (by omega)
      have l1' : l1 ≤ 51 := by have := g1.2.2.1; omega
      obtain ⟨w1, w2, w3⟩ := g1.2.2.2.1 h (by omega)
      have qh := g3 h hh
      have ix : (51 : Int32) * nI (q1 h) + nI j = nI (51 * q1 h + j) := by rw [show (51 : Int32) = nI 51 from rfl, pk_mul, nI_add]
      have e174 : ∀ x, I1 174 x = I 174 x := fun x => g4 _ _ (by omega) (by omega)
      by_cases hc : I1 175 j = -1
      · by_cases hr : I1 174 (51 * q1 h + j) = 0
        · refine ⟨(nI l1, nI (j + 1), mm P I1 J), ?_, I1, q1, l1, rfl, g1, g2, g3, g4, g5, fun u hu hx => ?_⟩
          · unfold F_X12_isCome_50b F_X12_isCome_115
            simp (disch := omega) only [↓reduceIte, c1, ↓bOM hP, ↓bAM, hc, w2, ix, hr, nI_1]
          · by_cases e : u = j
            · rw [e, ← qh, ← e174] at hx
              exact absurd hr hx
            · exact g6 u (by omega) hx
        · obtain ⟨a1, a2⟩ := Qu_add g1 (show h < l1 by omega) hj hc hr
          refine ⟨(nI (l1 + 1), nI (j + 1), mm P (xu (xu I1 175 j (nI (q1 h))) 176 l1 (nI j)) J), ?_, _, _, l1 + 1, rfl, a2, by omega, fun i hi => ?_, fun a i h1 h2 => by rw [xu_o (by omega), xu_o (by omega), g4 a i h1 h2], fun u hu => ?_, fun u hu hx => ?_⟩
          · have w2' : xu I1 175 j (nI (q1 h)) 176 h = nI (q1 h) := by rw [xu_o (by omega)]; exact w2
            unfold F_X12_isCome_50b F_X12_isCome_115
            simp (disch := omega) only [↓reduceIte, c1, ↓bOM hP, ↓bAM, hc, w2, ix, hr, nI_1]
          · show (if i = l1 then j else q1 i) = q i
            rw [if_neg (by omega)]; exact g3 i hi
          · by_cases e : u = j
            · rw [e, xu_o (by omega), xu_self]
              exact nI_nm1 (by omega)
            · rw [xu_o (by omega), xu_o (by omega)]; exact g5 u hu
          · by_cases e : u = j
            · rw [e, xu_o (by omega), xu_self]
              exact nI_nm1 (by omega)
            · rw [xu_o (by omega), xu_o (by omega)]; exact g6 u (by omega) hx
      · refine ⟨(nI l1, nI (j + 1), mm P I1 J), ?_, I1, q1, l1, rfl, g1, g2, g3, g4, g5, fun u hu hx => ?_⟩
        · unfold F_X12_isCome_50b F_X12_isCome_115
          simp (disch := omega) only [↓reduceIte, c1, ↓bOM hP, ↓bAM, hc, nI_1]
        · by_cases e : u = j
          · rw [e]; exact hc
          · exact g6 u (by omega) hx
    · obtain ⟨I1, q1, l1, rfl, g1, g2, g3, g4, g5, g6⟩ := hq2
      have c1 : (51 : Int32) ≤ nI 51 := by decide
      exact ⟨_, by simp only [F_X12_isCome_50b, F_X12_isCome_121, ↓reduceIte, c1, nI_1, Option.map_some], I1, q1, l1, rfl, g1, g2, g3, g4, g5, g6⟩
  obtain ⟨r, k1, I', q', l', rfl, k2⟩ := key
  exact ⟨I', q', l', k1, k2⟩
