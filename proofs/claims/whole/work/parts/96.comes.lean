/-! ===== the model's search, to its end ===== -/
/-- the search's end: so many nodes reached, all that can be -/
def EndM (I I' : Nat → Nat → Int32) (q : Nat → Nat) (len : Nat) : Prop := QuM I' q len ∧ (∀ a i, a ≠ 175 → a ≠ 176 → I' a i = I a i) ∧ ∀ i u, i < len → u < 51 → ¬ I 174 (51 * q i + u) = 0 → ¬ I' 175 u = -1
theorem come42 {P : Nat → Nat → Option Nat} (hP : GP P) {I : Nat → Nat → Int32} {J : Nat → Nat → Int64} {q : Nat → Nat} {T : Nat} (hT : T < 51) (hq : QuM I q 1) : ∃ I' q' len', F_X12_isCome_42 164 (nI T) 1 0 (mm P I J) = some (if I' 175 T = -1 then 0 else 1, mm P I' J) ∧ EndM I I' q' len' := by
  have fin : ∀ I' : Nat → Nat → Int32, F_X12_isCome_127 164 (nI T) (mm P I' J) = some (if I' 175 T = -1 then 0 else 1, mm P I' J) := fun I' => by
    by_cases h : I' 175 T = -1
    · simp (disch := omega) only [F_X12_isCome_127, ↓bOM hP, ↓bAM, h, ↓reduceIte, xz0, Option.bind_some]
    · simp (disch := omega) only [F_X12_isCome_127, ↓bOM hP, ↓bAM, h, ↓reduceIte, xz1, Option.bind_some]
  have key : ∃ r : Int32 × xM, xit (F_X12_isCome_42b 164 (nI T)) xFU (nI 1, nI 0, mm P I J) = some r ∧ (∃ I' q' len', r = (if I' 175 T = -1 then 0 else 1, mm P I' J) ∧ EndM I I' q' len') := by
    refine xit_inv (fun j z => ∃ I' q' len', z = (nI len', nI j, mm P I' J) ∧ QuM I' q' len' ∧ j ≤ len' ∧ (∀ a i, a ≠ 175 → a ≠ 176 → I' a i = I a i) ∧ ∀ i u, i < j → u < 51 → ¬ I 174 (51 * q' i + u) = 0 → ¬ I' 175 u = -1) _ 51 ⟨I, q, 1, rfl, hq, by omega, fun _ _ _ _ => rfl, fun i u hi => by omega⟩ (fun j z hj hq2 => ?_) (fun z hq2 => ?_) (by omega)
    · obtain ⟨I1, q1, l1, rfl, g1, g2, g3, g4⟩ := hq2
      have l51 : l1 ≤ 51 := by have := g1.2.2.1; omega
      by_cases e : l1 ≤ j
      · right
        have c1 : nI l1 ≤ nI j := nI_le e (by omega)
        refine ⟨(if I1 175 T = -1 then 0 else 1, mm P I1 J), ?_, I1, q1, l1, rfl, g1, g3, fun i u hi hu => g4 i u (by omega) hu⟩
        simp only [F_X12_isCome_42b, ↓reduceIte, c1, fin, Option.map_some]
      · left
        have c1 : ¬ nI l1 ≤ nI j := nI_ge (by omega) (by omega)
        obtain ⟨I2, q2, l2, h1, h2, h3, h4, h5, h6, h7⟩ := come50 hP (I := I1) (J := J) (nI T) g1 (show j < l1 by omega)
        refine ⟨(nI l2, nI (j + 1), mm P I2 J), ?_, I2, q2, l2, rfl, h2, by omega, fun a i x1 x2 => by rw [h5 a i x1 x2, g3 a i x1 x2], fun i u hi hu hx => ?_⟩
        · simp only [F_X12_isCome_42b, ↓reduceIte, c1]
          exact h1
        · rw [h4 i (by omega)] at hx
          by_cases e2 : i = j
          · subst e2
            exact h7 u hu (by rw [g3 _ _ (by omega) (by omega)]; exact hx)
          · exact h6 u (g4 i u (by omega) hu hx)
    · obtain ⟨I1, q1, l1, rfl, g1, g2, g3, g4⟩ := hq2
      have l51 : l1 ≤ 51 := by have := g1.2.2.1; omega
      have c1 : nI l1 ≤ nI 51 := nI_le l51 (by omega)
      refine ⟨(if I1 175 T = -1 then 0 else 1, mm P I1 J), ?_, I1, q1, l1, rfl, g1, g3, fun i u hi hu => g4 i u (by omega) hu⟩
      simp only [F_X12_isCome_42b, ↓reduceIte, c1, fin, Option.map_some]
  obtain ⟨r, k1, I', q', l', rfl, k2⟩ := key
  exact ⟨I', q', l', k1, k2⟩
theorem sum1 : ∀ n, sumN (fun _ => 1) n = n
  | 0 => rfl
  | n + 1 => by show sumN (fun _ => 1) n + 1 = n + 1; rw [sum1 n]
theorem come_M {P : Nat → Nat → Option Nat} (hP : GP P) {I : Nat → Nat → Int32} {J : Nat → Nat → Int64} {T : Nat} (hT : T < 51) : ∃ I' q len, F_X12_isCome 164 (nI T) (mm P I J) = some (if I' 175 T = -1 then 0 else 1, mm P I' J) ∧ EndM I I' q len := by
  have key : ∃ r : Int32 × xM, xit (F_X12_isCome_2b 164 (nI T)) xFU (nI 0, mm P I J) = some r ∧ (∃ I' q len, r = (if I' 175 T = -1 then 0 else 1, mm P I' J) ∧ EndM I I' q len) := by
    refine xit_inv (fun j z => ∃ I', z = (nI j, mm P I' J) ∧ (∀ a i, a ≠ 175 → I' a i = I a i) ∧ ∀ u, u < j → I' 175 u = -1) _ 51 ⟨I, rfl, fun _ _ _ => rfl, fun u hu => by omega⟩ (fun j z hj hq => ?_) (fun z hq => ?_) (by omega)
    · obtain ⟨I1, rfl, g1, g2⟩ := hq
      left
      have c1 : ¬ (51 : Int32) ≤ nI j := nI_ge (b := 51) hj (by omega)
      refine ⟨(nI (j + 1), mm P (xu I1 175 j (-1)) J), ?_, _, rfl, fun a i h => by rw [xu_o (by omega), g1 a i h], fun u hu => ?_⟩
      · simp (disch := omega) only [F_X12_isCome_2b, ↓reduceIte, c1, ↓bOM hP, ↓bAM, nI_1]
      · by_cases e : u = j
        · rw [e, xu_self]
        · rw [xu_o (by omega)]; exact g2 u (by omega)
    · obtain ⟨I1, rfl, g1, g2⟩ := hq
      have c1 : (51 : Int32) ≤ nI 51 := by decide
      have r175 : ∀ u, u ≠ 50 → xu (xu I1 175 50 (nI 50)) 176 0 (nI 50) 175 u = I1 175 u := fun u hu => by rw [xu_o (by omega), xu_o (by omega)]
      have s175 : xu (xu I1 175 50 (nI 50)) 176 0 (nI 50) 175 50 = nI 50 := by rw [xu_o (by omega), xu_self]
      have nm : ¬ nI 50 = -1 := nI_nm1 (by omega)
      have qu : QuM (xu (xu I1 175 50 (nI 50)) 176 0 (nI 50)) (fun _ => 50) 1 := by
        refine ⟨by omega, rfl, ?_, fun i hi => ⟨(show 50 < 51 by omega), ?_, by rw [s175]; exact nm⟩, fun i j hi hj _ => by omega, fun u hu hn => ⟨0, by omega, ?_⟩, fun i h0 hi => by omega⟩
        · have v := sumN_upd (f := fun x => if xu (xu I1 175 50 (nI 50)) 176 0 (nI 50) 175 x = -1 then 1 else 0) (g := fun _ => 1) (j := 50) 51 (by omega) (fun p hp hn => by rw [r175 p hn, g2 p hp, if_pos rfl])
          rw [s175, if_neg nm, sum1] at v
          unfold unN
          omega
        · have : i = 0 := by omega
          rw [this, xu_self]
        · apply Classical.byContradiction
          intro z
          exact hn (by rw [r175 u (fun y => z y.symm)]; exact g2 u hu)
      obtain ⟨I2, q2, l2, h1, h2, h3, h4⟩ := come42 hP (J := J) hT qu
      refine ⟨(if I2 175 T = -1 then 0 else 1, mm P I2 J), ?_, I2, q2, l2, rfl, h2, fun a i x1 x2 => by rw [h3 a i x1 x2, xu_o (by omega), xu_o (by omega), g1 a i x1], fun i u hi hu hx => h4 i u hi hu (by rw [xu_o (by omega), xu_o (by omega), g1 _ _ (by omega)]; exact hx)⟩
      have f : F_X12_isCome_21 164 (nI T) (mm P I1 J) = some (if I2 175 T = -1 then 0 else 1, mm P I2 J) := by
        unfold F_X12_isCome_21
        rw [← h1]
        have a1 : ∀ (g : xM → Option (Int32 × xM)), (xsI (mm P I1 J) 175 (50 : Int32) (50 : Int32)).bind g = g (mm P (xu I1 175 50 (nI 50)) J) := fun g => bs (m_sI (n := 51) (by decide +kernel) (by omega) I1 J 50 (nI 50) (by omega)) g
        have a2 : ∀ (g : xM → Option (Int32 × xM)), (xsI (mm P (xu I1 175 50 (nI 50)) J) 176 (0 : Int32) (50 : Int32)).bind g = g (mm P (xu (xu I1 175 50 (nI 50)) 176 0 (nI 50)) J) := fun g => bs (m_sI (n := 51) (by decide +kernel) (by omega) (xu I1 175 50 (nI 50)) J 0 (nI 50) (by omega)) g
        simp only [↓bOM hP, ↓a1, ↓a2]
      simp only [F_X12_isCome_2b, ↓reduceIte, c1, f, Option.map_some]
  obtain ⟨r, k1, I', q', l', rfl, k2⟩ := key
  exact ⟨I', q', l', k1, k2⟩
