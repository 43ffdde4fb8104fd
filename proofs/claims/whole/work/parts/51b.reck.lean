theorem reck_M {P : Nat → Nat → Option Nat} (hP : GP P) {I : Nat → Nat → Int32} {J : Nat → Nat → Int64} {w : Nat → Int32} {l : List Int32} {lw f e : Nat} (hlw : lw < 2) (hl : kindRun l [] = some [false]) (hc : codeAt (fun i => I 165 (520 + i)) f e (l.map trC)) (he : e ≤ 900) (h11 : I 165 (11 + lw) = nI l.length) (h9 : I 165 (9 + lw) = nI f) (hw : ∀ i, i < 6 → I 170 i = w i) :
    ∃ I', F_X12_reckons 164 (nI lw) (mm P I J) = some (lawS w l, mm P I' J) ∧ ∀ k i, k ≠ 169 → I' k i = I k i := by
  have hce := hc.1
  rw [List.length_map] at hce
  have l11 : (11 : Int32) + nI lw = nI (11 + lw) := nI_add 11 lw
  have key : ∃ r : Int32 × xM, xit (F_X12_reckons_4b 164 (nI lw)) xFU (nI 0, nI 0, mm P I J) = some r ∧ (∃ I', r = (lawS w l, mm P I' J) ∧ ∀ k i, k ≠ 169 → I' k i = I k i) := by
    refine xit_inv (fun j s => ∃ I', s = (nI (runS w (l.take j)).length, nI j, mm P I' J) ∧ (∀ k i, k ≠ 169 → I' k i = I k i) ∧ Stk (I' 169) (runS w (l.take j))) _ l.length ⟨I, rfl, fun _ _ _ => rfl, trivial⟩ (fun j s hj hq => ?_) (fun s hq => ?_) (by omega)
    · obtain ⟨I1, rfl, q1, q2⟩ := hq
      have ho : l[j]? = some l[j] := List.getElem?_eq_getElem hj
      obtain ⟨k1, k2, a1, a2, a3⟩ := kind_step hl ho
      have ok := okS_run (w := w) hl j k1 a1
      have ln := okS_len _ _ ok
      have dp := kind_len hl j k1 a1
      have cc : I 165 (520 + (f + j)) = trC l[j] := hc.2 j _ (by rw [List.getElem?_map, ho]; rfl)
      obtain ⟨I2, b1, b2, b3⟩ := reck_step hP (I := I1) (J := J) (w := w) (x := j) (n := l.length) (f := f) hlw a2 ok q2 (by omega) hj (by omega) (by omega) (by rw [q1 165 _ (by omega)]; exact h11) (by rw [q1 165 _ (by omega)]; exact h9) (by rw [q1 165 _ (by omega), Nat.add_assoc]; exact cc) (fun i hi => by rw [q1 170 i (by omega)]; exact hw i hi)
      refine Or.inl ⟨_, b1, I2, ?_, fun k i h => (b2 k i h).trans (q1 k i h), ?_⟩
      · rw [run_step ho]
      · rw [run_step ho]; exact b3
    · obtain ⟨I1, rfl, q1, q2⟩ := hq
      rw [List.take_of_length_le (Nat.le_refl _)] at q2 ⊢
      have ok := okS_run (w := w) hl l.length [false] (by rw [List.take_of_length_le (Nat.le_refl _)]; exact hl)
      rw [List.take_of_length_le (Nat.le_refl _)] at ok
      obtain ⟨v, r, hr, -, hr2⟩ := okS_1 ok
      have hr3 : r = [] := List.eq_nil_of_length_eq_zero (okS_len _ _ hr2)
      subst hr3
      have hv : I1 169 0 = v := by rw [hr] at q2; exact q2.1
      have h1 : I1 165 (11 + lw) = nI l.length := by rw [q1 165 _ (by omega)]; exact h11
      refine ⟨(v, mm P I1 J), ?_, I1, ?_, q1⟩
      · unfold F_X12_reckons_4b F_X12_reckons_199
        have hle : nI l.length ≤ nI l.length := nI_le (Nat.le_refl l.length) (by omega)
        simp only [l11, show (0 : Int32) = nI 0 from rfl]
        simp (disch := omega) only [↓bOM hP, ↓bAM, h1, ↓reduceIte, hle, hv, Option.map_some]
      · unfold lawS
        rw [hr]
        rfl
  obtain ⟨r, h1, I', rfl, h2⟩ := key
  refine ⟨I', ?_, h2⟩
  unfold F_X12_reckons F_X12_reckons_4
  rw [show (0 : Int32) = nI 0 from rfl]
  exact h1
