/-! ===== term, sum, both, truth ===== -/
theorem term_G {P : Nat → Nat → Option Nat} (hP : GP P) {J : Nat → Nat → Int64} {b : Nat → Nat} {n w : Nat} {wa : Int32} {rc rm : Nat → Nat → Int32 → xM → Option xM} (sub : SimG P J b n wa (rc 0 1 (nI w)) (rm 0 164 (nI w)) (cP (11 + 5 * w + 1) false wa)) : SimG P J b n wa (F_X7_readTerm rc 1 (nI w)) (F_X12_readTerm rm 164 (nI w)) (cP (11 + 5 * w) false wa) := by
  refine (loopG hP (fun k => if k = 36 then some 1002 else none) (fun k o ho => ?_) sub (fb := F_X7_readTerm_7b rc 1 (nI w)) (gb := F_X12_readTerm_5b rm 164 (nI w)) (fun I K j h => ?_) (fun I K f e k L j h ho => ?_) (fun I K f e k L j o h ho hj I1 K1 s1 s2 I2 K2 u1 u2 I3 K3 e1 e2 => ?_)).cg (fun I => ?_) (fun K => ?_)
  · by_cases hk : k = 36
    · rw [if_pos hk] at ho
      have eo : 1002 = o := Option.some.inj ho
      subst eo
      exact ⟨by omega, by decide, fun s => rfl⟩
    · rw [if_neg hk] at ho
      cases ho
  · have h1 := h.2.1
    refine ⟨?_, ?_⟩
    · unfold F_X7_readTerm_7b F_X7_readTerm_55
      by_cases c : (900 : Int32) ≤ nI j
      · simp only [c, ↓reduceIte, Option.map_some]
      · simp only [c, ↓reduceIte, ↓bOR hP, h1, Option.map_some]
    · unfold F_X12_readTerm_5b F_X12_readTerm_29
      simp only [↓bOM hP, ↓bs (eats_Bd hP J h 36), ↓reduceIte, Option.map_some]
  · have hk : ¬ k = 36 := fun z => by
      rw [if_pos z] at ho
      cases ho
    have h1 := h.1.2.2.1
    have t := sign_C hP (J := J) h.1.1 (s := 42) (j := 4) (by omega) (by decide +kernel)
    rw [if_neg (show ¬ k = 32 + 4 by omega)] at t
    have m := eats_no hP J h.1 (w := 36) 36 rfl (by omega) hk
    refine ⟨?_, ?_⟩
    · unfold F_X7_readTerm_7b F_X7_readTerm_55
      by_cases c : (900 : Int32) ≤ nI j
      · simp only [c, ↓reduceIte, Option.map_some]
      · simp only [c, ↓reduceIte, ↓bOR hP, h1, ↓bs t, Option.map_some]
    · unfold F_X12_readTerm_5b F_X12_readTerm_29
      simp only [↓bOM hP, ↓bs m, ↓reduceIte, Option.map_some]
  · have hk : k = 36 := Classical.byContradiction fun z => by
      rw [if_neg z] at ho
      cases ho
    rw [if_pos hk] at ho
    have eo : 1002 = o := Option.some.inj ho
    subst eo
    rw [show trC 1002 = 3002 by decide] at e2
    have h1 := h.1.2.2.1
    have t := sign_C hP (J := J) h.1.1 (s := 42) (j := 4) (by omega) (by decide +kernel)
    rw [if_pos (show k = 32 + 4 by omega)] at t
    have m := eats_yes hP J h.1 (w := 36) 36 rfl (by omega) hk s2
    have c : ¬ (900 : Int32) ≤ nI j := nI_ge (b := 900) hj (by omega)
    refine ⟨?_, ?_⟩
    · unfold F_X7_readTerm_7b
      simp only [c, ↓reduceIte, ↓bOR hP, h1, ↓bs t, one_ne, ↓bs s1, ↓bs u1, ↓bs e1, nI_1]
    · unfold F_X12_readTerm_5b
      simp only [↓bOM hP, ↓bs m, one_ne, ↓reduceIte, ↓bs u2, ↓bs e2]
  · unfold F_X7_readTerm F_X7_readTerm_7
    simp only [↓bOR hP]
  · unfold F_X12_readTerm F_X12_readTerm_5
    simp only [↓bOM hP]
theorem both_G {P : Nat → Nat → Option Nat} (hP : GP P) {J : Nat → Nat → Int64} {b : Nat → Nat} {n w : Nat} {wa : Int32} {rc rm : Nat → Nat → Int32 → xM → Option xM} (sub : SimG P J b n wa (rc 7 1 (nI w)) (rm 6 164 (nI w)) (cP (8 + 5 * w + 1) true wa)) : SimG P J b n wa (F_X7_readBoth rc 1 (nI w)) (F_X12_readBoth rm 164 (nI w)) (cP (8 + 5 * w) true wa) := by
  refine (loopG hP (fun k => if k = 24 then some 1006 else none) (fun k o ho => ?_) sub (fb := F_X7_readBoth_7b rc 1 (nI w)) (gb := F_X12_readBoth_5b rm 164 (nI w)) (fun I K j h => ?_) (fun I K f e k L j h ho => ?_) (fun I K f e k L j o h ho hj I1 K1 s1 s2 I2 K2 u1 u2 I3 K3 e1 e2 => ?_)).cg (fun I => ?_) (fun K => ?_)
  · by_cases hk : k = 24
    · rw [if_pos hk] at ho
      have eo : 1006 = o := Option.some.inj ho
      subst eo
      exact ⟨by omega, by decide, fun s => rfl⟩
    · rw [if_neg hk] at ho
      cases ho
  · have h1 := h.2.1
    refine ⟨?_, ?_⟩
    · unfold F_X7_readBoth_7b F_X7_readBoth_56
      by_cases c : (900 : Int32) ≤ nI j
      · simp only [c, ↓reduceIte, Option.map_some]
      · simp only [c, ↓reduceIte, ↓bOR hP, h1, Option.map_some]
    · unfold F_X12_readBoth_5b F_X12_readBoth_29
      simp only [↓bOM hP, ↓bs (eats_Bd hP J h 24), ↓reduceIte, Option.map_some]
  · have hk : ¬ k = 24 := fun z => by
      rw [if_pos z] at ho
      cases ho
    have h1 := h.1.2.2.1
    have t := word_C hP (J := J) h.1.1 (i := 22) (j := 24) (by omega) rfl
    rw [if_neg (show ¬ k = 24 by omega)] at t
    have m := eats_no hP J h.1 (w := 24) 24 rfl (by omega) hk
    refine ⟨?_, ?_⟩
    · unfold F_X7_readBoth_7b F_X7_readBoth_56
      by_cases c : (900 : Int32) ≤ nI j
      · simp only [c, ↓reduceIte, Option.map_some]
      · simp only [c, ↓reduceIte, ↓bOR hP, h1, ↓bs t, Option.map_some]
    · unfold F_X12_readBoth_5b F_X12_readBoth_29
      simp only [↓bOM hP, ↓bs m, ↓reduceIte, Option.map_some]
  · have hk : k = 24 := Classical.byContradiction fun z => by
      rw [if_neg z] at ho
      cases ho
    rw [if_pos hk] at ho
    have eo : 1006 = o := Option.some.inj ho
    subst eo
    rw [show trC 1006 = 3007 by decide] at e2
    have h1 := h.1.2.2.1
    have t := word_C hP (J := J) h.1.1 (i := 22) (j := 24) (by omega) rfl
    rw [if_pos (show k = 24 by omega)] at t
    have m := eats_yes hP J h.1 (w := 24) 24 rfl (by omega) hk s2
    have c : ¬ (900 : Int32) ≤ nI j := nI_ge (b := 900) hj (by omega)
    refine ⟨?_, ?_⟩
    · unfold F_X7_readBoth_7b
      simp only [c, ↓reduceIte, ↓bOR hP, h1, ↓bs t, one_ne, ↓bs s1, ↓bs u1, ↓bs e1, nI_1]
    · unfold F_X12_readBoth_5b
      simp only [↓bOM hP, ↓bs m, one_ne, ↓reduceIte, ↓bs u2, ↓bs e2]
  · unfold F_X7_readBoth F_X7_readBoth_7
    simp only [↓bOR hP]
  · unfold F_X12_readBoth F_X12_readBoth_5
    simp only [↓bOM hP]
theorem truth_G {P : Nat → Nat → Option Nat} (hP : GP P) {J : Nat → Nat → Int64} {b : Nat → Nat} {n w : Nat} {wa : Int32} {rc rm : Nat → Nat → Int32 → xM → Option xM} (sub : SimG P J b n wa (rc 1 1 (nI w)) (rm 1 164 (nI w)) (cP (7 + 5 * w + 1) true wa)) : SimG P J b n wa (F_X7_readTruth rc 1 (nI w)) (F_X12_readTruth rm 164 (nI w)) (cP (7 + 5 * w) true wa) := by
  refine (loopG hP (fun k => if k = 25 then some 1007 else none) (fun k o ho => ?_) sub (fb := F_X7_readTruth_7b rc 1 (nI w)) (gb := F_X12_readTruth_5b rm 164 (nI w)) (fun I K j h => ?_) (fun I K f e k L j h ho => ?_) (fun I K f e k L j o h ho hj I1 K1 s1 s2 I2 K2 u1 u2 I3 K3 e1 e2 => ?_)).cg (fun I => ?_) (fun K => ?_)
  · by_cases hk : k = 25
    · rw [if_pos hk] at ho
      have eo : 1007 = o := Option.some.inj ho
      subst eo
      exact ⟨by omega, by decide, fun s => rfl⟩
    · rw [if_neg hk] at ho
      cases ho
  · have h1 := h.2.1
    refine ⟨?_, ?_⟩
    · unfold F_X7_readTruth_7b F_X7_readTruth_56
      by_cases c : (900 : Int32) ≤ nI j
      · simp only [c, ↓reduceIte, Option.map_some]
      · simp only [c, ↓reduceIte, ↓bOR hP, h1, Option.map_some]
    · unfold F_X12_readTruth_5b F_X12_readTruth_29
      simp only [↓bOM hP, ↓bs (eats_Bd hP J h 25), ↓reduceIte, Option.map_some]
  · have hk : ¬ k = 25 := fun z => by
      rw [if_pos z] at ho
      cases ho
    have h1 := h.1.2.2.1
    have t := word_C hP (J := J) h.1.1 (i := 23) (j := 25) (by omega) rfl
    rw [if_neg (show ¬ k = 25 by omega)] at t
    have m := eats_no hP J h.1 (w := 25) 25 rfl (by omega) hk
    refine ⟨?_, ?_⟩
    · unfold F_X7_readTruth_7b F_X7_readTruth_56
      by_cases c : (900 : Int32) ≤ nI j
      · simp only [c, ↓reduceIte, Option.map_some]
      · simp only [c, ↓reduceIte, ↓bOR hP, h1, ↓bs t, Option.map_some]
    · unfold F_X12_readTruth_5b F_X12_readTruth_29
      simp only [↓bOM hP, ↓bs m, ↓reduceIte, Option.map_some]
  · have hk : k = 25 := Classical.byContradiction fun z => by
      rw [if_neg z] at ho
      cases ho
    rw [if_pos hk] at ho
    have eo : 1007 = o := Option.some.inj ho
    subst eo
    rw [show trC 1007 = 3008 by decide] at e2
    have h1 := h.1.2.2.1
    have t := word_C hP (J := J) h.1.1 (i := 23) (j := 25) (by omega) rfl
    rw [if_pos (show k = 25 by omega)] at t
    have m := eats_yes hP J h.1 (w := 25) 25 rfl (by omega) hk s2
    have c : ¬ (900 : Int32) ≤ nI j := nI_ge (b := 900) hj (by omega)
    refine ⟨?_, ?_⟩
    · unfold F_X7_readTruth_7b
      simp only [c, ↓reduceIte, ↓bOR hP, h1, ↓bs t, one_ne, ↓bs s1, ↓bs u1, ↓bs e1, nI_1]
    · unfold F_X12_readTruth_5b
      simp only [↓bOM hP, ↓bs m, one_ne, ↓reduceIte, ↓bs u2, ↓bs e2]
  · unfold F_X7_readTruth F_X7_readTruth_7
    simp only [↓bOR hP]
  · unfold F_X12_readTruth F_X12_readTruth_5
    simp only [↓bOM hP]
theorem sum_G {P : Nat → Nat → Option Nat} (hP : GP P) {J : Nat → Nat → Int64} {b : Nat → Nat} {n w : Nat} {wa : Int32} {rc rm : Nat → Nat → Int32 → xM → Option xM} (sub : SimG P J b n wa (rc 5 1 (nI w)) (rm 4 164 (nI w)) (cP (10 + 5 * w + 1) false wa)) : SimG P J b n wa (F_X7_readSum rc 1 (nI w)) (F_X12_readSum rm 164 (nI w)) (cP (10 + 5 * w) false wa) := by
  refine (loopG hP (fun k => if k = 34 then some 1000 else if k = 35 then some 1001 else none) (fun k o ho => ?_) sub (fb := F_X7_readSum_7b rc 1 (nI w)) (gb := F_X12_readSum_5b rm 164 (nI w)) (fun I K j h => ?_) (fun I K f e k L j h ho => ?_) (fun I K f e k L j o h ho hj I1 K1 s1 s2 I2 K2 u1 u2 I3 K3 e1 e2 => ?_)).cg (fun I => ?_) (fun K => ?_)
  · by_cases hk : k = 34
    · rw [if_pos hk] at ho
      have eo : 1000 = o := Option.some.inj ho
      subst eo
      exact ⟨by omega, by decide, fun s => rfl⟩
    · rw [if_neg hk] at ho
      by_cases hk2 : k = 35
      · rw [if_pos hk2] at ho
        have eo : 1001 = o := Option.some.inj ho
        subst eo
        exact ⟨by omega, by decide, fun s => rfl⟩
      · rw [if_neg hk2] at ho
        cases ho
  · have h1 := h.2.1
    refine ⟨?_, ?_⟩
    · unfold F_X7_readSum_7b F_X7_readSum_81
      by_cases c : (900 : Int32) ≤ nI j
      · simp only [c, ↓reduceIte, Option.map_some]
      · simp only [c, ↓reduceIte, ↓bOR hP, h1, Option.map_some]
    · unfold F_X12_readSum_5b F_X12_readSum_59
      simp only [↓bOM hP, ↓bs (is_Bd hP J h 34), ↓bs (is_Bd hP J h 35), ↓reduceIte, Option.map_some]
  · have hk : ¬ k = 34 := fun z => by
      rw [if_pos z] at ho
      cases ho
    rw [if_neg hk] at ho
    have hk2 : ¬ k = 35 := fun z => by
      rw [if_pos z] at ho
      cases ho
    have h1 := h.1.2.2.1
    have t1 := sign_C hP (J := J) h.1.1 (s := 43) (j := 2) (by omega) (by decide +kernel)
    have t2 := sign_C hP (J := J) h.1.1 (s := 45) (j := 3) (by omega) (by decide +kernel)
    rw [if_neg (show ¬ k = 32 + 2 by omega)] at t1
    rw [if_neg (show ¬ k = 32 + 3 by omega)] at t2
    have m1 := is_M hP J h.1 (w := 34) 34 rfl (by omega)
    have m2 := is_M hP J h.1 (w := 35) 35 rfl (by omega)
    rw [if_neg hk] at m1
    rw [if_neg hk2] at m2
    refine ⟨?_, ?_⟩
    · unfold F_X7_readSum_7b F_X7_readSum_81
      by_cases c : (900 : Int32) ≤ nI j
      · simp only [c, ↓reduceIte, Option.map_some]
      · simp only [c, ↓reduceIte, ↓bOR hP, h1, ↓bs t1, ↓bs t2, Option.map_some]
    · unfold F_X12_readSum_5b F_X12_readSum_59
      simp only [↓bOM hP, ↓bs m1, ↓bs m2, ↓reduceIte, Option.map_some]
  · have h1 := h.1.2.2.1
    have k9 := h.1.2.1.2.2.2.2.2.1
    have t1 := sign_C hP (J := J) h.1.1 (s := 43) (j := 2) (by omega) (by decide +kernel)
    have t2 := sign_C hP (J := J) h.1.1 (s := 45) (j := 3) (by omega) (by decide +kernel)
    have m1 := is_M hP J h.1 (w := 34) 34 rfl (by omega)
    have m2 := is_M hP J h.1 (w := 35) 35 rfl (by omega)
    have c : ¬ (900 : Int32) ≤ nI j := nI_ge (b := 900) hj (by omega)
    by_cases hk : k = 34
    · rw [if_pos hk] at ho
      have eo : 1000 = o := Option.some.inj ho
      subst eo
      rw [show trC 1000 = 3000 by decide] at e2
      rw [if_pos (show k = 32 + 2 by omega)] at t1
      rw [if_pos hk] at m1
      have d : K 164 9 = (34 : Int32) := by rw [k9, hk]; rfl
      refine ⟨?_, ?_⟩
      · unfold F_X7_readSum_7b F_X7_readSum_39 F_X7_readSum_57
        simp only [c, ↓reduceIte, ↓bOR hP, h1, ↓bs t1, one_ne, ↓bs s1, ↓bs u1, ↓bs e1, nI_1]
      · unfold F_X12_readSum_5b F_X12_readSum_23 F_X12_readSum_41
        simp only [↓bOM hP, ↓bs m1, one_ne, ↓reduceIte, d, ↓bs s2, ↓bs u2, ↓bs e2]
    · rw [if_neg hk] at ho
      have hk2 : k = 35 := Classical.byContradiction fun z => by
        rw [if_neg z] at ho
        cases ho
      rw [if_pos hk2] at ho
      have eo : 1001 = o := Option.some.inj ho
      subst eo
      rw [show trC 1001 = 3001 by decide] at e2
      rw [if_neg (show ¬ k = 32 + 2 by omega)] at t1
      rw [if_pos (show k = 32 + 3 by omega)] at t2
      rw [if_neg hk] at m1
      rw [if_pos hk2] at m2
      have d : ¬ K 164 9 = (34 : Int32) := by rw [k9, hk2]; decide
      refine ⟨?_, ?_⟩
      · unfold F_X7_readSum_7b F_X7_readSum_39 F_X7_readSum_57
        simp only [c, ↓reduceIte, ↓bOR hP, h1, ↓bs t1, ↓bs t2, one_ne, ↓bs s1, ↓bs u1, ↓bs e1, nI_1]
      · unfold F_X12_readSum_5b F_X12_readSum_23 F_X12_readSum_41
        simp only [↓bOM hP, ↓bs m1, ↓bs m2, one_ne, ↓reduceIte, d, ↓bs s2, ↓bs u2, ↓bs e2]
  · unfold F_X7_readSum F_X7_readSum_7
    simp only [↓bOR hP]
  · unfold F_X12_readSum F_X12_readSum_5
    simp only [↓bOM hP]
