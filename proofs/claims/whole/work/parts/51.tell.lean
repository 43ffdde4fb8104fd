theorem m_al {P : Nat → Nat → Option Nat} {k t n : Nat} (hs : SH[k]? = some (t, n)) (I : Nat → Nat → Int32) (J : Nat → Nat → Int64) : xal (mm P I J) t k = some (nI n) := by
  unfold xal xln
  rw [show (mm P I J).1 = SH from rfl, hs]
  dsimp only
  rw [if_pos rfl]
  rfl
theorem joinedC (o : Int32) (a b : Int64) (M : xM) : F_X4_joined o a b M = some (joinS o a b, M) := by
  unfold F_X4_joined joinS
  repeat' split
  all_goals first | rfl | contradiction
theorem minL (a b : Int64) (M : xM) : F_J9_min_f86c9 a b M = some (if 0 < lg_cmp a b then b else a, M) := by
  unfold F_J9_min_f86c9
  split <;> rfl
theorem maxL (a b : Int64) (M : xM) : F_J9_max_f86c9 a b M = some (if lg_cmp a b < 0 then b else a, M) := by
  unfold F_J9_max_f86c9
  split <;> rfl
/-- a step of the class' law -/
theorem tell_step {P : Nat → Nat → Option Nat} (hP : GP P) {I : Nat → Nat → Int32} {J : Nat → Nat → Int64} {w : Nat → Int32} {o : Int32} {ks ks' : List Bool} {s : List Int32} {x e : Nat} (hk : kindStep o ks = some ks') (hs : okS ks s) (hS : Stk (I 32) s) (hl : s.length < 90) (hx : x < e) (he : e ≤ 900) (hc : I 20 x = o) (hw : ∀ i, i < 6 → I 31 i = w i) :
    ∃ I', F_X4_tell_6b 30 20 (nI e) (nI s.length, nI x, mm P I J) = some (.inl (nI (stepS w o s).length, nI (x + 1), mm P I' J)) ∧ (∀ k i, k ≠ 32 → I' k i = I k i) ∧ Stk (I' 32) (stepS w o s) := by
  have c1 : ¬ nI e ≤ nI x := nI_ge hx (by omega)
  have c2 : ¬ nI 900 ≤ nI x := nI_ge (by omega) (by omega)
  have c3 : ¬ (100 : Int32) ≤ nI s.length := nI_ge (b := 100) (by omega) (by omega)
  have al := m_al (P := P) (k := 20) (t := 20) (n := 900) (by decide +kernel) I J
  have ln := okS_len ks s hs
  have bin : ∀ (b a : Int32) (r : List Int32), s = b :: a :: r → (o = 1000 ∨ o = 1001 ∨ o = 1002 ∨ o = 1003 ∨ o = 1004 ∨ o = 1005 ∨ o = 1006 ∨ o = 1007) → ∃ I', F_X4_tell_6b 30 20 (nI e) (nI s.length, nI x, mm P I J) = some (.inl (nI (stepS w o s).length, nI (x + 1), mm P I' J)) ∧ (∀ k i, k ≠ 32 → I' k i = I k i) ∧ Stk (I' 32) (stepS w o s) := by
    intro b a r hr ho
    subst hr
    have q : 1000 ≤ o ∧ o < 1010 ∧ ¬ o = 1008 ∧ ¬ o = 1009 := by
      rcases ho with rfl | rfl | rfl | rfl | rfl | rfl | rfl | rfl <;> decide
    rw [step_op ho]
    rw [List.length_cons, List.length_cons] at hl c3
    rw [List.length_cons, List.length_cons, List.length_cons]
    have c4 : ¬ nI (r.length + 1 + 1) ≤ (1 : Int32) := nI_ge (a := 1) (by omega) (by omega)
    have v1 : I 32 (r.length + 1) = b := hS.1
    have v2 : I 32 r.length = a := hS.2.1
    refine ⟨xu I 32 r.length (opS o a b), ?_, fun k i h => xu_o (by omega), Stk_put hS.2.2⟩
    simp (disch := omega) only [F_X4_tell_6b, ↓reduceIte, c1, ↓bs al, c2, c3, ↓bAC, ↓bOC hP, hc, q.1, q.2.1, q.2.2.1]
    unfold F_X4_tell_138 F_X4_tell_198 F_X4_tell_256
    simp only [nI_m1, nI_dn1, nI_1]
    simp (disch := omega) only [↓reduceIte, q.2.2.2, c4, ↓bAC, ↓bOC hP, v1, v2, ↓bs (joinedC _ _ _ _), ↓bs (minL _ _ _), ↓bs (maxL _ _ _)]
    rfl
  rcases kind_cases hk with ⟨⟨h0, h1⟩, h2, rfl⟩ | ⟨⟨h0, h1⟩, h2, rfl⟩ | ⟨h0, r, rfl, rfl⟩ | ⟨h0, r, rfl, rfl⟩ | ⟨h0, r, rfl, rfl⟩ | ⟨rfl, r, rfl, rfl⟩ | ⟨rfl, r, rfl, rfl⟩
  · have c4 : ¬ (1000 : Int32) ≤ o := Int32.not_le.mpr h1
    have st : stepS w o s = o :: s := if_pos h1
    rw [st]
    refine ⟨xu I 32 s.length o, ?_, fun k i h => xu_o (by omega), Stk_put hS⟩
    simp (disch := omega) only [F_X4_tell_6b, F_X4_tell_256, ↓reduceIte, c1, ↓bs al, c2, c3, c4, ↓bAC, ↓bOC hP, hc, nI_1, List.length_cons]
  · have e1 : (1016 : Int32).toInt = 1016 := by decide
    have e2 : (1010 : Int32).toInt = 1010 := by decide
    have b1 := Int32.le_iff_toInt_le.mp h0
    have b2 := Int32.lt_iff_toInt_lt.mp h1
    obtain ⟨y, hy, rfl⟩ := cell_of (a := o) (n := 1016) (by omega) (by omega)
    rw [nI_toInt (by omega)] at b1
    obtain ⟨z, rfl⟩ : ∃ z, y = 1010 + z := ⟨y - 1010, by omega⟩
    have c4 : (1000 : Int32) ≤ nI (1010 + z) := nI_le (a := 1000) (by omega) (by omega)
    have c5 : ¬ nI (1010 + z) < (1010 : Int32) := nI_nlt (b := 1010) (by omega) (by omega)
    have c6 : nI (1010 + z) - (1010 : Int32) = nI z := by
      have h := pk_sub (a := 1010 + z) (b := 1010) (by omega)
      rw [show 1010 + z - 1010 = z by omega] at h
      exact h
    have c7 : ¬ (6 : Int32) ≤ nI z := nI_ge (b := 6) (by omega) (by omega)
    have st : stepS w (nI (1010 + z)) s = w z :: s := by
      unfold stepS
      rw [if_neg (show ¬ nI (1010 + z) < (1000 : Int32) from nI_nlt (b := 1000) (a := 1010 + z) (by omega) (by omega)), if_pos h0, c6, nI_clamp (by omega)]
    have wz := hw z (by omega)
    rw [st]
    refine ⟨xu I 32 s.length (w z), ?_, fun k i h => xu_o (by omega), Stk_put hS⟩
    simp (disch := omega) only [F_X4_tell_6b, ↓reduceIte, c1, ↓bs al, c2, c3, ↓bAC, ↓bOC hP, hc]
    simp only [c6]
    simp (disch := omega) only [F_X4_tell_98, F_X4_tell_256, ↓reduceIte, c4, c5, c7, ↓bAC, ↓bOC hP, nI_1, wz, List.length_cons]
  · obtain ⟨b, a, q, hq, -, -, h3⟩ := okS_2 hs
    exact bin b a q hq (by rcases h0 with h | h | h <;> simp [h])
  · obtain ⟨b, a, q, hq, -, -, h3⟩ := okS_2 hs
    exact bin b a q hq (by rcases h0 with h | h | h <;> simp [h])
  · obtain ⟨b, a, q, hq, h1, h2, h3⟩ := okS_2 hs
    exact bin b a q hq (by rcases h0 with h | h <;> simp [h])
  · obtain ⟨b, q, rfl, h1, h3⟩ := okS_1 hs
    rw [show stepS w 1008 (b :: q) = (1 - b) :: q from rfl]
    rw [List.length_cons] at hl c3
    rw [List.length_cons, List.length_cons]
    have c4 : ¬ nI (q.length + 1) ≤ 0 := nI_ge (a := 0) (by omega) (by omega)
    have v1 : I 32 q.length = b := hS.1
    refine ⟨xu I 32 q.length (1 - b), ?_, fun k i h => xu_o (by omega), Stk_put hS.2⟩
    unfold F_X4_tell_6b
    simp only [nI_dn1]
    simp (disch := omega) only [F_X4_tell_256, ↓reduceIte, c1, ↓bs al, c2, c3, c4, ↓bAC, ↓bOC hP, hc, show (1000 : Int32) ≤ 1008 by decide, show (1008 : Int32) < 1010 by decide, nI_1, v1]
  · obtain ⟨e', d, q, rfl, -, -, h3⟩ := okS_2 hs
    obtain ⟨b, q', rfl, h1, h4⟩ := okS_1 h3
    rw [show stepS w 1009 (e' :: d :: b :: q') = (if b = 0 then e' else d) :: q' from rfl]
    rw [List.length_cons, List.length_cons, List.length_cons] at hl c3
    rw [List.length_cons, List.length_cons, List.length_cons, List.length_cons]
    have c4 : ¬ nI (q'.length + 1 + 1 + 1) ≤ (2 : Int32) := nI_ge (a := 2) (by omega) (by omega)
    have v1 : I 32 (q'.length + 1 + 1) = e' := hS.1
    have v2 : I 32 (q'.length + 1) = d := hS.2.1
    have v3 : I 32 q'.length = b := hS.2.2.1
    refine ⟨xu I 32 q'.length (if b = 0 then e' else d), ?_, fun k i h => xu_o (by omega), Stk_put hS.2.2.2⟩
    by_cases hb : b = 0
    · simp (disch := omega) only [F_X4_tell_6b, ↓reduceIte, c1, ↓bs al, c2, c3, ↓bAC, ↓bOC hP, hc, show (1000 : Int32) ≤ 1009 by decide, show (1009 : Int32) < 1010 by decide, show ¬ (1009 : Int32) = 1008 by decide]
      unfold F_X4_tell_138
      simp only [nI_m2, nI_dn1, nI_1]
      simp (disch := omega) only [F_X4_tell_194, F_X4_tell_256, ↓reduceIte, c4, ↓bAC, ↓bOC hP, nI_1, v1, v2, v3, hb]
    · simp (disch := omega) only [F_X4_tell_6b, ↓reduceIte, c1, ↓bs al, c2, c3, ↓bAC, ↓bOC hP, hc, show (1000 : Int32) ≤ 1009 by decide, show (1009 : Int32) < 1010 by decide, show ¬ (1009 : Int32) = 1008 by decide]
      unfold F_X4_tell_138
      simp only [nI_m2, nI_dn1, nI_1]
      simp (disch := omega) only [F_X4_tell_194, F_X4_tell_256, ↓reduceIte, c4, ↓bAC, ↓bOC hP, nI_1, v1, v2, v3, hb]
/-! ===== a step of the model's law ===== -/
theorem clipM (v : Int64) (M : xM) : F_X12_between_116 v M = some (clip v, M) := by
  unfold F_X12_between_116 clip
  simp only [lg_cmp_lt, lg_cmp_gt, lg_cmp_le, lg_cmp_ge, Int64.lt_iff_toInt_lt, Int64.le_iff_toInt_le]
  have e1 : (1000000 : Int64).toInt = 1000000 := by decide
  have e2 : (-1000000 : Int64).toInt = -1000000 := by decide
  rw [e1, e2]
  by_cases h1 : v.toInt ≤ 1000000
  · rw [if_pos h1]
    by_cases h2 : -1000000 ≤ v.toInt
    · rw [if_pos h2]
      by_cases h3 : v.toInt < 1000000
      · rw [if_pos h3]
        by_cases h4 : -1000000 < v.toInt
        · rw [if_pos h4]
        · rw [if_neg h4]
          have : v = -1000000 := Int64.toInt_inj.mp (by rw [e2]; omega)
          rw [this]
      · rw [if_neg h3]
        have : v = 1000000 := Int64.toInt_inj.mp (by rw [e1]; omega)
        rw [this]
        rfl
    · rw [if_neg h2, if_pos (show v.toInt < 1000000 by omega), if_neg (show ¬ -1000000 < v.toInt by omega)]
  · rw [if_neg h1, if_neg (show ¬ v.toInt < 1000000 by omega)]
    rfl
theorem toInt64_le (a b : Int32) : a.toInt64 ≤ b.toInt64 ↔ a ≤ b := by
  rw [Int64.le_iff_toInt_le, Int32.le_iff_toInt_le, Int32.toInt_toInt64, Int32.toInt_toInt64]
theorem toInt64_eq (a b : Int32) : a.toInt64 = b.toInt64 ↔ a = b := by
  rw [← Int64.toInt_inj, ← Int32.toInt_inj, Int32.toInt_toInt64, Int32.toInt_toInt64]
theorem betweenM {o a b : Int32} (ho : o = 1000 ∨ o = 1001 ∨ o = 1002 ∨ o = 1003 ∨ o = 1004 ∨ o = 1005 ∨ ((o = 1006 ∨ o = 1007) ∧ (a = 0 ∨ a = 1) ∧ (b = 0 ∨ b = 1))) (M : xM) : F_X12_between (trC o) a b M = some (opS o a b, M) := by
  have c0 : clip 0 = 0 := by decide
  have c1 : clip 1 = 1 := by decide
  rcases ho with rfl | rfl | rfl | rfl | rfl | rfl | ⟨rfl | rfl, ha, hb⟩
  · show F_X12_between_116 (a.toInt64 + b.toInt64) M = _
    exact clipM _ M
  · show F_X12_between_116 (a.toInt64 - b.toInt64) M = _
    exact clipM _ M
  · show F_X12_between_116 (a.toInt64 * b.toInt64) M = _
    exact clipM _ M
  · show (if a = b then some ((1 : Int32), M) else some (0, M)) = some (clip (if lg_cmp a.toInt64 b.toInt64 = 0 then 1 else 0), M)
    simp only [lg_cmp_eq, toInt64_eq]
    split
    · rw [c1]
    · rw [c0]
  · show (if b ≤ a then some ((0 : Int32), M) else some (1, M)) = some (clip (if 0 ≤ lg_cmp a.toInt64 b.toInt64 then 0 else 1), M)
    simp only [lg_cmp_ge, toInt64_le]
    split
    · rw [c0]
    · rw [c1]
  · show (if a ≤ b then some ((0 : Int32), M) else some (1, M)) = some (clip (if lg_cmp a.toInt64 b.toInt64 ≤ 0 then 0 else 1), M)
    simp only [lg_cmp_le, toInt64_le]
    split
    · rw [c0]
    · rw [c1]
  · show some (a &&& b, M) = _
    rw [(op_log 1006 (Or.inl rfl) a b ha hb).2]
    rfl
  · show some (a ||| b, M) = _
    rw [(op_log 1007 (Or.inr rfl) a b ha hb).2]
    rfl
theorem reck_step {P : Nat → Nat → Option Nat} (hP : GP P) {I : Nat → Nat → Int32} {J : Nat → Nat → Int64} {w : Nat → Int32} {o : Int32} {ks ks' : List Bool} {s : List Int32} {lw x n f : Nat} (hlw : lw < 2) (hk : kindStep o ks = some ks') (hs : okS ks s) (hS : Stk (I 169) s) (hl : s.length < 90) (hx : x < n) (hn : n ≤ 900) (hf : f + n ≤ 900) (h11 : I 165 (11 + lw) = nI n) (h9 : I 165 (9 + lw) = nI f) (hc : I 165 (520 + f + x) = trC o) (hw : ∀ i, i < 6 → I 170 i = w i) :
    ∃ I', F_X12_reckons_4b 164 (nI lw) (nI s.length, nI x, mm P I J) = some (.inl (nI (stepS w o s).length, nI (x + 1), mm P I' J)) ∧ (∀ k i, k ≠ 169 → I' k i = I k i) ∧ Stk (I' 169) (stepS w o s) := by
  have c1 : ¬ nI n ≤ nI x := nI_ge hx (by omega)
  have ln := okS_len ks s hs
  have l11 : (11 : Int32) + nI lw = nI (11 + lw) := nI_add 11 lw
  have l9 : (9 : Int32) + nI lw = nI (9 + lw) := nI_add 9 lw
  have l520 : (520 : Int32) + nI f + nI x = nI (520 + f + x) := by rw [show (520 : Int32) = nI 520 from rfl, nI_add, nI_add]
  have bin : ∀ (b a : Int32) (r : List Int32), s = b :: a :: r → (o = 1000 ∨ o = 1001 ∨ o = 1002 ∨ o = 1003 ∨ o = 1004 ∨ o = 1005 ∨ ((o = 1006 ∨ o = 1007) ∧ (a = 0 ∨ a = 1) ∧ (b = 0 ∨ b = 1))) → ∃ I', F_X12_reckons_4b 164 (nI lw) (nI s.length, nI x, mm P I J) = some (.inl (nI (stepS w o s).length, nI (x + 1), mm P I' J)) ∧ (∀ k i, k ≠ 169 → I' k i = I k i) ∧ Stk (I' 169) (stepS w o s) := by
    intro b a r hr ho
    subst hr
    have q : 3000 ≤ trC o ∧ ¬ trC o = 3006 ∧ ¬ trC o = 3009 := by
      rcases ho with rfl | rfl | rfl | rfl | rfl | rfl | ⟨rfl | rfl, -⟩ <;> decide
    rw [step_op (by rcases ho with h | h | h | h | h | h | ⟨h | h, -⟩ <;> simp [h])]
    rw [List.length_cons, List.length_cons] at hl
    rw [List.length_cons, List.length_cons, List.length_cons]
    have v1 : I 169 (r.length + 1) = b := hS.1
    have v2 : I 169 r.length = a := hS.2.1
    refine ⟨xu I 169 r.length (opS o a b), ?_, fun k i h => xu_o (by omega), Stk_put hS.2.2⟩
    unfold F_X12_reckons_4b
    simp only [l11, l9, nI_m1, nI_dn1]
    simp (disch := omega) only [↓bOM hP, ↓bAM, h11, ↓reduceIte, c1, h9]
    simp only [l520]
    simp (disch := omega) only [F_X12_reckons_193, ↓bOM hP, ↓bAM, hc, ↓reduceIte, q.1, q.2.1, q.2.2, nI_1, v1, v2, ↓bs (betweenM ho _)]
  rcases kind_cases hk with ⟨⟨h0, h1⟩, h2, rfl⟩ | ⟨⟨h0, h1⟩, h2, rfl⟩ | ⟨h0, r, rfl, rfl⟩ | ⟨h0, r, rfl, rfl⟩ | ⟨h0, r, rfl, rfl⟩ | ⟨rfl, r, rfl, rfl⟩ | ⟨rfl, r, rfl, rfl⟩
  · have c4 : ¬ (1000 : Int32) ≤ o := Int32.not_le.mpr h1
    have c5 : ¬ (3000 : Int32) ≤ o := fun z => by
      have a := Int32.le_iff_toInt_le.mp z
      have b := Int32.lt_iff_toInt_lt.mp h1
      have e1 : (1000 : Int32).toInt = 1000 := by decide
      have e2 : (3000 : Int32).toInt = 3000 := by decide
      omega
    have tr : trC o = o := if_pos h1
    have st : stepS w o s = o :: s := if_pos h1
    rw [tr] at hc
    rw [st]
    refine ⟨xu I 169 s.length o, ?_, fun k i h => xu_o (by omega), Stk_put hS⟩
    unfold F_X12_reckons_4b
    simp only [l11, l9]
    simp (disch := omega) only [↓bOM hP, ↓bAM, h11, ↓reduceIte, c1, h9]
    simp only [l520]
    simp (disch := omega) only [F_X12_reckons_76, F_X12_reckons_193, ↓bOM hP, ↓bAM, hc, ↓reduceIte, c4, c5, nI_1, List.length_cons]
  · have e1 : (1016 : Int32).toInt = 1016 := by decide
    have e2 : (1010 : Int32).toInt = 1010 := by decide
    have b1 := Int32.le_iff_toInt_le.mp h0
    have b2 := Int32.lt_iff_toInt_lt.mp h1
    obtain ⟨y, hy, rfl⟩ := cell_of (a := o) (n := 1016) (by omega) (by omega)
    rw [nI_toInt (by omega)] at b1
    obtain ⟨z, rfl⟩ : ∃ z, y = 1010 + z := ⟨y - 1010, by omega⟩
    have tr : trC (nI (1010 + z)) = nI (1000 + z) := by
      unfold trC
      rw [if_neg (show ¬ nI (1010 + z) < (1000 : Int32) from nI_nlt (b := 1000) (a := 1010 + z) (by omega) (by omega)), if_pos h0]
      have h := pk_sub (a := 1010 + z) (b := 10) (by omega)
      rw [show 1010 + z - 10 = 1000 + z by omega] at h
      exact h
    have c4 : (1000 : Int32) ≤ nI (1000 + z) := nI_le (a := 1000) (by omega) (by omega)
    have c5 : ¬ (3000 : Int32) ≤ nI (1000 + z) := nI_ge (b := 3000) (by omega) (by omega)
    have c6 : nI (1010 + z) - (1010 : Int32) = nI z := by
      have h := pk_sub (a := 1010 + z) (b := 1010) (by omega)
      rw [show 1010 + z - 1010 = z by omega] at h
      exact h
    have c7 : nI (1000 + z) - (1000 : Int32) = nI z := by
      have h := pk_sub (a := 1000 + z) (b := 1000) (by omega)
      rw [show 1000 + z - 1000 = z by omega] at h
      exact h
    have st : stepS w (nI (1010 + z)) s = w z :: s := by
      unfold stepS
      rw [if_neg (show ¬ nI (1010 + z) < (1000 : Int32) from nI_nlt (b := 1000) (a := 1010 + z) (by omega) (by omega)), if_pos h0, c6, nI_clamp (by omega)]
    have wz := hw z (by omega)
    rw [tr] at hc
    rw [st]
    refine ⟨xu I 169 s.length (w z), ?_, fun k i h => xu_o (by omega), Stk_put hS⟩
    unfold F_X12_reckons_4b
    simp only [l11, l9]
    simp (disch := omega) only [↓bOM hP, ↓bAM, h11, ↓reduceIte, c1, h9]
    simp only [l520]
    simp (disch := omega) only [↓bOM hP, ↓bAM, hc]
    simp only [c7]
    simp (disch := omega) only [F_X12_reckons_76, F_X12_reckons_193, ↓bOM hP, ↓bAM, ↓reduceIte, c4, c5, wz, nI_1, List.length_cons]
  · obtain ⟨b, a, q, hq, -, -, h3⟩ := okS_2 hs
    exact bin b a q hq (by rcases h0 with h | h | h <;> simp [h])
  · obtain ⟨b, a, q, hq, -, -, h3⟩ := okS_2 hs
    exact bin b a q hq (by rcases h0 with h | h | h <;> simp [h])
  · obtain ⟨b, a, q, hq, h1, h2, h3⟩ := okS_2 hs
    exact bin b a q hq (Or.inr (Or.inr (Or.inr (Or.inr (Or.inr (Or.inr ⟨h0, h2 rfl, h1 rfl⟩))))))
  · obtain ⟨b, q, rfl, h1, h3⟩ := okS_1 hs
    rw [show stepS w 1008 (b :: q) = (1 - b) :: q from rfl]
    rw [show trC 1008 = 3006 from rfl] at hc
    rw [List.length_cons] at hl
    rw [List.length_cons, List.length_cons]
    have v1 : I 169 q.length = b := hS.1
    refine ⟨xu I 169 q.length (1 - b), ?_, fun k i h => xu_o (by omega), Stk_put hS.2⟩
    unfold F_X12_reckons_4b
    simp only [l11, l9, nI_dn1]
    simp (disch := omega) only [↓bOM hP, ↓bAM, h11, ↓reduceIte, c1, h9]
    simp only [l520]
    simp (disch := omega) only [F_X12_reckons_193, ↓bOM hP, ↓bAM, hc, ↓reduceIte, show (3000 : Int32) ≤ 3006 by decide, nI_1, v1]
  · obtain ⟨e', d, q, rfl, -, -, h3⟩ := okS_2 hs
    obtain ⟨b, q', rfl, h1, h4⟩ := okS_1 h3
    rw [show stepS w 1009 (e' :: d :: b :: q') = (if b = 0 then e' else d) :: q' from rfl]
    rw [show trC 1009 = 3009 from rfl] at hc
    rw [List.length_cons, List.length_cons, List.length_cons] at hl
    rw [List.length_cons, List.length_cons, List.length_cons, List.length_cons]
    have v1 : I 169 (q'.length + 1 + 1) = e' := hS.1
    have v2 : I 169 (q'.length + 1) = d := hS.2.1
    have v3 : I 169 q'.length = b := hS.2.2.1
    refine ⟨xu I 169 q'.length (if b = 0 then e' else d), ?_, fun k i h => xu_o (by omega), Stk_put hS.2.2.2⟩
    rcases h1 rfl with hb | hb
    · have hb1 : ¬ b = 1 := by rw [hb]; decide
      unfold F_X12_reckons_4b
      simp only [l11, l9, nI_m2, nI_dn1]
      simp (disch := omega) only [↓bOM hP, ↓bAM, h11, ↓reduceIte, c1, h9]
      simp only [l520]
      simp (disch := omega) only [↓bOM hP, ↓bAM, hc, ↓reduceIte, show (3000 : Int32) ≤ 3009 by decide, show ¬ (3009 : Int32) = 3006 by decide]
      simp only [nI_1]
      simp (disch := omega) only [F_X12_reckons_159, F_X12_reckons_193, ↓bOM hP, ↓bAM, ↓reduceIte, nI_1, v1, v2, v3, hb1, if_pos hb]
    · have hb1 : ¬ b = 0 := by rw [hb]; decide
      unfold F_X12_reckons_4b
      simp only [l11, l9, nI_m2, nI_dn1]
      simp (disch := omega) only [↓bOM hP, ↓bAM, h11, ↓reduceIte, c1, h9]
      simp only [l520]
      simp (disch := omega) only [↓bOM hP, ↓bAM, hc, ↓reduceIte, show (3000 : Int32) ≤ 3009 by decide, show ¬ (3009 : Int32) = 3006 by decide]
      simp only [nI_1]
      simp (disch := omega) only [F_X12_reckons_159, F_X12_reckons_193, ↓bOM hP, ↓bAM, ↓reduceIte, nI_1, v1, v2, v3, hb, if_neg hb1]
      rfl
/-! ===== a law told to its end ===== -/
theorem tell_C {P : Nat → Nat → Option Nat} (hP : GP P) {I : Nat → Nat → Int32} {J : Nat → Nat → Int64} {w : Nat → Int32} {l : List Int32} {f e : Nat} (hl : kindRun l [] = some [false]) (hc : codeAt (I 20) f e l) (he : e ≤ 900) (hw : ∀ i, i < 6 → I 31 i = w i) :
    ∃ I', F_X4_tell 30 20 (nI f) (nI e) (mm P I J) = some (lawS w l, mm P I' J) ∧ ∀ k i, k ≠ 32 → I' k i = I k i := by
  have key : ∃ r : Int32 × xM, xit (F_X4_tell_6b 30 20 (nI e)) xFU (nI 0, nI f, mm P I J) = some r ∧ (∃ I', r = (lawS w l, mm P I' J) ∧ ∀ k i, k ≠ 32 → I' k i = I k i) := by
    refine xit_inv (fun j s => ∃ I', s = (nI (runS w (l.take j)).length, nI (f + j), mm P I' J) ∧ (∀ k i, k ≠ 32 → I' k i = I k i) ∧ Stk (I' 32) (runS w (l.take j))) _ l.length ⟨I, rfl, fun _ _ _ => rfl, trivial⟩ (fun j s hj hq => ?_) (fun s hq => ?_) (by have := hc.1; omega)
    · obtain ⟨I1, rfl, q1, q2⟩ := hq
      have ho : l[j]? = some l[j] := List.getElem?_eq_getElem hj
      obtain ⟨k1, k2, a1, a2, a3⟩ := kind_step hl ho
      have ok := okS_run (w := w) hl j k1 a1
      have ln := okS_len _ _ ok
      have dp := kind_len hl j k1 a1
      have cc := hc.2 j _ ho
      have h1 := hc.1
      obtain ⟨I2, b1, b2, b3⟩ := tell_step hP (I := I1) (J := J) (w := w) (x := f + j) (e := e) a2 ok q2 (by omega) (by omega) he (by rw [q1 20 _ (by omega)]; exact cc) (fun i hi => by rw [q1 31 i (by omega)]; exact hw i hi)
      refine Or.inl ⟨_, b1, I2, ?_, fun k i h => (b2 k i h).trans (q1 k i h), ?_⟩
      · rw [run_step ho]; rfl
      · rw [run_step ho]; exact b3
    · obtain ⟨I1, rfl, q1, q2⟩ := hq
      rw [List.take_of_length_le (Nat.le_refl _)] at q2 ⊢
      have ok := okS_run (w := w) hl l.length [false] (by rw [List.take_of_length_le (Nat.le_refl _)]; exact hl)
      rw [List.take_of_length_le (Nat.le_refl _)] at ok
      obtain ⟨v, r, hr, -, hr2⟩ := okS_1 ok
      have hr3 : r = [] := List.eq_nil_of_length_eq_zero (okS_len _ _ hr2)
      subst hr3
      have hv : I1 32 0 = v := by rw [hr] at q2; exact q2.1
      have h1 := hc.1
      refine ⟨(v, mm P I1 J), ?_, I1, ?_, q1⟩
      · rw [hr]
        unfold F_X4_tell_6b F_X4_tell_262
        simp only [List.length_cons, List.length_nil, show nI (0 + 1) - 1 = nI 0 from rfl]
        simp (disch := omega) only [↓reduceIte, nI_le (a := e) (b := f + l.length) (by omega) (by omega), show ¬ nI (0 + 1) ≤ 0 by decide, ↓bOC hP, ↓bAC, hv, Option.map_some]
      · unfold lawS
        rw [hr]
        rfl
  obtain ⟨r, h1, I', rfl, h2⟩ := key
  exact ⟨I', h1, h2⟩
