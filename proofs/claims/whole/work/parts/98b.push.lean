theorem i32_sub {a b : Int32} (h1 : 0 ≤ a.toInt - b.toInt) (h2 : a.toInt - b.toInt < 2147483648) : (a - b).toInt = a.toInt - b.toInt := by
  rw [Int32.toInt_sub]
  exact Int.bmod_eq_of_le (by omega) (by omega)
theorem i32_add {a b : Int32} (h1 : 0 ≤ a.toInt + b.toInt) (h2 : a.toInt + b.toInt < 2147483648) : (a + b).toInt = a.toInt + b.toInt := by
  rw [Int32.toInt_add]
  exact Int.bmod_eq_of_le (by omega) (by omega)
theorem push103 {P : Nat → Nat → Option Nat} (hP : GP P) {I : Nat → Nat → Int32} {J : Nat → Nat → Int64} {q : Nat → Nat} {len n : Nat} {ps : Nat → Nat} {r0 : Nat → Nat → Int} (hq : QuM I q len) (h : WayM I q n ps) (h0 : ps 0 < len) (hok : okR (rZ I) r0) (hr0 : ∀ i j, i < 51 → j < 51 → r0 i j ≤ 268435456) {av : Int32} (a0 : 0 < av.toInt) (a1 : ∀ s, s < n → av.toInt ≤ rZ I (q (ps (s + 1))) (q (ps s))) (v3 v4 : Int32) :
    ∃ I', F_X12_leastFor_103 164 v3 v4 av (nI (q (ps 0))) (mm P I J) = some (.inl (v3 + av, mm P I' J)) ∧ (∀ a i, a ≠ 174 → I' a i = I a i) ∧ okR (rZ I') r0 ∧ ∀ X : Nat → Bool, X 50 = true → X (q (ps 0)) = false → cutZ (rZ I') X = cutZ (rZ I) X - av.toInt := by
  have hn : n ≤ 1000 := by
    have l51 : len ≤ 51 := by have := hq.2.2.1; omega
    have : ∀ d, d ≤ n → ps d + d ≤ ps 0 := fun d => by
      induction d with
      | zero => intro _; omega
      | succ d ih =>
        intro hd
        have a := ih (by omega)
        have b := (h.2 d (by omega)).1
        omega
    have := this n (by omega)
    omega
  have nd : ∀ s, s ≤ n → q (ps s) < 51 := fun s hs => (hq.2.2.2.1 (ps s) (by have := way_le h s hs; omega)).1
  have key : ∃ r : (Int32 × xM) ⊕ (Int32 × xM), xit (F_X12_leastFor_103b 164 v3 v4 av) xFU (nI (q (ps 0)), mm P I J) = some r ∧ (∃ I', r = .inl (v3 + av, mm P I' J) ∧ (∀ a i, a ≠ 174 → I' a i = I a i) ∧ okR (rZ I') r0 ∧ ∀ X : Nat → Bool, X 50 = true → X (q (ps 0)) = false → cutZ (rZ I') X = cutZ (rZ I) X - av.toInt) := by
    refine xit_inv (fun s z => ∃ I', z = (nI (q (ps s)), mm P I' J) ∧ (∀ a i, a ≠ 174 → I' a i = I a i) ∧ okR (rZ I') r0 ∧ (∀ s', s ≤ s' → s' < n → rZ I' (q (ps (s' + 1))) (q (ps s')) = rZ I (q (ps (s' + 1))) (q (ps s'))) ∧ ∀ X : Nat → Bool, cutZ (rZ I') X = cutZ (rZ I) X - av.toInt * (idZ (X (q (ps s))) - idZ (X (q (ps 0))))) _ n ⟨I, rfl, fun _ _ _ => rfl, hok, fun _ _ _ => rfl, fun X => by rw [Int.sub_self, Int.mul_zero, Int.sub_zero]⟩ (fun s z hs hq2 => ?_) (fun z hq2 => ?_) (by omega)
    · obtain ⟨I1, rfl, g1, g2, g3, g4⟩ := hq2
      left
      have nj := nd s (by omega)
      have ni := nd (s + 1) (by omega)
      have ne := way_sea hq h h0 hs
      have c1 : ¬ nI (q (ps s)) = (50 : Int32) := fun z => ne ((nI_eqI (b := 50) (by omega) (by omega)).mp z)
      have w2 : I1 175 (q (ps s)) = nI (q (ps (s + 1))) := by rw [g1 _ _ (by omega)]; exact (h.2 s hs).2.1
      have hne : q (ps (s + 1)) ≠ q (ps s) := fun z => by
        have := way_inj hq h h0 (s := s + 1) (s' := s) (by omega) (by omega) z
        omega
      have ed : av.toInt ≤ rZ I1 (q (ps (s + 1))) (q (ps s)) := by rw [g3 s (Nat.le_refl _) hs]; exact a1 s hs
      have oij := g2 _ _ ni nj
      have oji := g2 _ _ nj ni
      have b1 := hr0 _ _ ni nj
      have b2 := hr0 _ _ nj ni
      have ix1 : (51 : Int32) * nI (q (ps (s + 1))) + nI (q (ps s)) = nI (51 * q (ps (s + 1)) + q (ps s)) := by rw [show (51 : Int32) = nI 51 from rfl, pk_mul, nI_add]
      have ix2 : (51 : Int32) * nI (q (ps s)) + nI (q (ps (s + 1))) = nI (51 * q (ps s) + q (ps (s + 1))) := by rw [show (51 : Int32) = nI 51 from rfl, pk_mul, nI_add]
      have t1 : (I1 174 (51 * q (ps (s + 1)) + q (ps s)) - av).toInt = rZ I1 (q (ps (s + 1))) (q (ps s)) - av.toInt := by
        unfold rZ at ed oij oji ⊢
        exact i32_sub (by omega) (by omega)
      have t2 : (I1 174 (51 * q (ps s) + q (ps (s + 1))) + av).toInt = rZ I1 (q (ps s)) (q (ps (s + 1))) + av.toInt := by
        unfold rZ at ed oij oji ⊢
        exact i32_add (by omega) (by omega)
      have same : ∀ a b, a < 51 → b < 51 → rZ (xu (xu I1 174 (51 * q (ps (s + 1)) + q (ps s)) (I1 174 (51 * q (ps (s + 1)) + q (ps s)) - av)) 174 (51 * q (ps s) + q (ps (s + 1))) (I1 174 (51 * q (ps s) + q (ps (s + 1))) + av)) a b = rU (rU (rZ I1) (q (ps (s + 1))) (q (ps s)) (rZ I1 (q (ps (s + 1))) (q (ps s)) - av.toInt)) (q (ps s)) (q (ps (s + 1))) (rZ I1 (q (ps s)) (q (ps (s + 1))) + av.toInt) a b := fun a b ha hb => by
        rw [rZ_upd ni hb, t2]
        unfold rU
        by_cases e : a = q (ps s) ∧ b = q (ps (s + 1))
        · rw [if_pos e, if_pos e]
        · rw [if_neg e, if_neg e, rZ_upd nj hb, t1]
          rfl
      have oke := ok_edge g2 ni nj hne (by omega) ed
      refine ⟨(nI (q (ps (s + 1))), mm P (xu (xu I1 174 (51 * q (ps (s + 1)) + q (ps s)) (I1 174 (51 * q (ps (s + 1)) + q (ps s)) - av)) 174 (51 * q (ps s) + q (ps (s + 1))) (I1 174 (51 * q (ps s) + q (ps (s + 1))) + av)) J), ?_, _, rfl, fun a i ha => by rw [xu_o (by omega), xu_o (by omega), g1 a i ha], fun a b ha hb => ?_, fun s' h1 h2 => ?_, fun X => ?_⟩
      · have w2' : ∀ v, xu I1 174 (51 * q (ps (s + 1)) + q (ps s)) v 175 (q (ps s)) = nI (q (ps (s + 1))) := fun v => by rw [xu_o (by omega)]; exact w2
        have w3' : ∀ v, xu I1 174 (51 * q (ps (s + 1)) + q (ps s)) v 174 (51 * q (ps s) + q (ps (s + 1))) = I1 174 (51 * q (ps s) + q (ps (s + 1))) := fun v => xu_o (by omega)
        have w4' : ∀ v v', xu (xu I1 174 (51 * q (ps (s + 1)) + q (ps s)) v) 174 (51 * q (ps s) + q (ps (s + 1))) v' 175 (q (ps s)) = nI (q (ps (s + 1))) := fun v v' => by rw [xu_o (by omega), xu_o (by omega)]; exact w2
        unfold F_X12_leastFor_103b
        simp (disch := omega) only [↓reduceIte, c1, ↓bOM hP, ↓bAM, w2, ix1, ix2, w2', w3', w4']
      · rw [same a b ha hb, same b a hb ha]
        exact oke a b ha hb
      · have n1 := nd s' (by omega)
        have n2 := nd (s' + 1) (by omega)
        rw [same _ _ n2 n1, ← g3 s' (by omega) h2]
        have d1 : q (ps s') ≠ q (ps s) := fun z => by
          have := way_inj hq h h0 (s := s') (s' := s) (by omega) (by omega) z
          omega
        have d2 : q (ps (s' + 1)) ≠ q (ps s) := fun z => by
          have := way_inj hq h h0 (s := s' + 1) (s' := s) (by omega) (by omega) z
          omega
        unfold rU
        rw [if_neg (fun z => d2 z.1), if_neg (fun z => d1 z.2)]
      · rw [cutZ_cg same, cut_edge av.toInt ni nj hne, g4 X, Int.mul_sub, Int.mul_sub, Int.mul_sub]
        omega
    · obtain ⟨I1, rfl, g1, g2, g3, g4⟩ := hq2
      have e50 : nI (q (ps n)) = (50 : Int32) := by rw [h.1, hq.2.1]; rfl
      refine ⟨.inl (v3 + av, mm P I1 J), ?_, I1, rfl, g1, g2, fun X x1 x2 => ?_⟩
      · simp only [F_X12_leastFor_103b, F_X12_leastFor_168, ↓reduceIte, e50, Option.bind_some, Option.map_some]
      · rw [g4 X, x2, h.1, hq.2.1, x1]
        show _ - av.toInt * (1 - 0) = _
        rw [show (1 : Int) - 0 = 1 from rfl, Int.mul_one]
  obtain ⟨r, k1, I', rfl, k2⟩ := key
  exact ⟨I', k1, k2⟩
