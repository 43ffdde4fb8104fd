/-! ===== each part of the invariant reads its own places alone ===== -/
theorem getlt {α : Type} {l : List α} {i : Nat} {q : α} (h : l[i]? = some q) : i < l.length := (List.getElem?_eq_some_iff.mp h).1
theorem codeAt_cg {A A' : Nat → Int32} {f e : Nat} {l : List Int32} (h : ∀ i, i < e → A' i = A i) (c : codeAt A f e l) : codeAt A' f e l := by
  refine ⟨c.1, fun j o hj => ?_⟩
  have h1 := getlt hj
  have h2 := c.1
  rw [h (f + j) (by omega)]
  exact c.2 j o hj
theorem LandA_cg {A A' : Nat → Int32} {B B' : Nat} {t : Txt} (hw : wfT t) (e : ∀ i, i < 1420 → A' (B' + i) = A (B + i)) (h : LandA A B t) : LandA A' B' t := by
  obtain ⟨h0, h1, h2, h3, h4, h5, h6, h7, h8, h9, h10, h11, h12, h13⟩ := h
  have wp := hw.2.2.2.2.1.1
  have wq := hw.2.2.2.2.2.1.1
  have wd := hw.2.2.2.2.2.2.1.1
  have e0 : A' B' = A B := e 0 (by omega)
  have ek : ∀ a i, a + i < 1420 → A' (B' + a + i) = A (B + a + i) := fun a i hi => by rw [Nat.add_assoc, Nat.add_assoc]; exact e (a + i) hi
  refine ⟨e0.trans h0, (e 1 (by omega)).trans h1, (e 2 (by omega)).trans h2, (e 3 (by omega)).trans h3, (e 4 (by omega)).trans h4, (e 5 (by omega)).trans h5, (e 6 (by omega)).trans h6, fun p q hq => ?_, fun p q hq => ?_, fun p q hq => ?_, (e 7 (by omega)).trans h10, (e 8 (by omega)).trans h11, fun hne => ?_, fun hne => ?_⟩
  · have := getlt hq
    obtain ⟨a, b, c⟩ := h7 p q hq
    exact ⟨(ek 13 (3 * p) (by omega)).trans a, (ek 14 (3 * p) (by omega)).trans b, (ek 15 (3 * p) (by omega)).trans c⟩
  · have := getlt hq
    obtain ⟨a, b⟩ := h8 p q hq
    exact ⟨(ek 31 (2 * p) (by omega)).trans a, (ek 32 (2 * p) (by omega)).trans b⟩
  · have := getlt hq
    obtain ⟨a, b, c⟩ := h9 p q hq
    exact ⟨(ek 43 (3 * p) (by omega)).trans a, (ek 44 (3 * p) (by omega)).trans b, (ek 45 (3 * p) (by omega)).trans c⟩
  · obtain ⟨f, x, a, b, c, d⟩ := h12 hne
    exact ⟨f, x, (e 9 (by omega)).trans a, (e 11 (by omega)).trans b, c, codeAt_cg (fun i hi => ek 520 i (by omega)) d⟩
  · obtain ⟨f, x, a, b, c, d⟩ := h13 hne
    exact ⟨f, x, (e 10 (by omega)).trans a, (e 12 (by omega)).trans b, c, codeAt_cg (fun i hi => ek 520 i (by omega)) d⟩
theorem CoastA_cg {A A' : Nat → Int32} {B B' n : Nat} {t : Txt} {c : Cst} (hw : wfT t) (hc : wfC t c n) (e : ∀ i, i < 41 → A' (B' + i) = A (B + i)) (h : CoastA A B t c) : CoastA A' B' t c := by
  obtain ⟨h0, h1, h2, ⟨f, f1, f2, f3⟩, h4, h5⟩ := h
  have hN := tN_le hw
  have wh := hc.2.1.1
  have ek : ∀ a i, a + i < 41 → A' (B' + a + i) = A (B + a + i) := fun a i hi => by rw [Nat.add_assoc, Nat.add_assoc]; exact e (a + i) hi
  refine ⟨fun i hi => (e i (by omega)).trans (h0 i hi), (e 25 (by omega)).trans h1, fun j q hq => ?_, ⟨f, f1, (e 38 (by omega)).trans f2, f3⟩, (e 39 (by omega)).trans h4, (e 40 (by omega)).trans h5⟩
  have := getlt hq
  obtain ⟨a, b⟩ := h2 j q hq
  exact ⟨(ek 26 (2 * j) (by omega)).trans a, (ek 27 (2 * j) (by omega)).trans b⟩
theorem Ifault_fr {M M' : xM} (e : ∀ k i, (k = 1 ∧ (i = 2 ∨ i = 3)) ∨ (k = 164 ∧ (i = 13 ∨ i = 14)) → M'.2.1 k i = M.2.1 k i) (h : Ifault M) : Ifault M' :=
  ⟨by rw [e 1 2 (by omega), e 164 13 (by omega)]; exact h.1, by rw [e 1 3 (by omega), e 164 14 (by omega)]; exact h.2⟩
theorem Itape_fr {M M' : xM} (e : ∀ k i, (k = 0 ∧ i = 0) ∨ (k = 164 ∧ i = 5) ∨ k = 2 ∨ k = 167 → M'.2.1 k i = M.2.1 k i) (h : Itape M) : Itape M' := by
  obtain ⟨n, h1, h2, h3, h4⟩ := h
  refine ⟨n, h1, by rw [e 0 0 (by omega)]; exact h2, by rw [e 164 5 (by omega)]; exact h3, fun k hk => ?_⟩
  obtain ⟨b, b1, b2, b3⟩ := h4 k hk
  exact ⟨b, b1, by rw [e 167 k (by omega)]; exact b2, by rw [e 2 k (by omega)]; exact b3⟩
theorem Ishore_fr {n : Nat} {M M' : xM} {t : Txt} (e : ∀ k i, (14 ≤ k ∧ k ≤ 24) ∨ (35 ≤ k ∧ k ≤ 80) ∨ (k = 165 ∧ i < 1420) → M'.2.1 k i = M.2.1 k i) (h : Inow n M t ∧ Ipast n M t) : Inow n M' t ∧ Ipast n M' t := by
  obtain ⟨⟨h1, h2, h3, c, h4, h5, h6⟩, cs, nx, p1, p2, p3, p4, p5, p6⟩ := h
  have cell : ∀ k, (14 ≤ k ∧ k ≤ 24) ∨ (35 ≤ k ∧ k ≤ 80) → M'.2.1 k = M.2.1 k := fun k hk => funext fun i => e k i (by omega)
  have eA : ∀ B i, B + i < 1420 → M'.2.1 165 (B + i) = M.2.1 165 (B + i) := fun B i hi => e 165 _ (by omega)
  refine ⟨⟨h1, LandC_cg (fun j hj => cell _ (by omega)) h2, LandA_cg h1 (fun i hi => eA 0 i (by omega)) h3, c, h4, CoastC_cg (fun j hj => cell _ (by omega)) h5, CoastA_cg h1 h4 (fun i hi => eA 67 i (by omega)) h6⟩, cs, nx, p1, p2, by rw [e 35 0 (by omega)]; exact p3, by rw [e 35 1 (by omega)]; exact p4, by rw [e 165 108 (by omega)]; exact p5, fun j c hj => ?_⟩
  obtain ⟨q1, q2, q3⟩ := p6 j c hj
  have hm := Nat.mod_lt (nx + 10 - j) (y := 11) (by omega)
  exact ⟨q1, CoastC_cg (fun i hi => cell _ (by omega)) q2, CoastA_cg h1 q1 (fun i hi => eA _ i (by have := getlt hj; omega)) q3⟩
theorem Itray_fr {M M' : xM} (e : ∀ k i, (82 ≤ k ∧ k ≤ 89) ∨ k = 182 ∨ k = 183 → M'.2.1 k i = M.2.1 k i) (eJ : ∀ k i, (82 ≤ k ∧ k ≤ 89) ∨ k = 184 → M'.2.2.1 k i = M.2.2.1 k i) (h : Itray M) : Itray M' := by
  intro t ht
  rcases h t ht with ⟨a1, a2⟩ | ⟨sz, so, a1, a2, a3, a4, a5, a6, a7⟩
  · exact Or.inl ⟨by rw [e _ _ (by omega)]; exact a1, by rw [e _ _ (by omega)]; exact a2⟩
  · exact Or.inr ⟨sz, so, a1, a2, by rw [e _ _ (by omega)]; exact a3, by rw [e _ _ (by omega)]; exact a4, by rw [e _ _ (by omega)]; exact a5, by rw [e _ _ (by omega)]; exact a6, fun j hj => by rw [eJ _ _ (by omega), eJ _ _ (by omega)]; exact a7 j hj⟩
theorem Iimg_fr {n : Nat} {M M' : xM} (e : ∀ k i, (k = 0 ∧ i = 10) ∨ (92 ≤ k ∧ k ≤ 113) ∨ (k = 165 ∧ 1420 ≤ i) ∨ k = 166 → M'.2.1 k i = M.2.1 k i) (h : Iimg n M) : Iimg n M' := by
  obtain ⟨mk, i1, i2, i3⟩ := h
  refine ⟨mk, i1, by rw [e 0 10 (by omega)]; exact i2, fun i hi => ⟨by rw [e 166 i (by omega)]; exact (i3 i hi).1, fun hb => ?_⟩⟩
  obtain ⟨t, c, a1, a2, a3, a4, a5, a6⟩ := (i3 i hi).2 hb
  have cell : ∀ k, 92 ≤ k ∧ k ≤ 113 → M'.2.1 k = M.2.1 k := fun k hk => funext fun i => e k i (by omega)
  exact ⟨t, c, a1, a2, LandC_cg (fun j hj => cell _ (by omega)) a3, CoastC_cg (fun j hj => cell _ (by omega)) a4, LandA_cg a1 (fun j hj => e 165 _ (by omega)) a5, CoastA_cg a1 a2 (fun j hj => e 165 _ (by omega)) a6⟩
theorem Inim_fr {M M' : xM} (e : ∀ i, M'.2.1 124 i = M.2.1 124 i) (h : Inim M) : Inim M' := fun j hj => by rw [e j]; exact h j hj
