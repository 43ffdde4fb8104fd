/-! ===== what no later call reads ===== -/
def scr (k i : Nat) : Prop := (3 ≤ k ∧ k ≤ 13) ∨ (25 ≤ k ∧ k ≤ 28) ∨ (31 ≤ k ∧ k ≤ 34) ∨ (114 ≤ k ∧ k ≤ 123) ∨ (125 ≤ k ∧ k ≤ 163) ∨ (168 ≤ k ∧ k ≤ 181) ∨ (k = 1 ∧ i ≠ 2 ∧ i ≠ 3) ∨ (k = 0 ∧ i = 16) ∨ (k = 164 ∧ i ≠ 5 ∧ i ≠ 13 ∧ i ≠ 14)
def Sc (M M' : xM) : Prop := M'.1 = M.1 ∧ M'.2.2.2 = M.2.2.2 ∧ (∀ k i, ¬ scr k i → M'.2.1 k i = M.2.1 k i) ∧ ∀ k i, ¬ scr k i → M'.2.2.1 k i = M.2.2.1 k i
theorem Sc.rf {M : xM} : Sc M M := ⟨rfl, rfl, fun _ _ _ => rfl, fun _ _ _ => rfl⟩
theorem Sc.tr {M M1 M2 : xM} (h1 : Sc M M1) (h2 : Sc M1 M2) : Sc M M2 := ⟨h2.1.trans h1.1, h2.2.1.trans h1.2.1, fun k i h => (h2.2.2.1 k i h).trans (h1.2.2.1 k i h), fun k i h => (h2.2.2.2 k i h).trans (h1.2.2.2 k i h)⟩
theorem Sc.put {M : xM} {k i : Nat} {v : Int32} (h : scr k i) : Sc M (M.1, xu M.2.1 k i v, M.2.2.1, M.2.2.2) := by
  refine ⟨rfl, rfl, fun a j hj => ?_, fun _ _ _ => rfl⟩
  refine xu_other (fun e => hj ?_)
  rw [e.1, e.2]; exact h
theorem Sc.putJ {M : xM} {k i : Nat} {v : Int64} (h : scr k i) : Sc M (M.1, M.2.1, xu M.2.2.1 k i v, M.2.2.2) := by
  refine ⟨rfl, rfl, fun _ _ _ => rfl, fun a j hj => ?_⟩
  refine xu_other (fun e => hj ?_)
  rw [e.1, e.2]; exact h
theorem Sc.row {M : xM} {k : Nat} {r : Nat → Int32} (h : ∀ i, scr k i) : Sc M (M.1, xur M.2.1 k r, M.2.2.1, M.2.2.2) := by
  refine ⟨rfl, rfl, fun a j hj => ?_, fun _ _ _ => rfl⟩
  by_cases e : a = k
  · subst e; exact absurd (h j) hj
  · exact congrFun (xur_ne e) j
theorem Sc.G {M M' : xM} (h : Sc M M') (g : G M) : G M' := ⟨h.1.trans g.1, fun q hq => by rw [h.2.1]; exact g.2 q hq⟩
theorem Sc.cell {M M' : xM} (h : Sc M M') {k : Nat} (hk : ∀ i, ¬ scr k i) : M'.2.1 k = M.2.1 k := funext fun i => h.2.2.1 k i (hk i)
theorem LandC_cg {M M' : xM} {k : Nat} {t : Txt} (e : ∀ j, j ≤ 6 → M'.2.1 (k + j) = M.2.1 (k + j)) (h : LandC M k t) : LandC M' k t := by
  have e0 : M'.2.1 k = M.2.1 k := e 0 (by omega)
  unfold LandC at h ⊢
  rw [e0, e 1 (by omega), e 2 (by omega), e 3 (by omega), e 4 (by omega), e 5 (by omega), e 6 (by omega)]
  exact h
theorem CoastC_cg {M M' : xM} {k : Nat} {t : Txt} {c : Cst} (e : ∀ j, j ≤ 3 → M'.2.1 (k + j) = M.2.1 (k + j)) (h : CoastC M k t c) : CoastC M' k t c := by
  have e0 : M'.2.1 k = M.2.1 k := e 0 (by omega)
  unfold CoastC at h ⊢
  rw [e0, e 1 (by omega), e 2 (by omega), e 3 (by omega)]
  exact h
theorem INV_Sc {n : Nat} {M M' : xM} (h : INV n M) (s : Sc M M') : INV n M' := by
  have e165 : M'.2.1 165 = M.2.1 165 := s.cell (fun i => by unfold scr; omega)
  have cells : ∀ a b, 14 ≤ a → b ≤ 24 ∨ (35 ≤ a ∧ b ≤ 113) → ∀ k, a ≤ k → k ≤ b → M'.2.1 k = M.2.1 k := fun a b h1 h2 k h3 h4 => s.cell (fun i => by unfold scr; omega)
  obtain ⟨hG, hf, ⟨nt, t1, t2, t3, t4⟩, ⟨t, ⟨h1, h2, h3, c, h4, h5, h6⟩, cs, nx, p1, p2, p3, p4, p5, p6⟩, hr, ⟨mk, i1, i2, i3⟩, hn⟩ := h
  refine ⟨s.G hG, ?_, ⟨nt, t1, ?_, ?_, fun k hk => ?_⟩, ⟨t, ⟨h1, LandC_cg (fun j hj => cells 14 24 (by omega) (by omega) _ (by omega) (by omega)) h2, by rw [e165]; exact h3, c, h4, CoastC_cg (fun j hj => cells 14 24 (by omega) (by omega) _ (by omega) (by omega)) h5, by rw [e165]; exact h6⟩, cs, nx, p1, p2, ?_, ?_, by rw [e165]; exact p5, fun j c hj => ?_⟩, fun t ht => ?_, ⟨mk, i1, ?_, fun i hi => ⟨?_, fun hb => ?_⟩⟩, fun j hj => ?_⟩
  · exact ⟨by rw [s.2.2.1 1 2 (by unfold scr; omega), s.2.2.1 164 13 (by unfold scr; omega)]; exact hf.1, by rw [s.2.2.1 1 3 (by unfold scr; omega), s.2.2.1 164 14 (by unfold scr; omega)]; exact hf.2⟩
  · rw [s.2.2.1 0 0 (by unfold scr; omega)]; exact t2
  · rw [s.2.2.1 164 5 (by unfold scr; omega)]; exact t3
  · obtain ⟨b, b1, b2, b3⟩ := t4 k hk
    exact ⟨b, b1, by rw [s.2.2.1 167 k (by unfold scr; omega)]; exact b2, by rw [s.2.2.1 2 k (by unfold scr; omega)]; exact b3⟩
  · rw [s.2.2.1 35 0 (by unfold scr; omega)]; exact p3
  · rw [s.2.2.1 35 1 (by unfold scr; omega)]; exact p4
  · obtain ⟨q1, q2, q3⟩ := p6 j c hj
    refine ⟨q1, CoastC_cg (fun i hi => cells 35 113 (by omega) (by omega) _ (by omega) (by have := Nat.mod_lt (nx + 10 - j) (y := 11) (by omega); omega)) q2, by rw [e165]; exact q3⟩
  · rcases hr t ht with ⟨a1, a2⟩ | ⟨sz, so, a1, a2, a3, a4, a5, a6, a7⟩
    · exact Or.inl ⟨by rw [s.2.2.1 _ _ (by unfold scr; omega)]; exact a1, by rw [s.2.2.1 _ _ (by unfold scr; omega)]; exact a2⟩
    · refine Or.inr ⟨sz, so, a1, a2, ?_, ?_, ?_, ?_, fun j hj => ?_⟩
      · rw [s.2.2.1 _ _ (by unfold scr; omega)]; exact a3
      · rw [s.2.2.1 _ _ (by unfold scr; omega)]; exact a4
      · rw [s.2.2.1 _ _ (by unfold scr; omega)]; exact a5
      · rw [s.2.2.1 _ _ (by unfold scr; omega)]; exact a6
      · rw [s.2.2.2 _ _ (by unfold scr; omega), s.2.2.2 _ _ (by unfold scr; omega)]; exact a7 j hj
  · rw [s.2.2.1 0 10 (by unfold scr; omega)]; exact i2
  · rw [s.2.2.1 166 i (by unfold scr; omega)]; exact (i3 i hi).1
  · obtain ⟨t, c, a1, a2, a3, a4, a5, a6⟩ := (i3 i hi).2 hb
    exact ⟨t, c, a1, a2, LandC_cg (fun j hj => cells 35 113 (by omega) (by omega) _ (by omega) (by omega)) a3, CoastC_cg (fun j hj => cells 35 113 (by omega) (by omega) _ (by omega) (by omega)) a4, by rw [e165]; exact a5, by rw [e165]; exact a6⟩
  · rw [s.2.2.1 124 j (by unfold scr; omega)]; exact hn j hj
/-- a query: both sides change scratch alone -/
theorem xSim_query {f g : xM → Option (Int32 × xM)} (h : ∀ n M, INV n M → ∃ r M1 M2, f M = some (r, M1) ∧ Sc M M1 ∧ g M1 = some (r, M2) ∧ Sc M1 M2) : xSim INV f g := by
  intro n M _ hI
  obtain ⟨r, M1, M2, h1, s1, h2, s2⟩ := h n M hI
  have G1 := s1.G hI.1
  exact ⟨r, M1, M2, h1, h2, G_ck hI.1 (by decide +kernel), G_ck G1 (by decide +kernel), INV_mono _ _ (INV_Sc (INV_Sc hI s1) s2)⟩
/-! ===== fault ===== -/
theorem thrown_ok {M : xM} (h : G M) : xpI M 164 12 0 0 = some (M.1, xu M.2.1 164 0 0, M.2.2.1, M.2.2.2) := G_pI h (by decide +kernel)
theorem thrown_Sc {M : xM} : Sc M (M.1, xu M.2.1 164 0 0, M.2.2.1, M.2.2.2) := Sc.put (by unfold scr; omega)
theorem sim_fault (a1 : Int32) : xSim INV (F_X11_fault 0 a1) (F_X12_fault 164 a1) := by
  refine xSim_query fun n M hI => ?_
  have hG := hI.1
  obtain ⟨hf1, hf2⟩ := hI.2.1
  have e2 : xgP M 0 11 1 = some 1 := G_gP hG (by decide +kernel) (by decide +kernel)
  have e3 : xgI M 1 7 2 = some (M.2.1 1 2) := G_gI hG (by decide +kernel)
  have e4 : xgI M 1 7 3 = some (M.2.1 1 3) := G_gI hG (by decide +kernel)
  have hG1 := G_I hG (xu M.2.1 164 0 0) M.2.2.1
  have e5 : xgI (M.1, xu M.2.1 164 0 0, M.2.2.1, M.2.2.2) 164 12 13 = some (M.2.1 164 13) := by rw [G_gI hG1 (by decide +kernel)]; simp [xu]
  have e6 : xgI (M.1, xu M.2.1 164 0 0, M.2.2.1, M.2.2.2) 164 12 14 = some (M.2.1 164 14) := by rw [G_gI hG1 (by decide +kernel)]; simp [xu]
  by_cases h0 : a1 = 0
  · exact ⟨M.2.1 1 2, M, _, by simp [F_X11_fault, h0, e2, e3], Sc.rf, by simp [F_X12_fault, h0, thrown_ok hG, e5, hf1], thrown_Sc⟩
  by_cases h1 : a1 = 1
  · exact ⟨M.2.1 1 3, M, _, by simp [F_X11_fault, h1, e2, e4], Sc.rf, by simp [F_X12_fault, h1, thrown_ok hG, e6, hf2], thrown_Sc⟩
  exact ⟨-1, M, _, by simp [F_X11_fault, h0, h1], Sc.rf, by simp [F_X12_fault, h0, h1, thrown_ok hG], thrown_Sc⟩
