/-! ===== tables: what stays where something was put ===== -/
theorem xu_o {α : Type} {f : Nat → Nat → α} {k i : Nat} {v : α} {a j : Nat} (h : ¬ (a = k ∧ j = i)) : xu f k i v a j = f a j := xu_other h
theorem xur_o {α : Type} {f : Nat → Nat → α} {k : Nat} {r : Nat → α} {a j : Nat} (h : ¬ a = k) : xur f k r a j = f a j := congrFun (xur_ne h) j
theorem xur_s {α : Type} {f : Nat → Nat → α} {k : Nat} {r : Nat → α} {j : Nat} : xur f k r k j = r j := congrFun xur_eq j
/-- n places of row a from i0 on, laid into row b from j0 on -/
def cpx (I : Nat → Nat → Int32) (b j0 a i0 n : Nat) : Nat → Nat → Int32 := fun k i => if k = b ∧ j0 ≤ i ∧ i < j0 + n then I a (i0 + (i - j0)) else I k i
theorem cpx_0 {I : Nat → Nat → Int32} {b j0 a i0 : Nat} : cpx I b j0 a i0 0 = I := by
  funext k i
  unfold cpx
  rw [if_neg (by omega)]
theorem cpx_o {I : Nat → Nat → Int32} {b j0 a i0 n k i : Nat} (h : ¬ (k = b ∧ j0 ≤ i ∧ i < j0 + n)) : cpx I b j0 a i0 n k i = I k i := by
  unfold cpx
  rw [if_neg h]
theorem cpx_s {I : Nat → Nat → Int32} {b j0 a i0 n : Nat} (h : a ≠ b ∨ j0 ≤ i0 ∨ i0 + n < j0) : xu (cpx I b j0 a i0 n) b (j0 + n) (cpx I b j0 a i0 n a (i0 + n)) = cpx I b j0 a i0 (n + 1) := by
  rw [cpx_o (k := a) (i := i0 + n) (by omega)]
  funext k i
  unfold cpx xu
  by_cases h1 : k = b ∧ i = j0 + n
  · rw [if_pos h1, if_pos (by omega)]
    congr 1
    omega
  · rw [if_neg h1]
    dsimp only
    by_cases h2 : k = b ∧ j0 ≤ i ∧ i < j0 + n
    · rw [if_pos h2, if_pos (by omega)]
    · rw [if_neg h2, if_neg (by omega)]
theorem cpx_in {I : Nat → Nat → Int32} {b j0 a i0 n i : Nat} (h : i < n) : cpx I b j0 a i0 n b (j0 + i) = I a (i0 + i) := by
  unfold cpx
  rw [if_pos (by omega)]
  congr 1
  omega
/-- a loop that copies -/
theorem cp_loop {ρ : Type} {f : (Int32 × xM) → Option ((Int32 × xM) ⊕ ρ)} {P : Nat → Nat → Option Nat} {I : Nat → Nat → Int32} {J : Nat → Nat → Int64} (b j0 a i0 N : Nat) {r : Option ρ} (hab : a ≠ b ∨ j0 ≤ i0 ∨ i0 + N ≤ j0)
    (step : ∀ j, j < N → f (nI j, mm P (cpx I b j0 a i0 j) J) = some (.inl (nI (j + 1), mm P (xu (cpx I b j0 a i0 j) b (j0 + j) (cpx I b j0 a i0 j a (i0 + j))) J)))
    (ex : f (nI N, mm P (cpx I b j0 a i0 N) J) = r.map .inr) (hN : N < 1000000) : xit f xFU (0, mm P I J) = r := by
  refine xit_run (fun j => (nI j, mm P (cpx I b j0 a i0 j) J)) N (by rw [cpx_0]; rfl) (fun j hj => ?_) ex hN
  show f (nI j, mm P (cpx I b j0 a i0 j) J) = some (.inl (nI (j + 1), mm P (cpx I b j0 a i0 (j + 1)) J))
  rw [step j hj, cpx_s (by omega)]
/-! ===== a coast takes another ===== -/
theorem coast_sep : ∀ a ∈ coastL, ∀ b ∈ coastL, a ≠ b → b + 4 ≤ a ∨ a + 4 ≤ b := by decide +kernel
theorem coast_lt : ∀ a ∈ coastL, 10 ≤ a ∧ a + 3 < 164 := by decide +kernel
theorem take_C {P : Nat → Nat → Option Nat} (hP : GP P) (I : Nat → Nat → Int32) (J : Nat → Nat → Int64) {a b : Nat} (ha : a ∈ coastL) (hb : b ∈ coastL) (hab : a ≠ b) : ∃ I', F_X0_take a b (mm P I J) = some (mm P I' J) ∧ (∀ k i, ¬ (a ≤ k ∧ k ≤ a + 3) → I' k i = I k i) ∧ (∀ i, i < 25 → I' (a + 1) i = I (b + 1) i) ∧ (∀ i, i < 6 → I' (a + 2) i = I (b + 2) i) ∧ (∀ i, i < 6 → I' (a + 3) i = I (b + 3) i) ∧ I' a 3 = I b 3 ∧ I' a 4 = I b 4 ∧ I' a 5 = I b 5 ∧ I' a 6 = I b 6 := by
  have hd := coast_sep a ha b hb hab
  obtain ⟨-, -, -, -, a4, a5, a6⟩ := coast_sh a ha
  obtain ⟨-, -, -, -, b4, b5, b6⟩ := coast_sh b hb
  have c1 : ∀ I J, xcp (mm P I J) (b + 1) 0 (a + 1) 0 25 = some (mm P (xur I (a + 1) (fun i => if i < 25 then I (b + 1) i else I (a + 1) i)) J) := fun I J => m_cp b4 a4 I J (n := 25) (by omega) (by omega) (by omega)
  have c2 : ∀ I J, xcp (mm P I J) (b + 2) 0 (a + 2) 0 6 = some (mm P (xur I (a + 2) (fun i => if i < 6 then I (b + 2) i else I (a + 2) i)) J) := fun I J => m_cp b5 a5 I J (n := 6) (by omega) (by omega) (by omega)
  have c3 : ∀ I J, xcp (mm P I J) (b + 3) 0 (a + 3) 0 6 = some (mm P (xur I (a + 3) (fun i => if i < 6 then I (b + 3) i else I (a + 3) i)) J) := fun I J => m_cp b6 a6 I J (n := 6) (by omega) (by omega) (by omega)
  refine ⟨_, by simp only [F_X0_take, OK_ hP ha, OK_ hP hb, c1, c2, c3, Option.bind_some]; rfl, ?_, ?_, ?_, ?_, ?_, ?_, ?_, ?_⟩
  · intro k i h
    simp (disch := omega) only [xu_o, xur_o]
  · intro i h
    simp (disch := omega) only [xu_o, xur_o, xur_s, if_pos h]
  · intro i h
    simp (disch := omega) only [xu_o, xur_o, xur_s, if_pos h]
  · intro i h
    simp (disch := omega) only [xu_o, xur_o, xur_s, if_pos h]
  all_goals simp (disch := omega) only [xu_o, xur_o, xu_self]
/-- so it is the same coast -/
theorem CoastC_same {M M' : xM} {a b n : Nat} {t : Txt} {c : Cst} (hw : wfT t) (hc : wfC t c n) (h1 : ∀ i, i < 25 → M'.2.1 (a + 1) i = M.2.1 (b + 1) i) (h2 : ∀ i, i < 6 → M'.2.1 (a + 2) i = M.2.1 (b + 2) i) (h3 : ∀ i, i < 6 → M'.2.1 (a + 3) i = M.2.1 (b + 3) i) (h4 : M'.2.1 a 3 = M.2.1 b 3) (h5 : M'.2.1 a 4 = M.2.1 b 4) (h6 : M'.2.1 a 5 = M.2.1 b 5) (h7 : M'.2.1 a 6 = M.2.1 b 6) (h : CoastC M b t c) : CoastC M' a t c := by
  have hN := tN_le hw
  have hH := hc.2.1.1
  obtain ⟨g1, g2, g3, g4, g5, g6⟩ := h
  refine ⟨fun i hi => (h1 i (by omega)).trans (g1 i hi), h4.trans g2, fun i q hq => ?_, h5.trans g4, h6.trans g5, h7.trans g6⟩
  have := getlt hq
  exact ⟨(h2 i (by omega)).trans (g3 i q hq).1, (h3 i (by omega)).trans (g3 i q hq).2⟩
theorem nI_eqI {a b : Nat} (ha : a < 2 ^ 31) (hb : b < 2 ^ 31) : nI a = nI b ↔ a = b := by
  constructor
  · intro h
    have h1 : (nI a).toInt = (nI b).toInt := by rw [h]
    rw [nI_toInt ha, nI_toInt hb] at h1
    omega
  · intro h
    rw [h]
theorem nI_neI {a b : Nat} (ha : a < 2 ^ 31) (hb : b < 2 ^ 31) (h : a ≠ b) : ¬ nI a = nI b := fun z => h ((nI_eqI ha hb).mp z)
