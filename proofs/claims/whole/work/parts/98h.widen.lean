/-! ===== one more along the way ===== -/
theorem GhC_thr {I : Nat → Nat → Int32} {t : Txt} {s : Nat → Nat} {lv a : Nat} {r r' : Nat → Nat → Int} {v : Int32} (h : GhC I t s lv r) (h1 : v.toInt = r' (2 * a + 1) (2 * a)) (h2 : ∀ c, c ≠ a → r' (2 * c + 1) (2 * c) = r (2 * c + 1) (2 * c)) (h3 : ∀ c d, adjB (tW t) d c = true → r' (2 * d) (2 * c + 1) = r (2 * d) (2 * c + 1)) : GhC (xu I 116 a v) t s lv r' := by
  refine ⟨fun c hc => by rw [xu_o (by omega)]; exact h.1 c hc, fun c hc => ?_, fun c d hc hd ha => by rw [xu_o (by omega), h3 c d ha]; exact h.2.2 c d hc hd ha⟩
  by_cases e : c = a
  · rw [e, xu_self, h1]
  · rw [xu_o (by omega), h2 c e]; exact h.2.1 c hc
theorem GhC_acr {I : Nat → Nat → Int32} {t : Txt} {s : Nat → Nat} {lv a b : Nat} {r r' : Nat → Nat → Int} {v : Int32} (hN : tN t ≤ 25) (hb : b < tN t) (h : GhC I t s lv r) (h1 : v.toInt = r' (2 * b) (2 * a + 1)) (h2 : ∀ c, r' (2 * c + 1) (2 * c) = r (2 * c + 1) (2 * c)) (h3 : ∀ c d, ¬ (c = a ∧ d = b) → r' (2 * d) (2 * c + 1) = r (2 * d) (2 * c + 1)) : GhC (xu I 117 (25 * a + b) v) t s lv r' := by
  refine ⟨fun c hc => by rw [xu_o (by omega)]; exact h.1 c hc, fun c hc => by rw [xu_o (by omega), h2 c]; exact h.2.1 c hc, fun c d hc hd ha => ?_⟩
  by_cases e : c = a ∧ d = b
  · rw [e.1, e.2, xu_self, h1]
  · rw [xu_o (by omega), h3 c d e]; exact h.2.2 c d hc hd ha
/-- an edge of the way: one less there, one more back -/
def rE (r : Nat → Nat → Int) (B S : Nat) : Nat → Nat → Int := rU (rU r B S (r B S - 1)) S B (r S B + 1)
theorem rE_b {r : Nat → Nat → Int} {B S : Nat} : rE r B S S B = r S B + 1 := by unfold rE rU; rw [if_pos ⟨rfl, rfl⟩]
theorem rE_f {r : Nat → Nat → Int} {B S : Nat} (h : B ≠ S) : rE r B S B S = r B S - 1 := by unfold rE rU; rw [if_neg (by omega), if_pos ⟨rfl, rfl⟩]
theorem rE_o {r : Nat → Nat → Int} {B S i j : Nat} (h1 : ¬ (i = B ∧ j = S)) (h2 : ¬ (i = S ∧ j = B)) : rE r B S i j = r i j := by unfold rE rU; rw [if_neg h2, if_neg h1]
theorem wid_step {P : Nat → Nat → Option Nat} (hP : GP P) {I : Nat → Nat → Int32} {J : Nat → Nat → Int64} {t : Txt} {s : Nat → Nat} {lv : Nat} {r : Nat → Nat → Int} {B S v3 : Nat} (hw : wfT t) (hg : GhC I t s lv r) (hok : okR r (r0D t s lv)) (hlv : lv ≤ 10) (hB : B < 50) (hS : S < 50) (hp : 0 < r B S) (h118 : I 118 S = nI B) (hv : v3 < 50) :
    ∃ I', F_X1_widen_4b 114 (nI S, nI v3, mm P I J) = some (.inl (nI B, nI (v3 + 1), mm P I' J)) ∧ (∀ a i, a ≠ 116 → a ≠ 117 → I' a i = I a i) ∧ GhC I' t s lv (rE r B S) := by
  have hN := tN_le hw
  have o1 := hok B S (by omega) (by omega)
  have o2 := hok S B (by omega) (by omega)
  have rg1 := r0D_rg (t := t) (s := s) hlv B S
  have rg2 := r0D_rg (t := t) (s := s) hlv S B
  have c0 : ¬ (50 : Int32) ≤ nI v3 := nI_ge (b := 50) hv (by omega)
  have c2 : ¬ nI B = -1 := nI_nm1 (by omega)
  have m1 : (-1 : Int32).toInt = -1 := by decide
  have p1 : (1 : Int32).toInt = 1 := by decide
  rcases r2_pos hw (show B < 51 by omega) (show S < 51 by omega) (s := s) (lv := lv) (by omega) with z | z | ⟨z1, z2, z3, z4, z5, z6⟩
  · omega
  · omega
  have c1 : ¬ nI B = nI S := nI_neI (by omega) (by omega) (fun e => z5 (by rw [e]))
  by_cases same : B / 2 = S / 2
  · -- through the cell
    obtain ⟨a, ha⟩ : ∃ a, B / 2 = a := ⟨_, rfl⟩
    have dB : nI B / (2 : Int32) = nI a := by rw [← ha]; exact pk_div (a := B) (d := 2) (by omega) (by omega) (by omega)
    have dS : nI S / (2 : Int32) = nI a := by rw [← ha, same]; exact pk_div (a := S) (d := 2) (by omega) (by omega) (by omega)
    have rm : nI B - nI a * (2 : Int32) = nI (B % 2) := by rw [← dB]; exact pk_rem (a := B) (d := 2) (by omega) (by omega) (by omega)
    have e116 := hg.2.1 a (by omega)
    by_cases par : B % 2 = 0
    · have hBa : B = 2 * a := by omega
      have hSa : S = 2 * a + 1 := by omega
      subst hBa hSa
      have p0 : nI (2 * a % 2) = 0 := by rw [par]; rfl
      refine ⟨xu I 116 a (I 116 a + 1), ?_, fun x i h1 h2 => by rw [xu_o (by omega)], GhC_thr hg ?_ (fun c hc => rE_o (by omega) (by omega)) (fun c d hcd => rE_o (fun e => ?_) (by omega))⟩
      · unfold F_X1_widen_4b F_X1_widen_76 F_X1_widen_126
        simp (disch := omega) only [c0, ↓reduceIte, ↓bOX hP, ↓bAX, h118, c1, c2, dB, dS, ↓Option.bind_some, rm, p0, nI_1]
      · rw [rE_b, i32_add (by rw [e116, p1]; omega) (by rw [e116, p1]; omega), e116, p1]
      · have : d = c := by omega
        rw [this, adj_irr hw.2.1.1] at hcd
        cases hcd
    · have hBa : B = 2 * a + 1 := by omega
      have hSa : S = 2 * a := by omega
      subst hBa hSa
      have p0 : ¬ nI ((2 * a + 1) % 2) = 0 := nI_ne0 (by omega) (by omega)
      refine ⟨xu I 116 a (I 116 a + (-1)), ?_, fun x i h1 h2 => by rw [xu_o (by omega)], GhC_thr hg ?_ (fun c hc => rE_o (by omega) (by omega)) (fun c d hcd => rE_o (by omega) (fun e => ?_))⟩
      · unfold F_X1_widen_4b F_X1_widen_76 F_X1_widen_126
        simp (disch := omega) only [c0, ↓reduceIte, ↓bOX hP, ↓bAX, h118, c1, c2, dB, dS, ↓Option.bind_some, rm, p0, nI_1]
      · rw [rE_f (by omega), i32_add (by rw [e116, m1]; omega) (by rw [e116, m1]; omega), e116, m1]
        omega
      · have : d = c := by omega
        rw [this, adj_irr hw.2.1.1] at hcd
        cases hcd
  · -- from cell to cell
    have adj : adjB (tW t) (B / 2) (S / 2) = true := by
      rcases z6 with z6 | z6
      · exact absurd z6 same
      · exact z6
    obtain ⟨a, ha⟩ : ∃ a, B / 2 = a := ⟨_, rfl⟩
    obtain ⟨b, hb⟩ : ∃ b, S / 2 = b := ⟨_, rfl⟩
    have dB : nI B / (2 : Int32) = nI a := by rw [← ha]; exact pk_div (a := B) (d := 2) (by omega) (by omega) (by omega)
    have dS : nI S / (2 : Int32) = nI b := by rw [← hb]; exact pk_div (a := S) (d := 2) (by omega) (by omega) (by omega)
    have rm : nI B - nI a * (2 : Int32) = nI (B % 2) := by rw [← dB]; exact pk_rem (a := B) (d := 2) (by omega) (by omega) (by omega)
    rw [ha, hb] at adj same
    have c3 : ¬ nI a = nI b := nI_neI (by omega) (by omega) same
    by_cases par : B % 2 = 1
    · have hBa : B = 2 * a + 1 := by omega
      have hSb : S = 2 * b := by omega
      subst hBa hSb
      have p0 : nI ((2 * a + 1) % 2) = 1 := by rw [par]; rfl
      have ix : nI a * (25 : Int32) + nI b = nI (25 * a + b) := by rw [show (25 : Int32) = nI 25 from rfl, pk_mul, nI_add, Nat.mul_comm]
      have e117 := hg.2.2 a b (by omega) (by omega) (by rw [adj_sym]; exact adj)
      refine ⟨xu I 117 (25 * a + b) (I 117 (25 * a + b) + 1), ?_, fun x i h1 h2 => by rw [xu_o (by omega)], GhC_acr hN.1 (by omega) hg ?_ (fun c => rE_o (by omega) (by omega)) (fun c d hcd => rE_o (by omega) (by omega))⟩
      · unfold F_X1_widen_4b F_X1_widen_126
        simp (disch := omega) only [c0, ↓reduceIte, ↓bOX hP, ↓bAX, h118, c1, c2, dB, dS, ↓Option.bind_some, c3, rm, p0, ix, nI_1]
      · rw [rE_b, i32_add (by rw [e117, p1]; omega) (by rw [e117, p1]; omega), e117, p1]
    · have hBa : B = 2 * a := by omega
      have hSb : S = 2 * b + 1 := by omega
      subst hBa hSb
      have p0 : ¬ nI (2 * a % 2) = 1 := by rw [show 2 * a % 2 = 0 by omega]; decide
      have ix : nI b * (25 : Int32) + nI a = nI (25 * b + a) := by rw [show (25 : Int32) = nI 25 from rfl, pk_mul, nI_add, Nat.mul_comm]
      have e117 := hg.2.2 b a (by omega) (by omega) adj
      refine ⟨xu I 117 (25 * b + a) (I 117 (25 * b + a) - 1), ?_, fun x i h1 h2 => by rw [xu_o (by omega)], GhC_acr hN.1 (by omega) hg ?_ (fun c => rE_o (by omega) (by omega)) (fun c d hcd => rE_o (by omega) (by omega))⟩
      · unfold F_X1_widen_4b F_X1_widen_126
        simp (disch := omega) only [c0, ↓reduceIte, ↓bOX hP, ↓bAX, h118, c1, c2, dB, dS, ↓Option.bind_some, c3, rm, p0, ix, nI_1]
      · rw [rE_f (by omega), i32_sub (by rw [e117, p1]; omega) (by rw [e117, p1]; omega), e117, p1]
/-! ===== the class' way back ===== -/
def WayC (r : Nat → Nat → Int) (I : Nat → Nat → Int32) (q : Nat → Nat) (n : Nat) (ps : Nat → Nat) : Prop := ps n = 0 ∧ ∀ s, s < n → ps (s + 1) < ps s ∧ I 118 (q (ps s)) = nI (if ps (s + 1) = 0 then q (ps s) else q (ps (s + 1))) ∧ 0 < r (q (ps (s + 1))) (q (ps s))
theorem wayC_ex {r : Nat → Nat → Int} {I : Nat → Nat → Int32} {q : Nat → Nat} {len : Nat} (hq : QuC r I q len) : ∀ m i, i ≤ m → i < len → ∃ n ps, n ≤ i ∧ ps 0 = i ∧ WayC r I q n ps := by
  intro m
  induction m with
  | zero =>
    intro i h1 h2
    exact ⟨0, fun _ => 0, by omega, (show 0 = i by omega), rfl, fun s hs => by omega⟩
  | succ m ih =>
    intro i h1 h2
    by_cases h0 : i = 0
    · exact ⟨0, fun _ => 0, by omega, (show 0 = i by omega), rfl, fun s hs => by omega⟩
    · obtain ⟨p, p1, p2, p3⟩ := hq.2.2.2.2.2.2.2 i (by omega) h2
      obtain ⟨n, ps, n1, n2, n3, n4⟩ := ih p (by omega) (by omega)
      refine ⟨n + 1, fun s => if s = 0 then i else ps (s - 1), by omega, rfl, ?_, fun s hs => ?_⟩
      · show (if n + 1 = 0 then i else ps (n + 1 - 1)) = 0
        rw [if_neg (by omega)]
        exact n3
      · by_cases e : s = 0
        · subst e
          show ps 0 < i ∧ I 118 (q i) = nI (if ps 0 = 0 then q i else q (ps 0)) ∧ 0 < r (q (ps 0)) (q i)
          rw [n2]
          exact ⟨p1, p2, p3⟩
        · have w := n4 (s - 1) (by omega)
          rw [show s - 1 + 1 = s by omega] at w
          have e1 : (fun s => if s = 0 then i else ps (s - 1)) s = ps (s - 1) := if_neg e
          have e2 : (fun s => if s = 0 then i else ps (s - 1)) (s + 1) = ps s := by
            show (if s + 1 = 0 then i else ps (s + 1 - 1)) = ps s
            rw [if_neg (by omega), show s + 1 - 1 = s by omega]
          rw [e1, e2]
          exact w
theorem dec_lt {ps : Nat → Nat} {n : Nat} (h : ∀ s, s < n → ps (s + 1) < ps s) : ∀ d s, s + d ≤ n → ps (s + d) + d ≤ ps s
  | 0, s, _ => Nat.le_refl _
  | d + 1, s, hs => by
    have w := h (s + d) (by omega)
    have := dec_lt h d s (by omega)
    rw [show s + (d + 1) = s + d + 1 by omega]
    omega
theorem widen_C {P : Nat → Nat → Option Nat} (hP : GP P) {I : Nat → Nat → Int32} {J : Nat → Nat → Int64} {t : Txt} {s : Nat → Nat} {lv : Nat} {r : Nat → Nat → Int} {q : Nat → Nat} {len n : Nat} {ps : Nat → Nat} (hw : wfT t) (hg : GhC I t s lv r) (hok : okR r (r0D t s lv)) (hlv : lv ≤ 10) (hq : QuC r I q len) (h : WayC r I q n ps) (h0 : ps 0 < len) (hn : 1 ≤ n) :
    ∃ I' r', F_X1_widen 114 (nI (q (ps 0))) (mm P I J) = some (mm P I' J) ∧ (∀ a i, a ≠ 116 → a ≠ 117 → I' a i = I a i) ∧ GhC I' t s lv r' ∧ okR r' (r0D t s lv) ∧ (∀ i j, i < 51 → j < 51 → r i j - 50 ≤ r' i j) ∧ ∀ X : Nat → Bool, X 50 = true → X (q (ps 0)) = false → cutZ r' X = cutZ r X - 1 := by
  have l51 : len ≤ 51 := by have := hq.2.2.1; omega
  have dc : ∀ s, s < n → ps (s + 1) < ps s := fun s hs => (h.2 s hs).1
  have le0 : ∀ s, s ≤ n → ps s + s ≤ ps 0 := fun s hs => by
    have := dec_lt dc s 0 (by omega)
    rw [Nat.zero_add] at this
    exact this
  have pos : ∀ s, s < n → 0 < ps s := fun s hs => by
    have := dc s hs
    omega
  have nd : ∀ s, s < n → q (ps s) < 50 := fun s hs => (hq.2.2.2.2.1 (ps s) (pos s hs) (by have := le0 s (by omega); omega)).1
  have nd51 : ∀ s, s ≤ n → q (ps s) < 51 := fun s hs => by
    by_cases e : s = n
    · rw [e, h.1, hq.2.1]; omega
    · have := nd s (by omega)
      omega
  have inj : ∀ s s', s ≤ n → s' ≤ n → q (ps s) = q (ps s') → s = s' := fun s s' hs hs' e => by
    have l1 := le0 s hs
    have l2 := le0 s' hs'
    have e2 := hq.2.2.2.2.2.1 _ _ (show ps s < len by omega) (show ps s' < len by omega) e
    rcases Nat.lt_trichotomy s s' with g | g | g
    · have := dec_lt dc (s' - s) s (by omega)
      rw [show s + (s' - s) = s' by omega] at this
      omega
    · exact g
    · have := dec_lt dc (s - s') s' (by omega)
      rw [show s' + (s - s') = s by omega] at this
      omega
  -- what one edge does
  have edge : ∀ {r1 : Nat → Nat → Int} {i0 : Nat}, i0 < n → okR r1 (r0D t s lv) → (∀ i j, i < 51 → j < 51 → r i j - (i0 : Int) ≤ r1 i j) → (∀ s', i0 ≤ s' → s' < n → r1 (q (ps (s' + 1))) (q (ps s')) = r (q (ps (s' + 1))) (q (ps s'))) → (∀ X : Nat → Bool, cutZ r1 X = cutZ r X - (idZ (X (q (ps i0))) - idZ (X (q (ps 0))))) →
      okR (rE r1 (q (ps (i0 + 1))) (q (ps i0))) (r0D t s lv) ∧ (∀ i j, i < 51 → j < 51 → r i j - ((i0 + 1 : Nat) : Int) ≤ rE r1 (q (ps (i0 + 1))) (q (ps i0)) i j) ∧ (∀ s', i0 + 1 ≤ s' → s' < n → rE r1 (q (ps (i0 + 1))) (q (ps i0)) (q (ps (s' + 1))) (q (ps s')) = r (q (ps (s' + 1))) (q (ps s'))) ∧ ∀ X : Nat → Bool, cutZ (rE r1 (q (ps (i0 + 1))) (q (ps i0))) X = cutZ r X - (idZ (X (q (ps (i0 + 1)))) - idZ (X (q (ps 0)))) := by
    intro r1 i0 hi0 g2 g3 g4 g5
    have nj := nd51 i0 (by omega)
    have ni := nd51 (i0 + 1) (by omega)
    have hne : q (ps (i0 + 1)) ≠ q (ps i0) := fun z => by
      have := inj (i0 + 1) i0 (by omega) (by omega) z
      omega
    have ed : 0 < r1 (q (ps (i0 + 1))) (q (ps i0)) := by rw [g4 i0 (Nat.le_refl _) hi0]; exact (h.2 i0 hi0).2.2
    refine ⟨ok_edge g2 ni nj hne (by omega) (by omega), fun i j hi hj => ?_, fun s' h1 h2 => ?_, fun X => ?_⟩
    · have b := g3 i j hi hj
      by_cases e1 : i = q (ps (i0 + 1)) ∧ j = q (ps i0)
      · rw [e1.1, e1.2, rE_f hne]
        rw [e1.1, e1.2] at b
        omega
      · by_cases e2 : i = q (ps i0) ∧ j = q (ps (i0 + 1))
        · rw [e2.1, e2.2, rE_b]
          rw [e2.1, e2.2] at b
          omega
        · rw [rE_o e1 e2]
          omega
    · rw [← g4 s' (by omega) h2]
      exact rE_o (fun z => by
        have := inj s' i0 (by omega) (by omega) z.2
        omega) (fun z => by
        have := inj (s' + 1) i0 (by omega) (by omega) z.1
        omega)
    · have ce := cut_edge (r := r1) (X := X) (1 : Int) ni nj hne
      have ce' : cutZ (rE r1 (q (ps (i0 + 1))) (q (ps i0))) X = cutZ r1 X - 1 * (idZ (X (q (ps (i0 + 1)))) - idZ (X (q (ps i0)))) := ce
      rw [ce', g5 X]
      omega
  have key : ∃ z : xM, xit (F_X1_widen_4b 114) xFU (nI (q (ps 0)), nI 0, mm P I J) = some z ∧ (∃ I' r', z = mm P I' J ∧ (∀ a i, a ≠ 116 → a ≠ 117 → I' a i = I a i) ∧ GhC I' t s lv r' ∧ okR r' (r0D t s lv) ∧ (∀ i j, i < 51 → j < 51 → r i j - ((n - 1 : Nat) : Int) ≤ r' i j) ∧ (∀ s', n - 1 ≤ s' → s' < n → r' (q (ps (s' + 1))) (q (ps s')) = r (q (ps (s' + 1))) (q (ps s'))) ∧ ∀ X : Nat → Bool, cutZ r' X = cutZ r X - (idZ (X (q (ps (n - 1)))) - idZ (X (q (ps 0))))) := by
    refine xit_inv (fun i0 z => ∃ I' r', z = (nI (q (ps i0)), nI i0, mm P I' J) ∧ (∀ a i, a ≠ 116 → a ≠ 117 → I' a i = I a i) ∧ GhC I' t s lv r' ∧ okR r' (r0D t s lv) ∧ (∀ i j, i < 51 → j < 51 → r i j - (i0 : Int) ≤ r' i j) ∧ (∀ s', i0 ≤ s' → s' < n → r' (q (ps (s' + 1))) (q (ps s')) = r (q (ps (s' + 1))) (q (ps s'))) ∧ ∀ X : Nat → Bool, cutZ r' X = cutZ r X - (idZ (X (q (ps i0))) - idZ (X (q (ps 0))))) _ (n - 1) ⟨I, r, rfl, fun _ _ _ _ => rfl, hg, hok, fun i j _ _ => by omega, fun _ _ _ => rfl, fun X => by omega⟩ (fun i0 z hi0 hz => ?_) (fun z hz => ?_) (by have := le0 n (Nat.le_refl _); omega)
    · obtain ⟨I1, r1, rfl, g0, g1, g2, g3, g4, g5⟩ := hz
      left
      have hi1 : i0 < n := by omega
      have w := h.2 i0 hi1
      have p1 := pos (i0 + 1) (by omega)
      have w2 : I1 118 (q (ps i0)) = nI (q (ps (i0 + 1))) := by
        rw [g0 _ _ (by omega) (by omega), w.2.1, if_neg (by omega)]
      have ed : 0 < r1 (q (ps (i0 + 1))) (q (ps i0)) := by rw [g4 i0 (Nat.le_refl _) hi1]; exact w.2.2
      have lt50 : i0 < 50 := by have := le0 i0 (by omega); omega
      obtain ⟨I2, a1, a2, a3⟩ := wid_step hP (J := J) hw g1 g2 hlv (nd (i0 + 1) (by omega)) (nd i0 hi1) ed w2 lt50
      obtain ⟨b1, b2, b3, b4⟩ := edge hi1 g2 g3 g4 g5
      exact ⟨_, a1, I2, _, rfl, fun a i h1 h2 => by rw [a2 a i h1 h2, g0 a i h1 h2], a3, b1, b2, b3, b4⟩
    · obtain ⟨I1, r1, rfl, g0, g1, g2, g3, g4, g5⟩ := hz
      have w := h.2 (n - 1) (by omega)
      rw [show n - 1 + 1 = n by omega, h.1, if_pos rfl] at w
      have w2 : I1 118 (q (ps (n - 1))) = nI (q (ps (n - 1))) := by rw [g0 _ _ (by omega) (by omega)]; exact w.2.1
      have q50 := nd (n - 1) (by omega)
      have lt50 : n - 1 < 50 := by have := le0 (n - 1) (by omega); omega
      have c0 : ¬ (50 : Int32) ≤ nI (n - 1) := nI_ge (b := 50) lt50 (by omega)
      refine ⟨mm P I1 J, ?_, I1, r1, rfl, g0, g1, g2, g3, g4, g5⟩
      unfold F_X1_widen_4b F_X1_widen_135
      simp (disch := omega) only [c0, ↓reduceIte, ↓bOX hP, ↓bAX, w2, Option.map_some]
  obtain ⟨z, k1, I1, r1, rfl, g0, g1, g2, g3, g4, g5⟩ := key
  obtain ⟨b1, b2, b3, b4⟩ := edge (i0 := n - 1) (by omega) g2 g3 g4 g5
  have e50 : q (ps (n - 1 + 1)) = 50 := by rw [show n - 1 + 1 = n by omega, h.1]; exact hq.2.1
  have hsrc := nd (n - 1) (by omega)
  refine ⟨I1, rE r1 (q (ps (n - 1 + 1))) (q (ps (n - 1))), k1, g0, ?_, b1, fun i j hi hj => ?_, fun X x1 x2 => ?_⟩
  · rw [e50]
    have hN := tN_le hw
    exact ⟨g1.1, fun c hc => by rw [rE_o (by omega) (by omega)]; exact g1.2.1 c hc, fun c d hc hd ha => by rw [rE_o (by omega) (by omega)]; exact g1.2.2 c d hc hd ha⟩
  · have := b2 i j hi hj
    have := le0 n (Nat.le_refl _)
    omega
  · rw [b4 X, e50, x1, x2]
    rfl
/-! ===== the class' number is the least cut ===== -/
theorem flow_C {P : Nat → Nat → Option Nat} (hP : GP P) {I : Nat → Nat → Int32} {J : Nat → Nat → Int64} {t : Txt} {s : Nat → Nat} {lv x : Nat} (hw : wfT t) (hL : LandC (mm P I J) 14 t) (hg : GhC I t s lv (r0D t s lv)) (hlv : lv ≤ 10) (hx : x < tN t) :
    ∃ I' k, F_X1_leastRaising_72 114 14 (nI x) 0 (mm P I J) = some (nI k, mm P I' J) ∧ (∀ a i, a < 114 ∨ 119 < a → I' a i = I a i) ∧ isLeast (r0D t s lv) (2 * x + 1) k := by
  have hN := tN_le hw
  have key : ∃ z : Int32 × xM, xit (F_X1_leastRaising_72b 114 14 (nI x)) xFU (nI 0, mm P I J) = some z ∧ (∃ I' k, z = (nI k, mm P I' J) ∧ (∀ a i, a < 114 ∨ 119 < a → I' a i = I a i) ∧ isLeast (r0D t s lv) (2 * x + 1) k) := by
    refine xit_inv (fun j z => ∃ I' r, z = (nI j, mm P I' J) ∧ GhC I' t s lv r ∧ okR r (r0D t s lv) ∧ (∀ a b, a < 51 → b < 51 → r0D t s lv a b - ((50 * j : Nat) : Int) ≤ r a b) ∧ (∀ X : Nat → Bool, X 50 = true → X (2 * x + 1) = false → cutZ r X = cutZ (r0D t s lv) X - j) ∧ ∀ a i, a < 114 ∨ 119 < a → I' a i = I a i) _ 10 ⟨I, r0D t s lv, rfl, hg, fun i j _ _ => ⟨(r0D_rg hlv i j).1, rfl⟩, fun a b _ _ => by omega, fun X _ _ => by simp, fun _ _ _ => rfl⟩ (fun j z hj hz => ?_) (fun z hz => ?_) (by omega)
    · obtain ⟨I1, r, rfl, g1, g2, g3, g4, g5⟩ := hz
      have c0 : ¬ (10 : Int32) ≤ nI j := nI_ge (b := 10) hj (by omega)
      have hL1 : LandC (mm P I1 J) 14 t := LandC_14 hL (fun k i h1 h2 => g5 k i (by omega))
      have ro : RoC t s lv r := ⟨g2, fun a b ha hb => by have := g3 a b ha hb; omega⟩
      obtain ⟨I2, q, len, e1, e2, e3, e4⟩ := reach_C hP (J := J) hw hL1 g1 ro hlv (show x < 25 by omega)
      by_cases hc : I2 118 (2 * x + 1) = -1
      · right
        rw [if_pos hc] at e1
        refine ⟨(nI j, mm P I2 J), ?_, I2, j, rfl, fun a i ha => by rw [e3 a i (by omega) (by omega) (by omega), g5 a i ha], fun X x1 x2 => ?_, fun u => decide (u = 50 ∨ ¬ I2 118 u = -1), decide_eq_true (Or.inl rfl), decide_eq_false (fun z => by
          rcases z with z | z
          · omega
          · exact z hc), ?_⟩
        · unfold F_X1_leastRaising_72b F_X1_leastRaising_103
          simp (disch := omega) only [c0, ↓reduceIte, ↓bOX hP, ↓bs e1, Option.map_some]
        · have := g4 X x1 x2
          have := cut_nn (r := r) (fun i j hi hj => (g2 i j hi hj).1) X
          omega
        · have yT : (fun u => decide (u = 50 ∨ ¬ I2 118 u = -1)) (2 * x + 1) = false := decide_eq_false (fun z => by
            rcases z with z | z
            · omega
            · exact z hc)
          have a := g4 (fun u => decide (u = 50 ∨ ¬ I2 118 u = -1)) (decide_eq_true (Or.inl rfl)) yT
          have b : cutZ r (fun u => decide (u = 50 ∨ ¬ I2 118 u = -1)) = 0 := cut_closed fun i w hi hw51 y1 y2 => by
            have y1' : i = 50 ∨ ¬ I2 118 i = -1 := of_decide_eq_true y1
            have y2' : ¬ (w = 50 ∨ ¬ I2 118 w = -1) := of_decide_eq_false y2
            have w50 : w < 50 := by
              have : w ≠ 50 := fun z => y2' (Or.inl z)
              omega
            have nn := (g2 i w hi hw51).1
            apply Classical.byContradiction
            intro hr
            have hp : 0 < r i w := by omega
            obtain ⟨p, p1, p2⟩ : ∃ p, p < len ∧ q p = i := by
              by_cases e : i = 50
              · exact ⟨0, e2.1, by rw [e]; exact e2.2.1⟩
              · rcases y1' with y1' | y1'
                · exact absurd y1' e
                · obtain ⟨p, -, p1, p2⟩ := e2.2.2.2.2.2.2.1 i (by omega) y1'
                  exact ⟨p, p1, p2⟩
            exact y2' (Or.inr (e4 p w p1 w50 (by rw [p2]; exact hp)))
          rw [b] at a
          omega
      · left
        rw [if_neg hc] at e1
        obtain ⟨p, p0, p1, p2⟩ := e2.2.2.2.2.2.2.1 (2 * x + 1) (by omega) hc
        obtain ⟨n, ps, n1, n2, n3⟩ := wayC_ex e2 p p (Nat.le_refl _) p1
        have n0 : 1 ≤ n := by
          apply Classical.byContradiction
          intro z
          have z0 : n = 0 := by omega
          have := n3.1
          rw [z0, n2] at this
          omega
        have g1' : GhC I2 t s lv r := GhC_fr g1 (fun i => e3 _ _ (by omega) (by omega) (by omega)) (fun i => e3 _ _ (by omega) (by omega) (by omega)) (fun i => e3 _ _ (by omega) (by omega) (by omega))
        obtain ⟨I3, r3, b1, b2, b3, b4, b5, b6⟩ := widen_C hP (J := J) hw g1' g2 hlv e2 n3 (by omega) n0
        have qT : q (ps 0) = 2 * x + 1 := by rw [n2]; exact p2
        rw [qT] at b1 b6
        have ix2 : (2 : Int32) * nI x + (1 : Int32) = nI (2 * x + 1) := by rw [show (2 : Int32) = nI 2 from rfl, pk_mul, nI_1]
        refine ⟨(nI (j + 1), mm P I3 J), ?_, I3, r3, rfl, b3, b4, fun a b ha hb => ?_, fun X x1 x2 => ?_, fun a i ha => by rw [b2 a i (by omega) (by omega), e3 a i (by omega) (by omega) (by omega), g5 a i ha]⟩
        · unfold F_X1_leastRaising_72b
          simp (disch := omega) only [c0, ↓reduceIte, ↓bOX hP, ↓bs e1, one_ne, ix2, ↓bs b1, nI_1]
        · have := g3 a b ha hb
          have := b5 a b ha hb
          omega
        · have := g4 X x1 x2
          have := b6 X x1 x2
          omega
    · obtain ⟨I1, r, rfl, g1, g2, g3, g4, g5⟩ := hz
      have c0 : (10 : Int32) ≤ nI 10 := by decide
      refine ⟨(nI 10, mm P I1 J), ?_, I1, 10, rfl, g5, fun X x1 x2 => ?_, fun u => !(u == 2 * x + 1), by simp; omega, by simp, ?_⟩
      · unfold F_X1_leastRaising_72b F_X1_leastRaising_103
        simp (disch := omega) only [c0, ↓reduceIte, Option.map_some]
      · have := g4 X x1 x2
        have := cut_nn (r := r) (fun i j hi hj => (g2 i j hi hj).1) X
        omega
      · have a := g4 (fun u => !(u == 2 * x + 1)) (by simp; omega) (by simp)
        have b := cut_nn (r := r) (fun i j hi hj => (g2 i j hi hj).1) (fun u => !(u == 2 * x + 1))
        have c := cut_T (s := s) hN.1 hx hlv
        omega
  obtain ⟨z, k1, I', k, rfl, k2⟩ := key
  exact ⟨I', k, k1, k2⟩
theorem least_C {P : Nat → Nat → Option Nat} (hP : GP P) {I : Nat → Nat → Int32} {J : Nat → Nat → Int64} {t : Txt} {s : Nat → Nat} {lv x : Nat} (hw : wfT t) (hL : LandC (mm P I J) 14 t) (hs : ∀ i, i < tN t → I 22 i = nI (s i) ∧ s i ≤ 9) (hlv : lv ≤ 10) (hx : x < tN t) :
    ∃ I' k, F_X1_leastRaising 114 14 22 (nI x) (nI lv) (mm P I J) = some (nI k, mm P I' J) ∧ (∀ a i, a < 114 ∨ 119 < a → I' a i = I a i) ∧ isLeast (r0D t s lv) (2 * x + 1) k := by
  have hN := tN_le hw
  have key : ∃ z : Int32 × xM, xit (F_X1_leastRaising_15b 114 14 22 (nI x) (nI lv)) xFU (nI 0, mm P I J) = some z ∧ (∃ I' k, z = (nI k, mm P I' J) ∧ (∀ a i, a < 114 ∨ 119 < a → I' a i = I a i) ∧ isLeast (r0D t s lv) (2 * x + 1) k) := by
    refine xit_inv (fun j z => ∃ I', z = (nI j, mm P I' J) ∧ (∀ a i, a ≠ 115 → I' a i = I a i) ∧ ∀ c, c < j → c < tN t → I' 115 c = nI (lv - s c)) _ 25 ⟨I, rfl, fun _ _ _ => rfl, fun c hc => by omega⟩ (fun j z hj hz => ?_) (fun z hz => ?_) (by omega)
    · obtain ⟨I1, rfl, g1, g2⟩ := hz
      left
      have c0 : ¬ (25 : Int32) ≤ nI j := nI_ge (b := 25) hj (by omega)
      have c0' : ¬ nI 25 ≤ nI j := c0
      have al : xal (mm P I1 J) 20 22 = some (nI 25) := xal_G (mm_G hP) (by decide +kernel)
      have mx : ∃ v, F_J9_max_7cf53 0 (nI lv - I1 22 j) (mm P I1 J) = some (v, mm P I1 J) ∧ (j < tN t → v = nI (lv - s j)) := by
        unfold F_J9_max_7cf53
        by_cases h : (0 : Int32) < nI lv - I1 22 j
        · refine ⟨_, if_pos h, fun hjt => ?_⟩
          obtain ⟨s1, s2⟩ := hs j hjt
          rw [g1 _ _ (by omega), s1] at h ⊢
          have h2 := Int32.lt_iff_toInt_lt.mp h
          rw [pk_sub_toInt (by omega) (by omega), show (0 : Int32).toInt = 0 by decide] at h2
          exact pk_sub (by omega)
        · refine ⟨_, if_neg h, fun hjt => ?_⟩
          obtain ⟨s1, s2⟩ := hs j hjt
          rw [g1 _ _ (by omega), s1] at h
          have h2 : ¬ (0 : Int) < (nI lv - nI (s j)).toInt := fun z => h (Int32.lt_iff_toInt_lt.mpr (by rw [show (0 : Int32).toInt = 0 by decide]; exact z))
          rw [pk_sub_toInt (by omega) (by omega)] at h2
          rw [show lv - s j = 0 by omega]
          rfl
      obtain ⟨v, v1, v2⟩ := mx
      refine ⟨(nI (j + 1), mm P (xu I1 115 j v) J), ?_, _, rfl, fun a i h => by rw [xu_o (by omega), g1 a i h], fun c hc hct => ?_⟩
      · unfold F_X1_leastRaising_15b
        simp (disch := omega) only [c0, c0', ↓reduceIte, ↓bs al, ↓bOX hP, ↓bAC, ↓bs v1, ↓bAX, nI_1]
      · by_cases e : c = j
        · rw [e, xu_self]
          exact v2 (by omega)
        · rw [xu_o (by omega)]; exact g2 c (by omega) hct
    · obtain ⟨I1, rfl, g1, g2⟩ := hz
      have c0 : (25 : Int32) ≤ nI 25 := by decide
      have f1 : F_J7_fill_53178 116 0 (mm P I1 J) = some (mm P (xfl I1 116 0 25 0) J) := fillI (mm_G hP) (by decide +kernel) (by omega) 0
      have f2 : F_J7_fill_53178 117 0 (mm P (xfl I1 116 0 25 0) J) = some (mm P (xfl (xfl I1 116 0 25 0) 117 0 625 0) J) := fillI (mm_G hP) (by decide +kernel) (by omega) 0
      obtain ⟨I2, hI2⟩ : ∃ I2, I2 = xfl (xfl I1 116 0 25 0) 117 0 625 0 := ⟨_, rfl⟩
      rw [← hI2] at f2
      have fr : ∀ a i, a ≠ 116 → a ≠ 117 → I2 a i = I1 a i := fun a i h1 h2 => by
        rw [hI2]
        unfold xfl
        rw [if_neg (by omega), if_neg (by omega)]
      have z116 : ∀ c, c < 25 → I2 116 c = 0 := fun c hc => by
        rw [hI2]
        unfold xfl
        rw [if_neg (by omega), if_pos (by omega)]
      have z117 : ∀ c, c < 625 → I2 117 c = 0 := fun c hc => by
        rw [hI2]
        unfold xfl
        rw [if_pos (by omega)]
      have gh : GhC I2 t s lv (r0D t s lv) := by
        refine ⟨fun c hc => by rw [fr _ _ (by omega) (by omega)]; exact g2 c (by omega) hc, fun c hc => ?_, fun c d hc hd ha => ?_⟩
        · have a := r2_in (s := s) (lv := lv) hw hc
          rw [r0D_in hc (by omega), if_pos rfl] at a
          rw [z116 c (by omega), show (0 : Int32).toInt = 0 by decide]
          omega
        · rw [z117 _ (by omega), r0D_in hd (by omega), if_neg (fun z => by
            have e : c = d := by omega
            rw [e, adj_irr hw.2.1.1] at ha
            cases ha)]
          rfl
      have hL2 : LandC (mm P I2 J) 14 t := LandC_14 hL (fun k i h1 h2 => by rw [fr _ _ (by omega) (by omega), g1 _ _ (by omega)])
      obtain ⟨I3, k, e1, e2, e3⟩ := flow_C hP (J := J) hw hL2 gh hlv hx
      refine ⟨(nI k, mm P I3 J), ?_, I3, k, rfl, fun a i ha => by rw [e2 a i ha, fr a i (by omega) (by omega), g1 a i (by omega)], e3⟩
      unfold F_X1_leastRaising_15b F_X1_leastRaising_53
      simp (disch := omega) only [c0, ↓reduceIte, ↓bOX hP, ↓bs f1, ↓bs f2, e1, Option.map_some]
  obtain ⟨z, k1, I', k, rfl, k2⟩ := key
  refine ⟨I', k, ?_, k2⟩
  have c1 : ¬ nI x < 0 := nI_pos (by omega)
  have c2 : nI x < (25 : Int32) := nI_lt (b := 25) (by omega) (by omega)
  unfold F_X1_leastRaising
  rw [if_neg c1, if_pos c2]
  exact k1
theorem sim_least (a1 a2 : Int32) : xSim INV (F_X11_least 0 a1 a2) (F_X12_least 164 a1 a2) := by
  refine xSim_qn fun n M hn hI => ?_
  obtain ⟨P, I, J, rfl, hP⟩ := G_mm hI.1
  obtain ⟨t, c, cs, nx, hw, hL, hA, hc, hC, hD, -⟩ := INV_sh hI
  have hN := tN_le hw
  have z0 : (0 : Int64).toInt = 0 := by decide
  have z10 : (10 : Int64).toInt = 10 := by decide
  have ic := isCellC (mm_G (I := I) (J := J) hP) hw hL a1
  have hA0 : LandA (xu I 164 0 0 165) 0 t := LandA_cg (A := I 165) hw (fun x _ => xu_o (by omega)) hA
  by_cases h : 0 ≤ a1.toInt ∧ a1.toInt < tN t
  · rw [if_pos h] at ic
    by_cases h2 : 0 ≤ a2.toInt ∧ a2.toInt ≤ 10
    · obtain ⟨x, hx, rfl⟩ := cell_of h (by omega)
      obtain ⟨lv, hlv, rfl⟩ := cell_of (a := a2) (n := 11) (by omega) (by omega)
      obtain ⟨I1, k, e1, e2, e3⟩ := least_C hP (I := I) (J := J) (s := cSand c) (lv := lv) (x := x) hw hL (fun i hi => ⟨hC.1 i hi, hc.1 i hi⟩) (by omega) hx
      have f165 : xu I1 164 0 0 165 = I 165 := funext fun y => by rw [xu_o (by omega), e2 _ _ (by omega)]
      have hA1 : LandA (xu I1 164 0 0 165) 0 t := by rw [f165]; exact hA
      have im := isCellM (mm_G (I := xu I1 164 0 0) (J := J) hP) hw (show LandA ((mm P (xu I1 164 0 0) J).2.1 165) 0 t from hA1) (nI x)
      rw [if_pos h] at im
      obtain ⟨I2, k2, g1, g2, g3⟩ := least_M hP (I := xu I1 164 0 0) (J := J) (s := cSand c) (lv := lv) (x := x) hw hA1 (fun i hi => ⟨by rw [f165]; exact hD.1 i hi, hc.1 i hi⟩) (by omega) hx
      rw [least_one g3 e3] at g1
      refine ⟨nI k, mm P I1 J, mm P I2 J, ?_, Sc_mm (fun a i hs => e2 a i (by unfold scr at hs; omega)) (fun _ _ _ => rfl), ?_, Sc_mm (fun a i hs => ?_) (fun _ _ _ => rfl)⟩
      · simp only [F_X11_least, ↓bOC hP, ↓bs ic, ↓reduceIte, one_ne, ↓bs (isLevelC _ _), h2, and_self, ↓bOX hP, ↓bs e1]
      · simp only [F_X12_least, ↓bOM hP, ↓bs im, ↓reduceIte, one_ne, within_lit, ↓Option.bind_some, z0, z10, h2, and_self, ↓bs g1]
      · rw [g2 a i (fun z => hs (by unfold scr; omega)) (fun z => hs (by unfold scr; omega)) (fun z => hs (by unfold scr; omega)), xu_o (fun z => hs (by unfold scr; omega))]
    · have im := isCellM (mm_G (I := xu I 164 0 0) (J := J) hP) hw (show LandA ((mm P (xu I 164 0 0) J).2.1 165) 0 t from hA0) a1
      rw [if_pos h] at im
      refine ⟨-3, mm P I J, thr (mm P I J), ?_, Sc.rf, ?_, thr_Sc⟩
      · simp only [F_X11_least, ↓bOC hP, ↓bs ic, ↓reduceIte, one_ne, ↓bs (isLevelC _ _), if_neg h2]
      · simp only [F_X12_least, ↓bOM hP, ↓bs im, ↓reduceIte, one_ne, within_lit, ↓Option.bind_some, z0, z10, if_neg h2, thr_mm]
  · rw [if_neg h] at ic
    have im := isCellM (mm_G (I := xu I 164 0 0) (J := J) hP) hw (show LandA ((mm P (xu I 164 0 0) J).2.1 165) 0 t from hA0) a1
    rw [if_neg h] at im
    refine ⟨-2, mm P I J, thr (mm P I J), ?_, Sc.rf, ?_, thr_Sc⟩
    · simp only [F_X11_least, ↓bOC hP, ↓bs ic, ↓reduceIte]
    · simp only [F_X12_least, ↓bOM hP, ↓bs im, ↓reduceIte, thr_mm]
