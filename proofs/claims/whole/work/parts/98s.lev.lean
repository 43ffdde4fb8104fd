/-! ===== laws, at every depth ===== -/
def Lev (P : Nat → Nat → Option Nat) (J : Nat → Nat → Int64) (b : Nat → Nat) (n : Nat) (wa : Int32) (w : Nat) : Prop := ∀ m m',
  (8 * (6 - w) + 3 ≤ m → 7 * (6 - w) + 4 ≤ m' → SimG P J b n wa (R_X7_readAtom m 4 1 (nI w)) (R_X12_readAtom m' 3 164 (nI w)) (cP (10 + 5 * w) false wa)) ∧
  (8 * (6 - w) + 5 ≤ m → 7 * (6 - w) + 5 ≤ m' → SimG P J b n wa (R_X7_readAtom m 7 1 (nI w)) (R_X12_readAtom m' 6 164 (nI w)) (cP (9 + 5 * w) true wa)) ∧
  (8 * (6 - w) + 7 ≤ m → 7 * (6 - w) + 7 ≤ m' → SimG P J b n wa (R_X7_readAtom m 6 1 (nI w)) (R_X12_readAtom m' 5 164 (nI w)) (cP (7 + 5 * w) true wa))
theorem lev_step {P : Nat → Nat → Option Nat} (hP : GP P) {J : Nat → Nat → Int64} {b : Nat → Nat} {n : Nat} {wa : Int32} (hwa : wa = 0 ∨ wa = 1) {w : Nat} (hw : w ≤ 6) (hn : w < 6 → Lev P J b n wa (w + 1)) : Lev P J b n wa w := by
  have atom : ∀ m m', 8 * (6 - w) + 1 ≤ m → 7 * (6 - w) + 2 ≤ m' → SimG P J b n wa (R_X7_readAtom m 0 1 (nI w)) (R_X12_readAtom m' 0 164 (nI w)) (cP (11 + 5 * w + 1) false wa) := by
    intro m m' h1 h2
    obtain ⟨a, rfl⟩ : ∃ a, m = a + 1 := ⟨m - 1, by omega⟩
    obtain ⟨d, rfl⟩ : ∃ d, m' = d + 1 + 1 := ⟨m' - 2, by omega⟩
    refine atom_G hP (rc := R_X7_readAtom a) (rm := R_X12_readAtom (d + 1)) (rc2 := R_X7_readAtom (a - 1)) (rm2 := R_X12_readAtom d) hwa hw (fun w6 => ?_) (fun M => rfl)
    obtain ⟨a2, rfl⟩ : ∃ a2, a = a2 + 1 := ⟨a - 1, by omega⟩
    have l1 := (hn w6 (a2 + 1) (d + 1)).1 (by omega) (by omega)
    have l2 := (hn w6 a2 d).2.2 (by omega) (by omega)
    have l3 := (hn w6 a2 d).1 (by omega) (by omega)
    exact ⟨fun M => rfl, l1, l2, l3⟩
  have term : ∀ m m', 8 * (6 - w) + 2 ≤ m → 7 * (6 - w) + 3 ≤ m' → SimG P J b n wa (R_X7_readAtom m 5 1 (nI w)) (R_X12_readAtom m' 4 164 (nI w)) (cP (11 + 5 * w) false wa) := by
    intro m m' h1 h2
    obtain ⟨a, rfl⟩ : ∃ a, m = a + 1 := ⟨m - 1, by omega⟩
    obtain ⟨d, rfl⟩ : ∃ d, m' = d + 1 := ⟨m' - 1, by omega⟩
    exact term_G hP (rc := R_X7_readAtom a) (rm := R_X12_readAtom d) (atom a d (by omega) (by omega))
  have sum : ∀ m m', 8 * (6 - w) + 3 ≤ m → 7 * (6 - w) + 4 ≤ m' → SimG P J b n wa (R_X7_readAtom m 4 1 (nI w)) (R_X12_readAtom m' 3 164 (nI w)) (cP (10 + 5 * w) false wa) := by
    intro m m' h1 h2
    obtain ⟨a, rfl⟩ : ∃ a, m = a + 1 := ⟨m - 1, by omega⟩
    obtain ⟨d, rfl⟩ : ∃ d, m' = d + 1 := ⟨m' - 1, by omega⟩
    have t := term a d (by omega) (by omega)
    rw [show 11 + 5 * w = 10 + 5 * w + 1 by omega] at t
    exact sum_G hP (rc := R_X7_readAtom a) (rm := R_X12_readAtom d) t
  have unit : ∀ m m', 8 * (6 - w) + 5 ≤ m → 7 * (6 - w) + 5 ≤ m' → SimG P J b n wa (R_X7_readAtom m 7 1 (nI w)) (R_X12_readAtom m' 6 164 (nI w)) (cP (8 + 5 * w + 1) true wa) := by
    intro m m' h1 h2
    obtain ⟨a, rfl⟩ : ∃ a, m = a + 1 + 1 := ⟨m - 2, by omega⟩
    obtain ⟨d, rfl⟩ : ∃ d, m' = d + 1 := ⟨m' - 1, by omega⟩
    refine unit_G hP (rc := R_X7_readAtom (a + 1)) (rm := R_X12_readAtom d) (rc2 := R_X7_readAtom a) hw (fun w6 => ?_) (fun M => rfl) (sum a d (by omega) (by omega))
    exact ⟨(hn w6 (a + 1) d).2.1 (by omega) (by omega), (hn w6 (a + 1) d).2.2 (by omega) (by omega)⟩
  intro m m'
  refine ⟨sum m m', fun h1 h2 => ?_, fun h1 h2 => ?_⟩
  · have u := unit m m' h1 h2
    rw [show 8 + 5 * w + 1 = 9 + 5 * w by omega] at u
    exact u
  · obtain ⟨a, rfl⟩ : ∃ a, m = a + 1 + 1 := ⟨m - 2, by omega⟩
    obtain ⟨d, rfl⟩ : ∃ d, m' = d + 1 + 1 := ⟨m' - 2, by omega⟩
    have u := unit a d (by omega) (by omega)
    have bo := both_G hP (rc := R_X7_readAtom a) (rm := R_X12_readAtom d) u
    rw [show 8 + 5 * w = 7 + 5 * w + 1 by omega] at bo
    exact truth_G hP (rc := R_X7_readAtom (a + 1)) (rm := R_X12_readAtom (d + 1)) bo
theorem lev_all {P : Nat → Nat → Option Nat} (hP : GP P) {J : Nat → Nat → Int64} {b : Nat → Nat} {n : Nat} {wa : Int32} (hwa : wa = 0 ∨ wa = 1) : ∀ d, d ≤ 6 → Lev P J b n wa (6 - d)
  | 0, _ => lev_step hP hwa (by omega) (fun z => by omega)
  | d + 1, h => lev_step hP hwa (by omega) (fun _ => by
    have := lev_all hP hwa (J := J) (b := b) (n := n) d (by omega)
    rw [show 6 - (d + 1) + 1 = 6 - d by omega]
    exact this)
theorem law_S {P : Nat → Nat → Option Nat} (hP : GP P) {J : Nat → Nat → Int64} {b : Nat → Nat} {n : Nat} {wa : Int32} (hwa : wa = 0 ∨ wa = 1) : SimG P J b n wa (Fx_X7_readSum 1 0) (Fx_X12_readSum 164 0) (cP 10 false wa) :=
  ((lev_all hP hwa 6 (by omega)) 60 60).1 (by omega) (by omega)
/-! ===== numbers that must stand here ===== -/
theorem zbar {v : Nat} (hv : v < 1000) : ((0 : Int32) >>> (nI v &&& 31)) &&& 1 = 0 := by
  have h := bitN (s := 0) (c := v % 32) (by omega) (Nat.mod_lt _ (by omega))
  rw [Nat.zero_testBit] at h
  have e : nI v &&& 31 = nI (v % 32) &&& 31 := by
    rw [pk_andN (n := v) (by omega) (m := 31) 5 (by decide), pk_andN (n := v % 32) (by omega) (m := 31) 5 (by decide)]
    congr 1
    show v % 32 = v % 32 % 32
    omega
  rw [e]
  exact h
theorem cls3 {k : Nat} (hk : ¬ k = 29) : ¬ nI (clsK k) = (3 : Int32) := fun z => by
  have := (nI_eqI (b := 3) (by have := clsK_lt k; omega) (by omega)).mp z
  unfold clsK at this
  rw [if_neg hk] at this
  split at this
  · omega
  · split at this
    · omega
    · split at this <;> omega
theorem exN_St {P : Nat → Nat → Option Nat} (hP : GP P) {I K : Nat → Nat → Int32} (J : Nat → Nat → Int64) {b : Nat → Nat} {n f e k : Nat} (h : St I K b n f e k) {l u bar : Int32} (lo hi : Nat) (hl : l = nI lo) (hu : u = nI hi) (lo9 : lo < 1000) (hi9 : hi < 1000)
    (hbar : k = 29 → numF b f (e - f) ≤ hi → ((bar >>> (nI (numF b f (e - f)) &&& 31)) &&& 1) = 0) :
    (∃ v I' K' f' e' k', v = numF b f (e - f) ∧ k = 29 ∧ lo ≤ v ∧ v ≤ hi ∧ F_X7_expectNumber 1 l u bar (mm P I J) = some (nI v, mm P I' J) ∧ F_X12_takes 164 l u (mm P K J) = some (nI v, mm P K' J) ∧ frR I I' ∧ frQ K K' ∧ St I' K' b n f' e' k' ∧ f + 1 ≤ f') ∨
    (∃ r I' K', F_X7_expectNumber 1 l u bar (mm P I J) = some (l, mm P I' J) ∧ F_X12_takes 164 l u (mm P K J) = some (r, mm P K' J) ∧ frR I I' ∧ frQ K K' ∧ Bd I' K' b n) := by
  subst hl hu
  have ps := h.pos
  have h1 := h.2.2.1
  have h2 := h.2.2.2.1
  have c8 := h.1.2.2.2.2.2
  have m29 := is_M hP J h (w := 29) 29 rfl (by omega)
  by_cases k29 : k = 29
  · subst k29
    rw [if_pos rfl] at m29
    have c8' : I 1 8 = (3 : Int32) := c8
    obtain ⟨nc, nl⟩ := num_C hP (J := J) h.1
    have k10 := h.2.1.2.2.2.2.2.2 rfl
    obtain ⟨v, hv⟩ : ∃ v, v = numF b f (e - f) := ⟨_, rfl⟩
    rw [← hv] at nc nl k10 hbar
    have wi := within_lit (nI v) (nI lo).toInt64 (nI hi).toInt64 (mm P K J)
    rw [Int32.toInt_toInt64, Int32.toInt_toInt64, nI_toInt (by omega), nI_toInt (by omega), nI_toInt (by omega)] at wi
    by_cases hr : lo ≤ v ∧ v ≤ hi
    · left
      rw [if_pos (by omega)] at wi
      obtain ⟨I', K', f', e', k', a1, a2, a3, a4, a5, a6⟩ := adv hP J h
      have c1 : ¬ nI v < nI lo := nI_nlt hr.1 (by omega)
      have c2 : ¬ nI hi < nI v := nI_nlt hr.2 (by omega)
      have c3 := hbar rfl hr.2
      refine ⟨v, I', K', f', e', k', hv, rfl, hr.1, hr.2, ?_, ?_, a3.R, a4.Q, a5, by have := ps.2.2.2.2.1 (by omega); omega⟩
      · unfold F_X7_expectNumber
        simp only [↓bOR hP, h1, ↓reduceIte, c8', ↓bs nc, c1, c2, c3, ↓bs a1]
      · unfold F_X12_takes F_X12_takes_37
        simp only [↓bOM hP, ↓bs m29, one_ne, ↓reduceIte, k10, ↓bs wi, h2, ↓bs a2]
    · right
      rw [if_neg (by omega)] at wi
      obtain ⟨I', K', a1, a2, a3, a4, a5⟩ := fail_St hP J h (w := 3) (by decide)
      have h2' : ¬ K' 164 11 = 0 := by rw [← a5.2.2.1]; exact a5.2.1
      refine ⟨K' 164 10, I', K', ?_, ?_, a3, a4, a5⟩
      · unfold F_X7_expectNumber F_X7_expectNumber_51
        by_cases c1 : v < lo
        · have d1 : nI v < nI lo := nI_lt c1 (by omega)
          simp only [↓bOR hP, h1, ↓reduceIte, c8', ↓bs nc, d1, ↓bs a1]
        · have d1 : ¬ nI v < nI lo := nI_nlt (by omega) (by omega)
          have d2 : nI hi < nI v := nI_lt (by omega) (by omega)
          simp only [↓bOR hP, h1, ↓reduceIte, c8', ↓bs nc, d1, d2, ↓bs a1]
      · unfold F_X12_takes F_X12_takes_37
        simp only [↓bOM hP, ↓bs m29, one_ne, ↓reduceIte, k10, ↓bs wi, ↓bs a2, h2']
  · right
    rw [if_neg k29] at m29
    have c8' := cls3 k29
    obtain ⟨I', K', a1, a2, a3, a4, a5⟩ := fail_St hP J h (w := 2) (by decide)
    have h2' : ¬ K' 164 11 = 0 := by rw [← a5.2.2.1]; exact a5.2.1
    refine ⟨K' 164 10, I', K', ?_, ?_, a3, a4, a5⟩
    · unfold F_X7_expectNumber
      simp only [↓bOR hP, h1, ↓reduceIte, c8, c8', ↓bs a1]
    · unfold F_X12_takes F_X12_takes_37
      simp only [↓bOM hP, ↓bs m29, ↓reduceIte, ↓bs a2, h2']
theorem exN_Bd {P : Nat → Nat → Option Nat} (hP : GP P) {I K : Nat → Nat → Int32} (J : Nat → Nat → Int64) {b : Nat → Nat} {n : Nat} (h : Bd I K b n) (l u bar : Int32) : F_X7_expectNumber 1 l u bar (mm P I J) = some (l, mm P I J) ∧ F_X12_takes 164 l u (mm P K J) = some (K 164 10, mm P K J) := by
  have h1 := h.2.1
  have h2 : ¬ K 164 11 = 0 := by rw [← h.2.2.1]; exact h.2.1
  refine ⟨?_, ?_⟩
  · unfold F_X7_expectNumber
    simp only [↓bOR hP, h1, ↓reduceIte]
  · unfold F_X12_takes F_X12_takes_37
    simp only [↓bOM hP, ↓bs (is_Bd hP J h 29), ↓reduceIte, ↓bs (fails_Bd hP J h 2).2, h2]
theorem Bd.fr {I I' K K' : Nat → Nat → Int32} {b : Nat → Nat} {n : Nat} (h : Bd I K b n) (g1 : ∀ x, I' 2 x = I 2 x) (g2 : ∀ i, i = 2 ∨ i = 3 ∨ (5 ≤ i ∧ i ≤ 8) → I' 1 i = I 1 i) (g3 : I' 3 7 = I 3 7) (g4 : K' 164 11 = K 164 11) (g5 : K' 164 12 = K 164 12) : Bd I' K' b n := by
  obtain ⟨⟨f, e, k, hC⟩, h1, h2, h3, m, m1, m2⟩ := h
  exact ⟨⟨f, e, k, hC.fr (fun i i1 i2 => g2 i (by omega)) g1⟩, by rw [g2 2 (by omega)]; exact h1, by rw [g2 2 (by omega), g4]; exact h2, by rw [g2 3 (by omega), g5]; exact h3, m, m1, by rw [g3]; exact m2⟩
theorem St.fr {I I' K K' : Nat → Nat → Int32} {b : Nat → Nat} {n f e k : Nat} (h : St I K b n f e k) (g1 : ∀ x, I' 2 x = I 2 x) (g2 : ∀ i, i = 2 ∨ i = 3 ∨ (5 ≤ i ∧ i ≤ 8) → I' 1 i = I 1 i) (g3 : I' 3 7 = I 3 7) (g4 : ∀ i, 6 ≤ i → i ≤ 11 → K' 164 i = K 164 i) (g5 : ∀ x, K' 167 x = K 167 x) : St I' K' b n f e k := by
  obtain ⟨hC, hM, h1, h2, m, m1, m2⟩ := h
  exact ⟨hC.fr (fun i i1 i2 => g2 i (by omega)) g1, hM.fr (fun i i1 i2 => g4 i i1 (by omega)) g5, by rw [g2 2 (by omega)]; exact h1, by rw [g4 11 (by omega) (by omega)]; exact h2, m, m1, by rw [g3]; exact m2.1, by rw [g2 3 (by omega)]; exact m2.2⟩
