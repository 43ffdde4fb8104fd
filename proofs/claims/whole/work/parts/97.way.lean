/-! ===== the way back ===== -/
/-- so many steps from one place in the queue back to the first -/
def WayM (I : Nat → Nat → Int32) (q : Nat → Nat) (n : Nat) (ps : Nat → Nat) : Prop := ps n = 0 ∧ ∀ s, s < n → ps (s + 1) < ps s ∧ I 175 (q (ps s)) = nI (q (ps (s + 1))) ∧ ¬ I 174 (51 * q (ps (s + 1)) + q (ps s)) = 0
theorem way_ex {I : Nat → Nat → Int32} {q : Nat → Nat} {len : Nat} (hq : QuM I q len) : ∀ m i, i ≤ m → i < len → ∃ n ps, n ≤ i ∧ ps 0 = i ∧ WayM I q n ps := by
  intro m
  induction m with
  | zero =>
    intro i h1 h2
    exact ⟨0, fun _ => 0, by omega, (show 0 = i by omega), rfl, fun s hs => by omega⟩
  | succ m ih =>
    intro i h1 h2
    by_cases h0 : i = 0
    · exact ⟨0, fun _ => 0, by omega, (show 0 = i by omega), rfl, fun s hs => by omega⟩
    · obtain ⟨p, p1, p2, p3⟩ := hq.2.2.2.2.2.2 i (by omega) h2
      obtain ⟨n, ps, n1, n2, n3, n4⟩ := ih p (by omega) (by omega)
      refine ⟨n + 1, fun s => if s = 0 then i else ps (s - 1), by omega, rfl, ?_, fun s hs => ?_⟩
      · show (if n + 1 = 0 then i else ps (n + 1 - 1)) = 0
        rw [if_neg (by omega)]
        exact n3
      · by_cases e : s = 0
        · subst e
          show ps 0 < i ∧ I 175 (q i) = nI (q (ps 0)) ∧ ¬ I 174 (51 * q (ps 0) + q i) = 0
          rw [n2]
          exact ⟨p1, p2, p3⟩
        · obtain ⟨w1, w2, w3⟩ := n4 (s - 1) (by omega)
          rw [show s - 1 + 1 = s by omega] at w1 w2 w3
          show (if s + 1 = 0 then i else ps (s + 1 - 1)) < (if s = 0 then i else ps (s - 1)) ∧ I 175 (q (if s = 0 then i else ps (s - 1))) = nI (q (if s + 1 = 0 then i else ps (s + 1 - 1))) ∧ ¬ I 174 (51 * q (if s + 1 = 0 then i else ps (s + 1 - 1)) + q (if s = 0 then i else ps (s - 1))) = 0
          rw [if_neg e, if_neg (show ¬ s + 1 = 0 by omega), show s + 1 - 1 = s by omega]
          exact ⟨w1, w2, w3⟩
theorem way_lt {I : Nat → Nat → Int32} {q : Nat → Nat} {n : Nat} {ps : Nat → Nat} (h : WayM I q n ps) : ∀ d s, s + d ≤ n → 0 < d → ps (s + d) < ps s
  | 0, s, _, h0 => by omega
  | d + 1, s, hs, _ => by
    have w := (h.2 (s + d) (by omega)).1
    by_cases e : d = 0
    · subst e
      exact w
    · have := way_lt h d s (by omega) (by omega)
      rw [show s + (d + 1) = s + d + 1 by omega]
      omega
theorem way_le {I : Nat → Nat → Int32} {q : Nat → Nat} {n : Nat} {ps : Nat → Nat} (h : WayM I q n ps) (s : Nat) (hs : s ≤ n) : ps s ≤ ps 0 := by
  by_cases e : s = 0
  · rw [e]; omega
  · have := way_lt h s 0 (by omega) (by omega)
    rw [Nat.zero_add] at this
    omega
/-- no node twice on the way -/
theorem way_inj {I : Nat → Nat → Int32} {q : Nat → Nat} {len n : Nat} {ps : Nat → Nat} (hq : QuM I q len) (h : WayM I q n ps) (h0 : ps 0 < len) {s s' : Nat} (hs : s ≤ n) (hs' : s' ≤ n) (e : q (ps s) = q (ps s')) : s = s' := by
  have l1 := way_le h s hs
  have l2 := way_le h s' hs'
  have e2 := hq.2.2.2.2.1 _ _ (show ps s < len by omega) (show ps s' < len by omega) e
  rcases Nat.lt_or_ge s s' with g | g
  · have := way_lt h (s' - s) s (by omega) (by omega)
    rw [show s + (s' - s) = s' by omega] at this
    omega
  · rcases Nat.lt_or_ge s' s with g2 | g2
    · have := way_lt h (s - s') s' (by omega) (by omega)
      rw [show s' + (s - s') = s by omega] at this
      omega
    · omega
/-- the sea stands first in the queue alone -/
theorem way_sea {I : Nat → Nat → Int32} {q : Nat → Nat} {len n : Nat} {ps : Nat → Nat} (hq : QuM I q len) (h : WayM I q n ps) (h0 : ps 0 < len) {s : Nat} (hs : s < n) : q (ps s) ≠ 50 := fun z => by
  have e : q (ps n) = 50 := by rw [h.1]; exact hq.2.1
  have := way_inj hq h h0 (s := s) (s' := n) (by omega) (by omega) (by rw [z, e])
  omega
/-- the least room on the way -/
def roomN (I : Nat → Nat → Int32) (q : Nat → Nat) (ps : Nat → Nat) : Nat → Int32
  | 0 => 268435456
  | s + 1 => if roomN I q ps s ≤ I 174 (51 * q (ps (s + 1)) + q (ps s)) then roomN I q ps s else I 174 (51 * q (ps (s + 1)) + q (ps s))
theorem way32 {P : Nat → Nat → Option Nat} (hP : GP P) {I : Nat → Nat → Int32} {J : Nat → Nat → Int64} {q : Nat → Nat} {len n : Nat} {ps : Nat → Nat} (hq : QuM I q len) (h : WayM I q n ps) (h0 : ps 0 < len) (v3 v4 : Int32) : F_X12_leastFor_32 164 v3 v4 268435456 (nI (q (ps 0))) (mm P I J) = F_X12_leastFor_99 164 v3 v4 (roomN I q ps n) (mm P I J) := by
  have hn : n ≤ 1000 := by
    have l51 : len ≤ 51 := by have := hq.2.2.1; omega
    by_cases e : n = 0
    · omega
    · have : ∀ d, d ≤ n → ps d + d ≤ ps 0 := fun d => by
        induction d with
        | zero => intro _; omega
        | succ d ih =>
          intro hd
          have a := ih (by omega)
          have b := (h.2 d (by omega)).1
          omega
      have := this n (by omega)
      omega
  unfold F_X12_leastFor_32
  refine xit_run (fun s => (roomN I q ps s, nI (q (ps s)), mm P I J)) n rfl (fun s hs => ?_) ?_ (by omega)
  · have ps1 := way_le h s (by omega)
    have ps2 := way_le h (s + 1) (by omega)
    have qa := (hq.2.2.2.1 (ps s) (by omega)).1
    have qb := (hq.2.2.2.1 (ps (s + 1)) (by omega)).1
    have ne := way_sea hq h h0 hs
    have c1 : ¬ nI (q (ps s)) = (50 : Int32) := fun z => ne ((nI_eqI (b := 50) (by omega) (by omega)).mp z)
    obtain ⟨w1, w2, w3⟩ := h.2 s hs
    have ix : (51 : Int32) * nI (q (ps (s + 1))) + nI (q (ps s)) = nI (51 * q (ps (s + 1)) + q (ps s)) := by rw [show (51 : Int32) = nI 51 from rfl, pk_mul, nI_add]
    have e : roomN I q ps (s + 1) = if roomN I q ps s ≤ I 174 (51 * q (ps (s + 1)) + q (ps s)) then roomN I q ps s else I 174 (51 * q (ps (s + 1)) + q (ps s)) := rfl
    rw [e]
    unfold F_X12_leastFor_32b F_X12_leastFor_85
    by_cases hr : roomN I q ps s ≤ I 174 (51 * q (ps (s + 1)) + q (ps s))
    · simp (disch := omega) only [↓reduceIte, c1, ↓bOM hP, ↓bAM, w2, ix, hr]
    · simp (disch := omega) only [↓reduceIte, c1, ↓bOM hP, ↓bAM, w2, ix, hr]
  · have e50 : nI (q (ps n)) = (50 : Int32) := by rw [h.1, hq.2.1]; rfl
    simp only [F_X12_leastFor_32b, ↓reduceIte, e50]
