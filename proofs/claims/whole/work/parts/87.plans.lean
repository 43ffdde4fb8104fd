/-! ===== plots that can be built: sums ===== -/
theorem sumN_cg {f g : Nat → Nat} : ∀ n, (∀ p, p < n → f p = g p) → sumN f n = sumN g n
  | 0, _ => rfl
  | n + 1, h => by
    show sumN f n + f n = sumN g n + g n
    rw [sumN_cg n (fun p hp => h p (by omega)), h n (by omega)]
theorem sumN_mono {f g : Nat → Nat} : ∀ n, (∀ p, p < n → f p ≤ g p) → sumN f n ≤ sumN g n
  | 0, _ => Nat.le_refl _
  | n + 1, h => by
    have := sumN_mono n (fun p hp => h p (by omega))
    have := h n (by omega)
    show sumN f n + f n ≤ sumN g n + g n
    omega
theorem sumN_upd {f g : Nat → Nat} {j : Nat} : ∀ n, j < n → (∀ p, p < n → p ≠ j → f p = g p) → sumN f n + g j = sumN g n + f j
  | 0, h, _ => by omega
  | n + 1, hj, h => by
    show sumN f n + f n + g j = sumN g n + g n + f j
    by_cases e : j = n
    · rw [e, sumN_cg n (fun p hp => h p (by omega) (by omega))]
      omega
    · have := sumN_upd n (show j < n by omega) (fun p hp => h p (by omega))
      rw [h n (by omega) (by omega)]
      omega
theorem sumN_ge {f : Nat → Nat} {j : Nat} : ∀ n, j < n → f j ≤ sumN f n
  | 0, h => by omega
  | n + 1, hj => by
    show f j ≤ sumN f n + f n
    by_cases e : j = n
    · rw [e]; omega
    · have := sumN_ge (f := f) n (show j < n by omega)
      omega
/-- plots: how many, deadline, minutes, worth -/
abbrev Plo : Type := Nat × (Nat → Nat) × (Nat → Nat) × (Nat → Nat)
def pK (q : Plo) : Nat := q.1
def pD (q : Plo) : Nat → Nat := q.2.1
def pM (q : Plo) : Nat → Nat := q.2.2.1
def pW (q : Plo) : Nat → Nat := q.2.2.2
def wfP (q : Plo) : Prop := pK q ≤ 6 ∧ ∀ p, p < pK q → pD q p ≤ 60 ∧ pM q p ≤ 9 ∧ pW q p ≤ 9
def worN (q : Plo) (s : Nat) : Nat → Nat := sumN (fun p => if s.testBit p = true then pW q p else 0)
def dueN (q : Plo) (s d : Nat) : Nat → Nat := sumN (fun p => if s.testBit p = true ∧ pD q p ≤ d then pM q p else 0)
def dueB (q : Plo) (s e j : Nat) : Nat := sumN (fun p => if s.testBit p = true ∧ (pD q p < e ∨ pD q p = e ∧ p < j) then pM q p else 0) (pK q)
theorem sum54 {f : Nat → Nat} : ∀ n, (∀ p, p < n → f p ≤ 9) → sumN f n ≤ 9 * n
  | 0, _ => Nat.le_refl _
  | n + 1, h => by
    have := sum54 n (fun p hp => h p (by omega))
    have := h n (by omega)
    show sumN f n + f n ≤ 9 * (n + 1)
    omega
theorem wor_le {q : Plo} (hq : wfP q) (s : Nat) {n : Nat} (hn : n ≤ pK q) : worN q s n ≤ 54 := by
  have h := sum54 (f := fun p => if s.testBit p = true then pW q p else 0) n (fun p hp => by
    have := hq.2 p (by omega)
    split <;> omega)
  have := hq.1
  unfold worN
  omega
theorem due_le {q : Plo} (hq : wfP q) (s d : Nat) {n : Nat} (hn : n ≤ pK q) : dueN q s d n ≤ 54 := by
  have h := sum54 (f := fun p => if s.testBit p = true ∧ pD q p ≤ d then pM q p else 0) n (fun p hp => by
    have := hq.2 p (by omega)
    split <;> omega)
  have := hq.1
  unfold dueN
  omega
theorem dueB_le {q : Plo} (hq : wfP q) (s e j : Nat) : dueB q s e j ≤ 54 := by
  have h := sum54 (f := fun p => if s.testBit p = true ∧ (pD q p < e ∨ pD q p = e ∧ p < j) then pM q p else 0) (pK q) (fun p hp => by
    have := hq.2 p (by omega)
    split <;> omega)
  have := hq.1
  unfold dueB
  omega
theorem dueB_in {q : Plo} {s e j : Nat} (hj : j < pK q) (h : s.testBit j = true ∧ pD q j = e) : dueB q s e (j + 1) = dueB q s e j + pM q j := by
  have u := sumN_upd (f := fun p => if s.testBit p = true ∧ (pD q p < e ∨ pD q p = e ∧ p < j) then pM q p else 0) (g := fun p => if s.testBit p = true ∧ (pD q p < e ∨ pD q p = e ∧ p < j + 1) then pM q p else 0) (pK q) hj (fun p hp hn => by
    by_cases hc : s.testBit p = true ∧ (pD q p < e ∨ pD q p = e ∧ p < j)
    · rw [if_pos hc, if_pos ⟨hc.1, by omega⟩]
    · rw [if_neg hc, if_neg (fun z => hc ⟨z.1, by omega⟩)])
  rw [if_pos ⟨h.1, Or.inr ⟨h.2, by omega⟩⟩, if_neg (fun z => by omega)] at u
  unfold dueB
  omega
theorem dueB_out {q : Plo} {s e j : Nat} (h : ¬ (s.testBit j = true ∧ pD q j = e)) : dueB q s e (j + 1) = dueB q s e j := by
  unfold dueB
  refine sumN_cg _ fun p hp => ?_
  by_cases hc : s.testBit p = true ∧ (pD q p < e ∨ pD q p = e ∧ p < j)
  · rw [if_pos hc, if_pos ⟨hc.1, by omega⟩]
  · rw [if_neg hc, if_neg (fun z => by
      by_cases e1 : p = j
      · subst e1
        exact h ⟨z.1, Classical.byContradiction fun y => hc ⟨z.1, by omega⟩⟩
      · exact hc ⟨z.1, by omega⟩)]
theorem dueB_0 {q : Plo} {s : Nat} : dueB q s 0 0 = 0 := by
  unfold dueB
  have h := sumN_mono (f := fun p => if s.testBit p = true ∧ (pD q p < 0 ∨ pD q p = 0 ∧ p < 0) then pM q p else 0) (g := fun _ => 0) (pK q) (fun p hp => by
    rw [if_neg (fun z => by omega)]
    omega)
  have h2 : ∀ n, sumN (fun _ => 0) n = 0 := fun n => by
    induction n with
    | zero => rfl
    | succ n ih => show sumN _ n + 0 = 0; rw [ih]
  rw [h2] at h
  omega
theorem dueB_k {q : Plo} {s e : Nat} : dueB q s e (pK q) = dueN q s e (pK q) := by
  unfold dueB dueN
  refine sumN_cg _ fun p hp => ?_
  by_cases hc : s.testBit p = true ∧ pD q p ≤ e
  · rw [if_pos hc, if_pos ⟨hc.1, by omega⟩]
  · rw [if_neg hc, if_neg (fun z => hc ⟨z.1, by omega⟩)]
theorem dueB_s {q : Plo} {s e : Nat} : dueB q s (e + 1) 0 = dueB q s e (pK q) := by
  unfold dueB
  refine sumN_cg _ fun p hp => ?_
  by_cases hc : s.testBit p = true ∧ (pD q p < e ∨ pD q p = e ∧ p < pK q)
  · rw [if_pos hc, if_pos ⟨hc.1, by omega⟩]
  · rw [if_neg hc, if_neg (fun z => hc ⟨z.1, by omega⟩)]
theorem dueB_N {q : Plo} {s e j : Nat} : dueB q s e j ≤ dueN q s e (pK q) := by
  unfold dueB dueN
  refine sumN_mono _ fun p hp => ?_
  by_cases hc : s.testBit p = true ∧ (pD q p < e ∨ pD q p = e ∧ p < j)
  · rw [if_pos hc, if_pos ⟨hc.1, by omega⟩]
    omega
  · rw [if_neg hc]
    omega
def canP (q : Plo) (s st : Nat) (p : Nat) : Bool := !s.testBit p || decide (st + dueN q s (pD q p) (pK q) ≤ pD q p)
def canB (q : Plo) (s st : Nat) : Bool := allN (canP q s st) (pK q)
theorem canB_iff {q : Plo} {s st : Nat} : canB q s st = true ↔ ∀ p, p < pK q → s.testBit p = true → st + dueN q s (pD q p) (pK q) ≤ pD q p := by
  unfold canB
  rw [allN_iff]
  constructor
  · intro h p hp hb
    have := h p hp
    unfold canP at this
    rw [hb] at this
    simpa using this
  · intro h p hp
    unfold canP
    cases hb : s.testBit p with
    | false => rfl
    | true =>
      have := h p hp hb
      simpa using this
/-! ===== the class ===== -/
def PlC (I : Nat → Nat → Int32) (q : Plo) : Prop := I 14 5 = nI (pK q) ∧ ∀ p, p < pK q → I 121 p = nI (pD q p) ∧ I 16 p = nI (pM q p) ∧ I 17 p = nI (pW q p)
theorem worth_C {P : Nat → Nat → Option Nat} (hP : GP P) {I : Nat → Nat → Int32} {J : Nat → Nat → Int64} {q : Plo} (hq : wfP q) (h : PlC I q) {s : Nat} (hs : s < 64) : F_X6_worthOf 14 (nI s) (mm P I J) = some (nI (worN q s (pK q)), mm P I J) := by
  have hk := hq.1
  unfold F_X6_worthOf F_X6_worthOf_4
  refine xit_run (fun j => (nI (worN q s j), nI j, mm P I J)) (pK q) rfl (fun j hj => ?_) ?_ (by omega)
  · have c1 : ¬ nI (pK q) ≤ nI j := nI_ge hj (by omega)
    have bt := bitN (s := s) (c := j) (by omega) (by omega)
    have w := (h.2 j hj).2.2
    have e : worN q s (j + 1) = worN q s j + (if s.testBit j = true then pW q j else 0) := rfl
    rw [e]
    cases hb : s.testBit j with
    | false =>
      rw [hb] at bt
      simp only [F_X6_worthOf_4b, F_X6_worthOf_29, ↓bOC hP, h.1, ↓reduceIte, c1, bt, Bool.false_eq_true, nI_1, Nat.add_zero]
    | true =>
      rw [hb] at bt
      simp (disch := omega) only [F_X6_worthOf_4b, F_X6_worthOf_29, ↓bOC hP, h.1, ↓reduceIte, c1, bt, one_ne, ↓bAC, w, Option.bind_some, nI_1, nI_add]
  · have c1 : nI (pK q) ≤ nI (pK q) := nI_le (Nat.le_refl _) (by omega)
    simp only [F_X6_worthOf_4b, F_X6_worthOf_35, ↓bOC hP, h.1, ↓reduceIte, c1]
theorem due_C {P : Nat → Nat → Option Nat} (hP : GP P) {I : Nat → Nat → Int32} {J : Nat → Nat → Int64} {q : Plo} (hq : wfP q) (h : PlC I q) {s d : Nat} (hs : s < 64) (hd : d ≤ 60) : F_X6_dueBy 120 14 (nI s) (nI d) (mm P I J) = some (nI (dueN q s d (pK q)), mm P I J) := by
  have hk := hq.1
  unfold F_X6_dueBy F_X6_dueBy_6
  refine xit_run (fun j => (nI (dueN q s d j), nI j, mm P I J)) (pK q) rfl (fun j hj => ?_) ?_ (by omega)
  · have c1 : ¬ nI (pK q) ≤ nI j := nI_ge hj (by omega)
    have bt := bitN (s := s) (c := j) (by omega) (by omega)
    obtain ⟨w1, w2, w3⟩ := h.2 j hj
    have hw := hq.2 j hj
    have e : dueN q s d (j + 1) = dueN q s d j + (if s.testBit j = true ∧ pD q j ≤ d then pM q j else 0) := rfl
    rw [e]
    cases hb : s.testBit j with
    | false =>
      rw [hb] at bt
      simp only [F_X6_dueBy_6b, F_X6_dueBy_47, ↓bOC hP, h.1, ↓reduceIte, c1, bt, Bool.false_eq_true, false_and, nI_1, Nat.add_zero]
    | true =>
      rw [hb] at bt
      by_cases hd2 : pD q j ≤ d
      · have c2 : ¬ nI d < nI (pD q j) := nI_nlt (by omega) (by omega)
        simp (disch := omega) only [F_X6_dueBy_6b, F_X6_dueBy_47, ↓bOC hP, h.1, ↓reduceIte, c1, bt, one_ne, ↓bOX hP, ↓bAX, w1, c2, ↓bAC, w2, Option.bind_some, nI_1, nI_add, hd2, and_self]
      · have c2 : nI d < nI (pD q j) := nI_lt (by omega) (by omega)
        simp (disch := omega) only [F_X6_dueBy_6b, F_X6_dueBy_47, ↓bOC hP, h.1, ↓reduceIte, c1, bt, one_ne, ↓bOX hP, ↓bAX, w1, c2, nI_1, hd2, and_false, Nat.add_zero]
  · have c1 : nI (pK q) ≤ nI (pK q) := nI_le (Nat.le_refl _) (by omega)
    simp only [F_X6_dueBy_6b, F_X6_dueBy_53, ↓bOC hP, h.1, ↓reduceIte, c1]
theorem can_C {P : Nat → Nat → Option Nat} (hP : GP P) {I : Nat → Nat → Int32} {J : Nat → Nat → Int64} {q : Plo} (hq : wfP q) (h : PlC I q) {s st : Nat} (hs : s < 64) (hst : st ≤ 1000) : F_X6_canBeBuilt 120 14 (nI s) (nI st) (mm P I J) = some (if canB q s st then 1 else 0, mm P I J) := by
  have hk := hq.1
  unfold F_X6_canBeBuilt F_X6_canBeBuilt_3
  have al := all_loop (f := F_X6_canBeBuilt_3b 120 14 (nI s) (nI st)) (M := mm P I J) (canP q s st) (pK q) (rt := ((1 : Int32), mm P I J)) (rf := ((0 : Int32), mm P I J)) (fun j hj => ?_) ?_ (by omega)
  · rw [al]
    unfold canB
    split <;> rfl
  · have c1 : ¬ nI (pK q) ≤ nI j := nI_ge hj (by omega)
    have bt := bitN (s := s) (c := j) (by omega) (by omega)
    obtain ⟨w1, w2, w3⟩ := h.2 j hj
    have hw := hq.2 j hj
    have du := due_C hP (J := J) hq h (d := pD q j) hs (by omega)
    have dl := due_le hq s (pD q j) (Nat.le_refl (pK q))
    unfold canP
    cases hb : s.testBit j with
    | false =>
      rw [hb] at bt
      simp only [F_X6_canBeBuilt_3b, F_X6_canBeBuilt_48, ↓bOC hP, h.1, ↓reduceIte, c1, bt, Bool.false_eq_true, nI_1, Bool.not_false, Bool.true_or]
    | true =>
      rw [hb] at bt
      have le : nI (st + dueN q s (pD q j) (pK q)) ≤ nI (pD q j) ↔ st + dueN q s (pD q j) (pK q) ≤ pD q j := nI_leI (by omega) (by omega)
      simp (disch := omega) only [F_X6_canBeBuilt_3b, F_X6_canBeBuilt_48, F_X6_canBeBuilt_46, ↓bOC hP, h.1, ↓reduceIte, c1, bt, one_ne, ↓bOX hP, ↓bAX, w1, ↓bs du, nI_1, nI_add, le, xz0, Option.bind_some, Option.map_some]
      by_cases hc : st + dueN q s (pD q j) (pK q) ≤ pD q j
      · simp [hc]
      · simp [hc]
  · have c1 : nI (pK q) ≤ nI (pK q) := nI_le (Nat.le_refl _) (by omega)
    simp only [F_X6_canBeBuilt_3b, F_X6_canBeBuilt_54, ↓bOC hP, h.1, ↓reduceIte, c1, xz1, Option.bind_some, Option.map_some]
def bestP (q : Plo) : Nat → Nat
  | 0 => 0
  | j + 1 => if worN q (j + 1) (pK q) ≤ worN q (bestP q j) (pK q) then bestP q j else if canB q (j + 1) 0 then j + 1 else bestP q j
theorem bestP_le (q : Plo) : ∀ j, bestP q j ≤ j
  | 0 => Nat.le_refl _
  | j + 1 => by
    have := bestP_le q j
    unfold bestP
    split
    · omega
    · split <;> omega
theorem canB_0 (q : Plo) (st : Nat) : canB q 0 st = true := canB_iff.mpr fun p _ h => by rw [Nat.zero_testBit] at h; cases h
theorem bestP_can (q : Plo) : ∀ j, canB q (bestP q j) 0 = true
  | 0 => canB_0 q 0
  | j + 1 => by
    have := bestP_can q j
    unfold bestP
    split
    · exact this
    · split
      · assumption
      · exact this
theorem pow6 {k : Nat} (h : k ≤ 6) : 1 ≤ 2 ^ k ∧ 2 ^ k ≤ 64 := ⟨Nat.pow_pos (by omega), Nat.le_trans (Nat.pow_le_pow_right (by omega) h) (by omega)⟩
theorem best_C {P : Nat → Nat → Option Nat} (hP : GP P) {I : Nat → Nat → Int32} {J : Nat → Nat → Int64} {q : Plo} (hq : wfP q) (h : PlC I q) : F_X6_bestSet 120 14 (mm P I J) = some (nI (bestP q (2 ^ pK q - 1)), mm P I J) := by
  have hk := hq.1
  obtain ⟨k1, k2⟩ := pow6 hk
  have sh := one_shl (c := pK q) (by omega)
  have z0 : worN q 0 (pK q) = 0 := by
    have := sumN_cg (f := fun p => if (0 : Nat).testBit p = true then pW q p else 0) (g := fun _ => 0) (pK q) (fun p _ => by rw [Nat.zero_testBit]; rfl)
    unfold worN
    rw [this]
    have h2 : ∀ n, sumN (fun _ => 0) n = 0 := fun n => by
      induction n with
      | zero => rfl
      | succ n ih => show sumN _ n + 0 = 0; rw [ih]
    exact h2 _
  unfold F_X6_bestSet F_X6_bestSet_7
  refine xit_run (fun j => (nI (bestP q j), nI (worN q (bestP q j) (pK q)), nI (j + 1), mm P I J)) (2 ^ pK q - 1) (by show (nI 0, nI (worN q 0 (pK q)), nI 1, mm P I J) = _; rw [z0]; rfl) (fun j hj => ?_) ?_ (by omega)
  · have c1 : ¬ nI (2 ^ pK q) ≤ nI (j + 1) := nI_ge (by omega) (by omega)
    have w := worth_C hP (J := J) hq h (s := j + 1) (by omega)
    have cb := can_C hP (J := J) hq h (s := j + 1) (st := 0) (by omega) (by omega)
    have cb' : F_X6_canBeBuilt 120 14 (nI (j + 1)) (0 : Int32) (mm P I J) = some (if canB q (j + 1) 0 then 1 else 0, mm P I J) := cb
    have l1 := wor_le hq (j + 1) (Nat.le_refl (pK q))
    have l2 := wor_le hq (bestP q j) (Nat.le_refl (pK q))
    have le : nI (worN q (j + 1) (pK q)) ≤ nI (worN q (bestP q j) (pK q)) ↔ worN q (j + 1) (pK q) ≤ worN q (bestP q j) (pK q) := nI_leI (by omega) (by omega)
    have e : bestP q (j + 1) = if worN q (j + 1) (pK q) ≤ worN q (bestP q j) (pK q) then bestP q j else if canB q (j + 1) 0 then j + 1 else bestP q j := rfl
    rw [e]
    simp only [F_X6_bestSet_7b, F_X6_bestSet_49, ↓bOC hP, h.1, sh, ↓reduceIte, c1, ↓bs w, le, ↓bOX hP, ↓bs cb', nI_1]
    by_cases g : worN q (j + 1) (pK q) ≤ worN q (bestP q j) (pK q)
    · simp only [if_pos g]
    · simp only [if_neg g]
      cases canB q (j + 1) 0 <;> simp
  · have c1 : nI (2 ^ pK q) ≤ nI (2 ^ pK q - 1 + 1) := nI_le (by omega) (by omega)
    simp only [F_X6_bestSet_7b, F_X6_bestSet_55, ↓bOC hP, h.1, sh, ↓reduceIte, c1]
