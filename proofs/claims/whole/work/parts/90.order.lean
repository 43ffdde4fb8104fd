/-! ===== plan ===== -/
theorem pl_ScC {P : Nat → Nat → Option Nat} {I I' : Nat → Nat → Int32} {J : Nat → Nat → Int64} (h : ∀ a i, ¬ (25 ≤ a ∧ a ≤ 28) → a ≠ 31 → a ≠ 32 → a ≠ 33 → a ≠ 121 → I' a i = I a i) : Sc (mm P I J) (mm P I' J) := Sc_mm (fun k i g => by
  unfold scr at g
  exact h k i (by omega) (by omega) (by omega) (by omega) (by omega)) (fun _ _ _ => rfl)
theorem pl_ScM {P : Nat → Nat → Option Nat} {I I' : Nat → Nat → Int32} {J : Nat → Nat → Int64} (h : ∀ a i, ¬ (a = 164 ∧ (i = 20 ∨ i = 21)) → a ≠ 169 → a ≠ 170 → a ≠ 171 → a ≠ 172 → a ≠ 177 → I' a i = xu I 164 0 0 a i) : Sc (mm P I J) (mm P I' J) := Sc_mm (fun k i g => by
  unfold scr at g
  rw [h k i (by omega) (by omega) (by omega) (by omega) (by omega) (by omega), xu_o (by omega)]) (fun _ _ _ => rfl)
theorem sim_plan (a1 : Int32) : xSim INV (F_X11_plan 0 a1) (F_X12_plan 164 a1) := by
  refine xSim_qn fun n M hn hI => ?_
  obtain ⟨P, I, J, rfl, hP⟩ := G_mm hI.1
  obtain ⟨t, c, cs, nx, hw, hL, hA, hc, hC, hD, -⟩ := INV_sh hI
  have z0 : (0 : Int64).toInt = 0 := by decide
  have z1 : (1 : Int64).toInt = 1 := by decide
  rcases in01 a1 with ⟨h1, h2⟩ | ⟨⟨h1, h1'⟩, h2⟩
  · refine ⟨-2, mm P I J, mm P (xu I 164 0 0) J, ?_, Sc.rf, ?_, thr_Sc⟩
    · rcases h1 with h1 | h1
      · simp only [F_X11_plan, ↓reduceIte, h1]
      · simp only [F_X11_plan, ↓reduceIte, h1, ite_self]
    · simp only [F_X12_plan, ↓bOM hP, ↓reduceIte, within_lit, ↓Option.bind_some, z0, z1, if_neg h2]
  · obtain ⟨I1, e1, e2, e3⟩ := dead_C hP (I := I) (J := J) hw hc hn hL hC
    have e165 : ∀ i, xu I1 164 0 0 165 i = I 165 i := fun i => by rw [xu_o (by omega), e2 _ _ (by omega) (by omega) (by omega) (by omega) (by omega)]
    obtain ⟨I2, r1, r2, r3⟩ := until_M hP (I := xu I1 164 0 0) (J := J) hw hc hn (LandA_cg (A := I 165) hw (fun x _ => e165 _) hA) (CoastA_cg (A := I 165) hw hc (fun x _ => e165 _) hD)
    have wq : wfP (qPl t c 60) := qPl_wf hw c (by omega)
    have bl := bestP_le (qPl t c 60) (2 ^ pK (qPl t c 60) - 1)
    obtain ⟨k1, k2⟩ := pow6 wq.1
    have bC := best_C hP (J := J) wq e3
    have bM := best_M hP (J := J) wq r3
    have wC := worth_C hP (J := J) wq e3 (s := bestP (qPl t c 60) (2 ^ pK (qPl t c 60) - 1)) (by omega)
    have wM := worth_M hP (J := J) wq r3 (s := bestP (qPl t c 60) (2 ^ pK (qPl t c 60) - 1)) (by omega)
    refine ⟨if a1 = 0 then nI (worN (qPl t c 60) (bestP (qPl t c 60) (2 ^ pK (qPl t c 60) - 1)) (pK (qPl t c 60))) else nI (bestP (qPl t c 60) (2 ^ pK (qPl t c 60) - 1)), mm P I1 J, mm P I2 J, ?_, pl_ScC e2, ?_, pl_ScM r2⟩
    · by_cases ha : a1 = 0
      · subst ha
        simp only [F_X11_plan, ↓reduceIte, h1, h1', ↓bOC hP, ↓bs e1, ↓bOX hP, ↓bs bC, ↓bs wC]
      · simp only [F_X11_plan, ↓reduceIte, h1, h1', ↓bOC hP, ↓bs e1, ↓bOX hP, ↓bs bC, ha]
    · by_cases ha : a1 = 0
      · subst ha
        simp only [F_X12_plan, F_X12_bestPlots, ↓bOM hP, one_ne, ↓reduceIte, within_lit, ↓Option.bind_some, z0, z1, if_pos h2, ↓bs r1, ↓bs bM, ↓bs wM]
      · simp only [F_X12_plan, F_X12_bestPlots, ↓bOM hP, one_ne, ↓reduceIte, within_lit, ↓Option.bind_some, z0, z1, if_pos h2, ↓bs r1, ↓bs bM, ha]
/-! ===== order ===== -/
def nxB (q : Plo) (s st p : Nat) : Bool := s.testBit p && (decide (st + pM q p ≤ pD q p) && canB q (anot s (2 ^ p)) (st + pM q p))
def fstN (f : Nat → Bool) : Nat → Nat
  | 0 => 0
  | n + 1 => if fstN f n < n then fstN f n else if f n then n else n + 1
theorem fstN_all (f : Nat → Bool) : ∀ n, fstN f n ≤ n ∧ (fstN f n < n → f (fstN f n) = true) ∧ ∀ i, i < fstN f n → f i = false
  | 0 => ⟨Nat.le_refl _, fun h => absurd h (by unfold fstN; omega), fun i hi => by unfold fstN at hi; omega⟩
  | n + 1 => by
    obtain ⟨h1, h2, h3⟩ := fstN_all f n
    have e : fstN f (n + 1) = if fstN f n < n then fstN f n else if f n then n else n + 1 := rfl
    rw [e]
    by_cases g : fstN f n < n
    · rw [if_pos g]
      exact ⟨by omega, fun _ => h2 g, h3⟩
    · rw [if_neg g]
      have e2 : fstN f n = n := by omega
      rw [e2] at h3
      cases hf : f n with
      | true =>
        rw [if_pos rfl]
        exact ⟨by omega, fun _ => hf, h3⟩
      | false =>
        rw [if_neg (by decide)]
        refine ⟨by omega, fun h => by omega, fun i hi => ?_⟩
        by_cases ei : i = n
        · rw [ei]; exact hf
        · exact h3 i (by omega)
theorem fstN_ex {f : Nat → Bool} {n p : Nat} (hp : p < n) (h : f p = true) : fstN f n < n := by
  obtain ⟨h1, h2, h3⟩ := fstN_all f n
  rcases Nat.lt_or_ge (fstN f n) n with g | g
  · exact g
  · have := h3 p (by omega)
    rw [h] at this
    cases this
theorem due_rem {q : Plo} {s p d : Nat} (hp : p < pK q) (hb : s.testBit p = true) (hd : pD q p ≤ d) : dueN q (anot s (2 ^ p)) d (pK q) + pM q p = dueN q s d (pK q) := by
  have u := sumN_upd (f := fun i => if (anot s (2 ^ p)).testBit i = true ∧ pD q i ≤ d then pM q i else 0) (g := fun i => if s.testBit i = true ∧ pD q i ≤ d then pM q i else 0) (pK q) hp (fun i hi hn => by
    rw [anot_bit, Nat.testBit_two_pow_of_ne (fun z => hn z.symm)]
    simp)
  have e1 : (anot s (2 ^ p)).testBit p = false := by rw [anot_bit, Nat.testBit_two_pow_self]; simp
  rw [e1, if_pos ⟨hb, hd⟩, if_neg (fun z => by cases z.1)] at u
  unfold dueN
  omega
/-- the least of what is there -/
theorem least_in {f : Nat → Nat} {b : Nat → Bool} : ∀ n, (∃ p, p < n ∧ b p = true) → ∃ p, p < n ∧ b p = true ∧ ∀ i, i < n → b i = true → f p ≤ f i
  | 0, ⟨p, hp, _⟩ => by omega
  | n + 1, ⟨p, hp, hb⟩ => by
    by_cases hx : ∃ p, p < n ∧ b p = true
    · obtain ⟨r, r1, r2, r3⟩ := least_in (f := f) n hx
      cases hn : b n with
      | false =>
        refine ⟨r, by omega, r2, fun i hi h => ?_⟩
        by_cases e : i = n
        · rw [e, hn] at h; cases h
        · exact r3 i (by omega) h
      | true =>
        by_cases g : f r ≤ f n
        · refine ⟨r, by omega, r2, fun i hi h => ?_⟩
          by_cases e : i = n
          · rw [e]; exact g
          · exact r3 i (by omega) h
        · refine ⟨n, by omega, hn, fun i hi h => ?_⟩
          by_cases e : i = n
          · rw [e]; omega
          · have := r3 i (by omega) h
            omega
    · have e : p = n := by
        rcases Nat.lt_or_ge p n with g | g
        · exact absurd ⟨p, g, hb⟩ hx
        · omega
      refine ⟨n, by omega, by rw [← e]; exact hb, fun i hi h => ?_⟩
      by_cases e2 : i = n
      · rw [e2]; omega
      · exact absurd ⟨i, by omega, h⟩ hx
theorem nx_ex {q : Plo} {s st : Nat} (hs : s < 2 ^ pK q) (h0 : s ≠ 0) (hc : canB q s st = true) : ∃ p, p < pK q ∧ nxB q s st p = true := by
  have hx : ∃ p, p < pK q ∧ s.testBit p = true := by
    apply Classical.byContradiction
    intro hn
    apply h0
    apply Nat.eq_of_testBit_eq
    intro i
    rw [Nat.zero_testBit]
    cases hb : s.testBit i with
    | false => rfl
    | true =>
      rcases Nat.lt_or_ge i (pK q) with g | g
      · exact absurd ⟨i, g, hb⟩ hn
      · have p : 2 ^ pK q ≤ 2 ^ i := Nat.pow_le_pow_right (by omega) g
        have := Nat.testBit_lt_two_pow (x := s) (i := i) (by omega)
        rw [hb] at this
        cases this
  obtain ⟨p, p1, p2, p3⟩ := least_in (f := pD q) (pK q) hx
  have hcp := canB_iff.mp hc
  have d1 := due_rem p1 p2 (Nat.le_refl (pD q p))
  have h1 := hcp p p1 p2
  refine ⟨p, p1, ?_⟩
  unfold nxB
  have c2 : canB q (anot s (2 ^ p)) (st + pM q p) = true := canB_iff.mpr fun i hi hb => by
    rw [anot_bit] at hb
    have hbi : s.testBit i = true := by
      cases hx : s.testBit i with
      | true => rfl
      | false => rw [hx] at hb; cases hb
    have d2 := due_rem p1 p2 (p3 i hi hbi)
    have h2 := hcp i hi hbi
    omega
  rw [p2, c2, decide_eq_true (by omega)]
  rfl
def nxP (q : Plo) (s st : Nat) : Nat := fstN (nxB q s st) (pK q)
def seqP (q : Plo) (s0 : Nat) : Nat → Nat × Nat
  | 0 => (s0, 0)
  | j + 1 => if (seqP q s0 j).1 = 0 then seqP q s0 j else (anot (seqP q s0 j).1 (2 ^ nxP q (seqP q s0 j).1 (seqP q s0 j).2), (seqP q s0 j).2 + pM q (nxP q (seqP q s0 j).1 (seqP q s0 j).2))
theorem seq_0 {q : Plo} {s0 j : Nat} (h : (seqP q s0 j).1 = 0) : ∀ d, seqP q s0 (j + d) = seqP q s0 j
  | 0 => rfl
  | d + 1 => by
    have ih := seq_0 h d
    have e : seqP q s0 (j + (d + 1)) = if (seqP q s0 (j + d)).1 = 0 then seqP q s0 (j + d) else (anot (seqP q s0 (j + d)).1 (2 ^ nxP q (seqP q s0 (j + d)).1 (seqP q s0 (j + d)).2), (seqP q s0 (j + d)).2 + pM q (nxP q (seqP q s0 (j + d)).1 (seqP q s0 (j + d)).2)) := rfl
    rw [e, ih, if_pos h]
theorem nx_wf {q : Plo} {s st : Nat} (hs : s < 2 ^ pK q) (h0 : s ≠ 0) (hc : canB q s st = true) : nxP q s st < pK q ∧ nxB q s st (nxP q s st) = true ∧ ∀ i, i < nxP q s st → nxB q s st i = false := by
  obtain ⟨p, p1, p2⟩ := nx_ex hs h0 hc
  have h := fstN_ex p1 p2
  obtain ⟨-, h2, h3⟩ := fstN_all (nxB q s st) (pK q)
  exact ⟨h, h2 h, h3⟩
theorem nxB_of {q : Plo} {s st p : Nat} (h : nxB q s st p = true) : s.testBit p = true ∧ st + pM q p ≤ pD q p ∧ canB q (anot s (2 ^ p)) (st + pM q p) = true := by
  unfold nxB at h
  rw [Bool.and_eq_true, Bool.and_eq_true, decide_eq_true_eq] at h
  exact h
def cntP (q : Plo) (s : Nat) : Nat := sumN (fun i => if s.testBit i = true then 1 else 0) (pK q)
theorem seqP_wf {q : Plo} (hq : wfP q) {s0 : Nat} (hs : s0 < 2 ^ pK q) (hc : canB q s0 0 = true) : ∀ j, (seqP q s0 j).1 < 2 ^ pK q ∧ canB q (seqP q s0 j).1 (seqP q s0 j).2 = true ∧ (seqP q s0 j).2 ≤ 60 ∧ ((seqP q s0 j).1 ≠ 0 → cntP q (seqP q s0 j).1 + j ≤ 6)
  | 0 => by
    refine ⟨hs, hc, by show 0 ≤ 60; omega, fun _ => ?_⟩
    have h1 : ∀ n, sumN (fun i => if s0.testBit i = true then 1 else 0) n ≤ n := fun n => by
      induction n with
      | zero => exact Nat.le_refl _
      | succ n ih =>
        show sumN _ n + (if s0.testBit n = true then 1 else 0) ≤ n + 1
        split <;> omega
    have h2 := h1 (pK q)
    have := hq.1
    show sumN (fun i => if s0.testBit i = true then 1 else 0) (pK q) + 0 ≤ 6
    omega
  | j + 1 => by
    obtain ⟨h1, h2, h3, h4⟩ := seqP_wf hq hs hc j
    have e : seqP q s0 (j + 1) = if (seqP q s0 j).1 = 0 then seqP q s0 j else (anot (seqP q s0 j).1 (2 ^ nxP q (seqP q s0 j).1 (seqP q s0 j).2), (seqP q s0 j).2 + pM q (nxP q (seqP q s0 j).1 (seqP q s0 j).2)) := rfl
    rw [e]
    by_cases g : (seqP q s0 j).1 = 0
    · rw [if_pos g]
      exact ⟨h1, h2, h3, fun z => absurd g z⟩
    · rw [if_neg g]
      obtain ⟨n1, n2, -⟩ := nx_wf h1 g h2
      obtain ⟨b1, b2, b3⟩ := nxB_of n2
      have hD := (hq.2 _ n1).1
      refine ⟨anot_lt h1, b3, by show _ + _ ≤ 60; omega, fun _ => ?_⟩
      have u := sumN_upd (f := fun i => if (anot (seqP q s0 j).1 (2 ^ nxP q (seqP q s0 j).1 (seqP q s0 j).2)).testBit i = true then 1 else 0) (g := fun i => if (seqP q s0 j).1.testBit i = true then 1 else 0) (pK q) n1 (fun i hi hn => by
        rw [anot_bit, Nat.testBit_two_pow_of_ne (fun z => hn z.symm)]
        simp)
      have e1 : (anot (seqP q s0 j).1 (2 ^ nxP q (seqP q s0 j).1 (seqP q s0 j).2)).testBit (nxP q (seqP q s0 j).1 (seqP q s0 j).2) = false := by rw [anot_bit, Nat.testBit_two_pow_self]; simp
      rw [e1, if_pos b1, if_neg (by decide)] at u
      have h5 := h4 g
      unfold cntP at h5 ⊢
      dsimp only
      omega
theorem seq_6 {q : Plo} (hq : wfP q) {s0 : Nat} (hs : s0 < 2 ^ pK q) (hc : canB q s0 0 = true) : (seqP q s0 6).1 = 0 := by
  obtain ⟨h1, h2, h3, h4⟩ := seqP_wf hq hs hc 6
  apply Classical.byContradiction
  intro g
  obtain ⟨n1, n2, -⟩ := nx_wf h1 g h2
  obtain ⟨b1, -, -⟩ := nxB_of n2
  have h5 := sumN_ge (f := fun i => if (seqP q s0 6).1.testBit i = true then 1 else 0) (pK q) n1
  rw [if_pos b1] at h5
  have h6 := h4 g
  unfold cntP at h6
  omega
def ordR (q : Plo) (s0 a : Nat) : Int32 := if (seqP q s0 a).1 = 0 then -1 else nI (nxP q (seqP q s0 a).1 (seqP q s0 a).2)
theorem ord_0 {q : Plo} {s0 a j : Nat} (hj : j ≤ a) (h : (seqP q s0 j).1 = 0) : ordR q s0 a = -1 := by
  obtain ⟨d, rfl⟩ : ∃ d, a = j + d := ⟨a - j, by omega⟩
  unfold ordR
  rw [seq_0 h d, if_pos h]
theorem next_C {P : Nat → Nat → Option Nat} (hP : GP P) {I : Nat → Nat → Int32} {J : Nat → Nat → Int64} {q : Plo} (hq : wfP q) (h : PlC I q) {s st : Nat} (hs : s < 2 ^ pK q) (h0 : s ≠ 0) (hc : canB q s st = true) (hst : st ≤ 60) : F_X6_nextOf 120 14 (nI s) (nI st) (mm P I J) = some (nI (nxP q s st), mm P I J) := by
  have hk := hq.1
  obtain ⟨k1, k2⟩ := pow6 hk
  obtain ⟨n1, n2, n3⟩ := nx_wf hs h0 hc
  have stp : ∀ j, j < pK q → F_X6_nextOf_3b 120 14 (nI s) (nI st) (nI j, mm P I J) = some (if nxB q s st j then .inr (nI j, mm P I J) else .inl (nI (j + 1), mm P I J)) := fun j hj => by
    have c1 : ¬ nI (pK q) ≤ nI j := nI_ge hj (by omega)
    have bt := bitN (s := s) (c := j) (by omega) (by omega)
    obtain ⟨w1, w2, w3⟩ := h.2 j hj
    have hw := hq.2 j hj
    have al : anot s (2 ^ j) < 2 ^ pK q := anot_lt hs
    have pj : 2 ^ j < 2 ^ 31 := Nat.pow_lt_pow_right (by omega) (by omega)
    have an := anotN (a := s) (b := 2 ^ j) (by omega) pj
    have cb := can_C hP (J := J) hq h (s := anot s (2 ^ j)) (st := st + pM q j) (by omega) (by omega)
    have lt : nI (pD q j) < nI (st + pM q j) ↔ pD q j < st + pM q j := nI_ltI (by omega) (by omega)
    unfold nxB
    unfold F_X6_nextOf_3b F_X6_nextOf_65 F_X6_nextOf_62
    cases hb : s.testBit j with
    | false =>
      rw [hb] at bt
      simp (disch := omega) only [↓bOC hP, h.1, ↓reduceIte, c1, ↓bAC, w2, ↓Option.bind_some, bt, Bool.false_eq_true, nI_1, Bool.false_and]
    | true =>
      rw [hb] at bt
      by_cases hd : pD q j < st + pM q j
      · simp (disch := omega) only [↓bOC hP, h.1, ↓reduceIte, c1, ↓bAC, w2, ↓Option.bind_some, bt, one_ne, ↓bOX hP, ↓bAX, w1, nI_add, lt, hd, nI_1]
        rw [decide_eq_false (show ¬ st + pM q j ≤ pD q j by omega)]
        rfl
      · simp (disch := omega) only [↓bOC hP, h.1, ↓reduceIte, c1, ↓bAC, w2, ↓Option.bind_some, bt, one_ne, ↓bOX hP, ↓bAX, w1, nI_add, lt, hd, one_shl (show j < 31 by omega), an]
        simp only [↓bs cb, nI_1, Option.map_some]
        rw [decide_eq_true (show st + pM q j ≤ pD q j by omega)]
        cases canB q (anot s (2 ^ j)) (st + pM q j) <;> rfl
  have key : ∃ r : Int32 × xM, xit (F_X6_nextOf_3b 120 14 (nI s) (nI st)) xFU (nI 0, mm P I J) = some r ∧ r = (nI (nxP q s st), mm P I J) := by
    refine xit_inv (fun j z => z = (nI j, mm P I J) ∧ j ≤ nxP q s st) _ (pK q) ⟨rfl, Nat.zero_le _⟩ (fun j z hj hq2 => ?_) (fun z hq2 => ?_) (by omega)
    · obtain ⟨rfl, q1⟩ := hq2
      have e := stp j hj
      by_cases g : j = nxP q s st
      · right
        rw [← g] at n2
        rw [n2, if_pos rfl] at e
        exact ⟨_, e, by rw [g]⟩
      · left
        rw [n3 j (by omega), if_neg (by decide)] at e
        exact ⟨_, e, rfl, by omega⟩
    · obtain ⟨rfl, q1⟩ := hq2
      omega
  obtain ⟨r, e1, rfl⟩ := key
  exact e1
theorem order_C {P : Nat → Nat → Option Nat} (hP : GP P) {I : Nat → Nat → Int32} {J : Nat → Nat → Int64} {q : Plo} (hq : wfP q) (h : PlC I q) {s0 a : Nat} (hs : s0 < 2 ^ pK q) (hc : canB q s0 0 = true) (ha : a < 2 ^ 31) : F_X6_inOrder 120 14 (nI s0) (nI a) (mm P I J) = some (ordR q s0 a, mm P I J) := by
  have hk := hq.1
  obtain ⟨k1, k2⟩ := pow6 hk
  have key : ∃ r : Int32 × xM, xit (F_X6_inOrder_9b 120 14 (nI a)) xFU (nI s0, nI 0, nI 0, mm P I J) = some r ∧ r = (ordR q s0 a, mm P I J) := by
    refine xit_inv (fun j z => z = (nI (seqP q s0 j).1, nI (seqP q s0 j).2, nI j, mm P I J) ∧ j ≤ a) _ 6 ⟨rfl, Nat.zero_le _⟩ (fun j z hj hq2 => ?_) (fun z hq2 => ?_) (by omega)
    · obtain ⟨rfl, q1⟩ := hq2
      obtain ⟨h1, h2, h3, h4⟩ := seqP_wf hq hs hc j
      have c1 : ¬ (6 : Int32) ≤ nI j := nI_ge (b := 6) hj (by omega)
      by_cases g : (seqP q s0 j).1 = 0
      · right
        have z : nI (seqP q s0 j).1 = 0 := by rw [g]; rfl
        refine ⟨(-1, mm P I J), ?_, by rw [ord_0 q1 g]⟩
        simp only [F_X6_inOrder_9b, F_X6_inOrder_76, ↓reduceIte, c1, z, Option.map_some]
      · have z : ¬ nI (seqP q s0 j).1 = 0 := nI_ne0 (by omega) (by omega)
        obtain ⟨n1, n2, -⟩ := nx_wf h1 g h2
        obtain ⟨w1, w2, w3⟩ := h.2 _ n1
        have nc := next_C hP (J := J) hq h h1 g h2 h3
        have ne := nI_nm1 (a := nxP q (seqP q s0 j).1 (seqP q s0 j).2) (by omega)
        have ce : nI j = nI a ↔ j = a := nI_eqI (by omega) ha
        by_cases ga : j = a
        · right
          refine ⟨(nI (nxP q (seqP q s0 j).1 (seqP q s0 j).2), mm P I J), ?_, ?_⟩
          · have ga' := ce.mpr ga
            simp only [F_X6_inOrder_9b, F_X6_inOrder_44, ↓reduceIte, c1, z, ↓bOX hP, ↓bs nc, ne, if_pos ga', Option.map_some]
          · rw [ga] at g ⊢
            unfold ordR
            rw [if_neg g]
        · left
          have pj : 2 ^ nxP q (seqP q s0 j).1 (seqP q s0 j).2 < 2 ^ 31 := Nat.pow_lt_pow_right (by omega) (by omega)
          have an := anotN (a := (seqP q s0 j).1) (b := 2 ^ nxP q (seqP q s0 j).1 (seqP q s0 j).2) (by omega) pj
          have e : seqP q s0 (j + 1) = if (seqP q s0 j).1 = 0 then seqP q s0 j else (anot (seqP q s0 j).1 (2 ^ nxP q (seqP q s0 j).1 (seqP q s0 j).2), (seqP q s0 j).2 + pM q (nxP q (seqP q s0 j).1 (seqP q s0 j).2)) := rfl
          refine ⟨(nI (seqP q s0 (j + 1)).1, nI (seqP q s0 (j + 1)).2, nI (j + 1), mm P I J), ?_, rfl, by omega⟩
          rw [e, if_neg g]
          simp (disch := omega) only [F_X6_inOrder_9b, ↓reduceIte, c1, z, ↓bOX hP, ↓bs nc, ne, ce, ga, ↓bOC hP, ↓bAC, w2, Option.bind_some, one_shl (show nxP q (seqP q s0 j).1 (seqP q s0 j).2 < 31 by omega), an, nI_add, nI_1]
    · obtain ⟨rfl, q1⟩ := hq2
      have c1 : (6 : Int32) ≤ nI 6 := by decide
      refine ⟨(-1, mm P I J), ?_, by rw [ord_0 q1 (seq_6 hq hs hc)]⟩
      simp only [F_X6_inOrder_9b, F_X6_inOrder_76, ↓reduceIte, c1, Option.map_some]
  obtain ⟨r, e1, rfl⟩ := key
  exact e1
theorem next_M {P : Nat → Nat → Option Nat} (hP : GP P) {I : Nat → Nat → Int32} {J : Nat → Nat → Int64} {q : Plo} (hq : wfP q) (h : PlM I q) {s st : Nat} (v1 v4 : Int32) (hs : s < 2 ^ pK q) (h0 : s ≠ 0) (hc : canB q s st = true) (hst : st ≤ 60) : ∀ r, F_X12_order_102 164 v1 (nI s) (nI st) v4 (nI (nxP q s st)) (mm P I J) = some r → F_X12_order_29 164 v1 (nI s) (nI st) v4 0 (mm P I J) = some r := by
  intro r hr
  have hk := hq.1
  obtain ⟨k1, k2⟩ := pow6 hk
  obtain ⟨n1, n2, n3⟩ := nx_wf hs h0 hc
  have stp : ∀ j, j < pK q → F_X12_order_29b 164 v1 (nI s) (nI st) v4 (nI j, mm P I J) = if nxB q s st j then (F_X12_order_102 164 v1 (nI s) (nI st) v4 (nI j) (mm P I J)).map Sum.inr else some (.inl (nI (j + 1), mm P I J)) := fun j hj => by
    have ii := isInM (m := s) (c := j) (by omega) (by omega) (mm P I J)
    obtain ⟨w1, w2, w3⟩ := h.2 j hj
    have hw := hq.2 j hj
    have al : anot s (2 ^ j) < 2 ^ pK q := anot_lt hs
    have pj : 2 ^ j < 2 ^ 31 := Nat.pow_lt_pow_right (by omega) (by omega)
    have an := anotN (a := s) (b := 2 ^ j) (by omega) pj
    have cb := can_M hP (J := J) hq h (s := anot s (2 ^ j)) (st := st + pM q j) (by omega) (by omega)
    have lt : nI (pD q j) < nI (st + pM q j) ↔ pD q j < st + pM q j := nI_ltI (by omega) (by omega)
    unfold nxB
    unfold F_X12_order_29b F_X12_order_96
    simp only [ix14]
    cases hb : s.testBit j with
    | false =>
      rw [hb] at ii
      simp only [↓bs ii, ↓reduceIte, Bool.false_eq_true, nI_1, Bool.false_and]
    | true =>
      rw [hb] at ii
      by_cases hd : pD q j < st + pM q j
      · simp (disch := omega) only [↓bs ii, ↓reduceIte, one_ne, ↓bOM hP, ↓bAM, w2, w1, nI_add, lt, hd, nI_1]
        rw [decide_eq_false (show ¬ st + pM q j ≤ pD q j by omega)]
        rfl
      · simp (disch := omega) only [↓bs ii, ↓reduceIte, one_ne, ↓bOM hP, ↓bAM, w2, w1, nI_add, lt, hd, one_shl (show j < 31 by omega), an]
        simp only [↓bs cb, nI_1]
        rw [decide_eq_true (show st + pM q j ≤ pD q j by omega)]
        cases canB q (anot s (2 ^ j)) (st + pM q j) <;> rfl
  unfold F_X12_order_29
  refine xit_run (fun j => (nI j, mm P I J)) (nxP q s st) rfl (fun j hj => ?_) ?_ (by omega)
  · have e := stp j (by omega)
    rw [n3 j hj, if_neg (by decide)] at e
    exact e
  · have e := stp _ n1
    rw [n2, if_pos rfl, hr] at e
    exact e
theorem order_M {P : Nat → Nat → Option Nat} (hP : GP P) {I : Nat → Nat → Int32} {J : Nat → Nat → Int64} {q : Plo} (hq : wfP q) (h : PlM I q) {s0 a : Nat} (hs : s0 < 2 ^ pK q) (hc : canB q s0 0 = true) (ha : a < 2 ^ 31) : F_X12_order_22 164 (nI a) (nI s0) 0 0 (mm P I J) = some (ordR q s0 a, mm P I J) := by
  have hk := hq.1
  obtain ⟨k1, k2⟩ := pow6 hk
  have key : ∃ r : Int32 × xM, xit (F_X12_order_22b 164 (nI a)) xFU (nI s0, nI 0, nI 0, mm P I J) = some r ∧ r = (ordR q s0 a, mm P I J) := by
    refine xit_inv (fun j z => z = (nI (seqP q s0 j).1, nI (seqP q s0 j).2, nI j, mm P I J) ∧ j ≤ a) _ 6 ⟨rfl, Nat.zero_le _⟩ (fun j z hj hq2 => ?_) (fun z hq2 => ?_) (by omega)
    · obtain ⟨rfl, q1⟩ := hq2
      obtain ⟨h1, h2, h3, h4⟩ := seqP_wf hq hs hc j
      by_cases g : (seqP q s0 j).1 = 0
      · right
        have z : nI (seqP q s0 j).1 = 0 := by rw [g]; rfl
        refine ⟨(-1, mm P I J), ?_, by rw [ord_0 q1 g]⟩
        simp only [F_X12_order_22b, F_X12_order_143, ↓reduceIte, z, Option.map_some]
      · have z : ¬ nI (seqP q s0 j).1 = 0 := nI_ne0 (by omega) (by omega)
        obtain ⟨n1, n2, -⟩ := nx_wf h1 g h2
        obtain ⟨w1, w2, w3⟩ := h.2 _ n1
        have nc := next_M hP (J := J) hq h (nI a) (nI j) h1 g h2 h3
        have ce : nI j = nI a ↔ j = a := nI_eqI (by omega) ha
        by_cases ga : j = a
        · right
          refine ⟨(nI (nxP q (seqP q s0 j).1 (seqP q s0 j).2), mm P I J), ?_, ?_⟩
          · have e := nc (.inr (nI (nxP q (seqP q s0 j).1 (seqP q s0 j).2), mm P I J)) (by simp only [F_X12_order_102, F_X12_order_108, ↓reduceIte, ce, ga, Option.map_some])
            simp only [F_X12_order_22b, ↓reduceIte, z, e]
          · rw [ga] at g ⊢
            unfold ordR
            rw [if_neg g]
        · left
          have pj : 2 ^ nxP q (seqP q s0 j).1 (seqP q s0 j).2 < 2 ^ 31 := Nat.pow_lt_pow_right (by omega) (by omega)
          have an := anotN (a := (seqP q s0 j).1) (b := 2 ^ nxP q (seqP q s0 j).1 (seqP q s0 j).2) (by omega) pj
          have e : seqP q s0 (j + 1) = if (seqP q s0 j).1 = 0 then seqP q s0 j else (anot (seqP q s0 j).1 (2 ^ nxP q (seqP q s0 j).1 (seqP q s0 j).2), (seqP q s0 j).2 + pM q (nxP q (seqP q s0 j).1 (seqP q s0 j).2)) := rfl
          refine ⟨(nI (seqP q s0 (j + 1)).1, nI (seqP q s0 (j + 1)).2, nI (j + 1), mm P I J), ?_, rfl, by omega⟩
          have f := nc (.inl (nI (seqP q s0 (j + 1)).1, nI (seqP q s0 (j + 1)).2, nI (j + 1), mm P I J)) (by
            rw [e, if_neg g]
            unfold F_X12_order_102
            simp only [ix14]
            simp (disch := omega) only [↓reduceIte, ce, ga, ↓bOM hP, ↓bAM, w2, Option.bind_some, one_shl (show nxP q (seqP q s0 j).1 (seqP q s0 j).2 < 31 by omega), an, nI_add, nI_1])
          simp only [F_X12_order_22b, ↓reduceIte, z, f]
    · obtain ⟨rfl, q1⟩ := hq2
      have g := seq_6 hq hs hc
      have z : nI (seqP q s0 6).1 = 0 := by rw [g]; rfl
      refine ⟨(-1, mm P I J), ?_, by rw [ord_0 q1 g]⟩
      simp only [F_X12_order_22b, F_X12_order_143, ↓reduceIte, z, Option.map_some]
  obtain ⟨r, e1, rfl⟩ := key
  exact e1
theorem sim_order (a1 : Int32) : xSim INV (F_X11_order 0 a1) (F_X12_order 164 a1) := by
  refine xSim_qn fun n M hn hI => ?_
  obtain ⟨P, I, J, rfl, hP⟩ := G_mm hI.1
  obtain ⟨t, c, cs, nx, hw, hL, hA, hc, hC, hD, -⟩ := INV_sh hI
  by_cases h0 : 0 ≤ a1
  · obtain ⟨a, ha, rfl⟩ : ∃ a, a < 2 ^ 31 ∧ a1 = nI a := by
      have h1 := Int32.le_iff_toInt_le.mp h0
      have h2 := Int32.toInt_lt a1
      have h3 : (0 : Int32).toInt = 0 := by decide
      refine ⟨a1.toInt.toNat, by omega, Int32.toInt_inj.mp ?_⟩
      rw [nI_toInt (by omega)]
      omega
    obtain ⟨I1, e1, e2, e3⟩ := dead_C hP (I := I) (J := J) hw hc hn hL hC
    have e165 : ∀ i, xu I1 164 0 0 165 i = I 165 i := fun i => by rw [xu_o (by omega), e2 _ _ (by omega) (by omega) (by omega) (by omega) (by omega)]
    obtain ⟨I2, r1, r2, r3⟩ := until_M hP (I := xu I1 164 0 0) (J := J) hw hc hn (LandA_cg (A := I 165) hw (fun x _ => e165 _) hA) (CoastA_cg (A := I 165) hw hc (fun x _ => e165 _) hD)
    have wq : wfP (qPl t c 60) := qPl_wf hw c (by omega)
    have bl := bestP_le (qPl t c 60) (2 ^ pK (qPl t c 60) - 1)
    obtain ⟨k1, k2⟩ := pow6 wq.1
    have bC := best_C hP (J := J) wq e3
    have bM := best_M hP (J := J) wq r3
    have bc := bestP_can (qPl t c 60) (2 ^ pK (qPl t c 60) - 1)
    have oC := order_C hP (J := J) wq e3 (s0 := bestP (qPl t c 60) (2 ^ pK (qPl t c 60) - 1)) (a := a) (by omega) bc ha
    have oM := order_M hP (J := J) wq r3 (s0 := bestP (qPl t c 60) (2 ^ pK (qPl t c 60) - 1)) (a := a) (by omega) bc ha
    refine ⟨ordR (qPl t c 60) (bestP (qPl t c 60) (2 ^ pK (qPl t c 60) - 1)) a, mm P I1 J, mm P I2 J, ?_, pl_ScC e2, ?_, pl_ScM r2⟩
    · simp only [F_X11_order, ↓reduceIte, h0, ↓bOC hP, ↓bs e1, ↓bOX hP, ↓bs bC, ↓bs oC]
    · simp only [F_X12_order, F_X12_bestPlots, ↓bOM hP, ↓reduceIte, h0, ↓bs r1, ↓bs bM, oM]
  · refine ⟨-3, mm P I J, mm P (xu I 164 0 0) J, ?_, Sc.rf, ?_, thr_Sc⟩
    · simp only [F_X11_order, ↓reduceIte, h0]
    · simp only [F_X12_order, ↓bOM hP, ↓reduceIte, h0]
