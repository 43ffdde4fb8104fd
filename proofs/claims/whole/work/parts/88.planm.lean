/-! ===== plots, the model ===== -/
def PlM (I : Nat → Nat → Int32) (q : Plo) : Prop := I 165 4 = nI (pK q) ∧ ∀ p, p < pK q → I 177 p = nI (pD q p) ∧ I 165 (14 + 3 * p) = nI (pM q p) ∧ I 165 (15 + 3 * p) = nI (pW q p)
theorem ix14 (j : Nat) : (13 : Int32) + (3 : Int32) * nI j + (1 : Int32) = nI (14 + 3 * j) := by
  rw [show (3 : Int32) = nI 3 from rfl, pk_mul, show (13 : Int32) = nI 13 from rfl, nI_add, show (1 : Int32) = nI 1 from rfl, nI_add]
  congr 1; omega
theorem ix15 (j : Nat) : (13 : Int32) + (3 : Int32) * nI j + (2 : Int32) = nI (15 + 3 * j) := by
  rw [show (3 : Int32) = nI 3 from rfl, pk_mul, show (13 : Int32) = nI 13 from rfl, nI_add, show (2 : Int32) = nI 2 from rfl, nI_add]
  congr 1; omega
theorem ix13 (j : Nat) : (13 : Int32) + (3 : Int32) * nI j = nI (13 + 3 * j) := by
  rw [show (3 : Int32) = nI 3 from rfl, pk_mul, show (13 : Int32) = nI 13 from rfl, nI_add]
theorem worth_M {P : Nat → Nat → Option Nat} (hP : GP P) {I : Nat → Nat → Int32} {J : Nat → Nat → Int64} {q : Plo} (hq : wfP q) (h : PlM I q) {s : Nat} (hs : s < 64) : F_X12_worthOf 164 (nI s) (mm P I J) = some (nI (worN q s (pK q)), mm P I J) := by
  have hk := hq.1
  unfold F_X12_worthOf F_X12_worthOf_4
  refine xit_run (fun j => (nI (worN q s j), nI j, mm P I J)) (pK q) rfl (fun j hj => ?_) ?_ (by omega)
  · have c1 : ¬ nI (pK q) ≤ nI j := nI_ge hj (by omega)
    have ii := isInM (m := s) (c := j) (by omega) (by omega) (mm P I J)
    have w := (h.2 j hj).2.2
    have e : worN q s (j + 1) = worN q s j + (if s.testBit j = true then pW q j else 0) := rfl
    have z : ∀ a, nI a + (0 : Int32) = nI a := fun a => nI_add a 0
    rw [e]
    unfold F_X12_worthOf_4b F_X12_worthOf_41
    simp only [ix15]
    cases hb : s.testBit j with
    | false =>
      rw [hb] at ii
      simp only [↓bOM hP, ↓bAM, h.1, ↓reduceIte, c1, ↓bs ii, Bool.false_eq_true, Option.bind_some, z, nI_1, Nat.add_zero]
    | true =>
      rw [hb] at ii
      simp (disch := omega) only [↓bOM hP, ↓bAM, h.1, ↓reduceIte, c1, ↓bs ii, one_ne, w, Option.bind_some, nI_1, nI_add]
  · have c1 : nI (pK q) ≤ nI (pK q) := nI_le (Nat.le_refl _) (by omega)
    simp only [F_X12_worthOf_4b, F_X12_worthOf_49, ↓bOM hP, ↓bAM, h.1, ↓reduceIte, c1]
theorem can_M {P : Nat → Nat → Option Nat} (hP : GP P) {I : Nat → Nat → Int32} {J : Nat → Nat → Int64} {q : Plo} (hq : wfP q) (h : PlM I q) {s st : Nat} (hs : s < 64) (hst : st ≤ 1000) : F_X12_canBuild 164 (nI s) (nI st) (mm P I J) = some (if canB q s st then 1 else 0, mm P I J) := by
  have hk := hq.1
  -- one end
  have inner : ∀ e, e ≤ 60 → ∃ r, F_X12_canBuild_15 164 (nI s) (nI (st + dueB q s e 0)) (nI e) 0 (mm P I J) = some r ∧ ((r = .inl (nI (st + dueB q s (e + 1) 0), nI (e + 1), mm P I J) ∧ ((∃ p, p < pK q ∧ s.testBit p = true ∧ pD q p = e) → st + dueN q s e (pK q) ≤ e)) ∨ (r = .inr ((0 : Int32), mm P I J) ∧ canB q s st = false)) := by
    intro e he
    show ∃ r, xit (F_X12_canBuild_15b 164 (nI s) (nI e)) xFU (nI (st + dueB q s e 0), nI 0, mm P I J) = some r ∧ _
    refine xit_inv (fun j z => z = (nI (st + dueB q s e j), nI j, mm P I J) ∧ ((∃ p, p < j ∧ s.testBit p = true ∧ pD q p = e) → st + dueB q s e j ≤ e)) _ (pK q) ⟨rfl, fun ⟨p, hp, _⟩ => by omega⟩ (fun j z hj hq2 => ?_) (fun z hq2 => ?_) (by omega)
    · obtain ⟨rfl, q1⟩ := hq2
      have c1 : ¬ nI (pK q) ≤ nI j := nI_ge hj (by omega)
      have ii := isInM (m := s) (c := j) (by omega) (by omega) (mm P I J)
      obtain ⟨w1, w2, w3⟩ := h.2 j hj
      have hw := hq.2 j hj
      have dl := dueB_le hq s e j
      have ce : nI (pD q j) = nI e ↔ pD q j = e := nI_eqI (by omega) (by omega)
      by_cases hin : s.testBit j = true ∧ pD q j = e
      · have di := dueB_in hj hin
        have hb := hin.1
        have hde := hin.2
        rw [hb] at ii
        have le : nI (st + dueB q s e j + pM q j) ≤ nI e ↔ st + dueB q s e j + pM q j ≤ e := nI_leI (by omega) (by omega)
        by_cases hf : st + dueB q s e j + pM q j ≤ e
        · left
          refine ⟨(nI (st + dueB q s e (j + 1)), nI (j + 1), mm P I J), ?_, rfl, fun _ => by omega⟩
          unfold F_X12_canBuild_15b F_X12_canBuild_76
          simp only [ix14]
          simp (disch := omega) only [↓bOM hP, ↓bAM, h.1, ↓reduceIte, c1, ↓bs ii, one_ne, w1, ce, hde, w2, ↓Option.bind_some, nI_add, le, hf, nI_1]
          rw [di, Nat.add_assoc]
        · right
          refine ⟨.inr ((0 : Int32), mm P I J), ?_, Or.inr ⟨rfl, ?_⟩⟩
          · unfold F_X12_canBuild_15b F_X12_canBuild_74
            simp only [ix14]
            simp (disch := omega) only [↓bOM hP, ↓bAM, h.1, ↓reduceIte, c1, ↓bs ii, one_ne, w1, ce, hde, w2, ↓Option.bind_some, nI_add, le, hf, xz0, Option.map_some]
          · cases hcb : canB q s st with
            | false => rfl
            | true =>
              have h1 := canB_iff.mp hcb j hj hb
              have h2 := dueB_N (q := q) (s := s) (e := e) (j := j + 1)
              rw [hde] at h1
              omega
      · have dout := dueB_out (q := q) (s := s) (e := e) (j := j) hin
        left
        refine ⟨(nI (st + dueB q s e (j + 1)), nI (j + 1), mm P I J), ?_, rfl, fun ⟨p, hp, hb, hd⟩ => ?_⟩
        · rw [dout]
          unfold F_X12_canBuild_15b F_X12_canBuild_76
          simp only [ix14]
          cases hb : s.testBit j with
          | false =>
            rw [hb] at ii
            simp only [↓bOM hP, ↓bAM, h.1, ↓reduceIte, c1, ↓bs ii, Bool.false_eq_true, nI_1]
          | true =>
            rw [hb] at ii
            have hde : ¬ pD q j = e := fun z => hin ⟨hb, z⟩
            simp (disch := omega) only [↓bOM hP, ↓bAM, h.1, ↓reduceIte, c1, ↓bs ii, one_ne, w1, ce, hde, nI_1]
        · rw [dout]
          refine q1 ⟨p, ?_, hb, hd⟩
          rcases Nat.lt_or_ge p j with h1 | h1
          · exact h1
          · have : p = j := by omega
            subst this
            exact absurd ⟨hb, hd⟩ hin
    · obtain ⟨rfl, q1⟩ := hq2
      have c1 : nI (pK q) ≤ nI (pK q) := nI_le (Nat.le_refl _) (by omega)
      refine ⟨.inl (nI (st + dueB q s (e + 1) 0), nI (e + 1), mm P I J), ?_, Or.inl ⟨rfl, fun g => ?_⟩⟩
      · rw [dueB_s]
        simp only [F_X12_canBuild_15b, F_X12_canBuild_82, ↓bOM hP, ↓bAM, h.1, ↓reduceIte, c1, nI_1, Option.map_some]
      · have := q1 g
        rw [dueB_k] at this
        exact this
  have key : ∃ r : Int32 × xM, xit (F_X12_canBuild_5b 164 (nI s)) xFU (nI (st + dueB q s 0 0), nI 0, mm P I J) = some r ∧ r = (if canB q s st then (1 : Int32) else 0, mm P I J) := by
    refine xit_inv (fun e z => z = (nI (st + dueB q s e 0), nI e, mm P I J) ∧ ∀ p, p < pK q → s.testBit p = true → pD q p < e → st + dueN q s (pD q p) (pK q) ≤ pD q p) _ 61 ⟨rfl, fun p _ _ h => by omega⟩ (fun e z he hq2 => ?_) (fun z hq2 => ?_) (by omega)
    · obtain ⟨rfl, q1⟩ := hq2
      have c1 : ¬ (60 : Int32) < nI e := nI_nlt (a := 60) (by omega) (by omega)
      obtain ⟨r, r1, r2⟩ := inner e (by omega)
      rcases r2 with ⟨rfl, g⟩ | ⟨rfl, g⟩
      · left
        refine ⟨_, by simp only [F_X12_canBuild_5b, ↓reduceIte, c1]; exact r1, rfl, fun p hp hb hd => ?_⟩
        by_cases e1 : pD q p = e
        · have := g ⟨p, hp, hb, e1⟩
          rw [e1]
          exact this
        · exact q1 p hp hb (by omega)
      · right
        refine ⟨_, by simp only [F_X12_canBuild_5b, ↓reduceIte, c1]; exact r1, ?_⟩
        rw [g]; rfl
    · obtain ⟨rfl, q1⟩ := hq2
      have c1 : (60 : Int32) < nI 61 := by decide
      refine ⟨((1 : Int32), mm P I J), by simp only [F_X12_canBuild_5b, F_X12_canBuild_88, ↓reduceIte, c1, xz1, Option.bind_some, Option.map_some], ?_⟩
      have : canB q s st = true := canB_iff.mpr fun p hp hb => q1 p hp hb (by have := hq.2 p hp; omega)
      rw [this]; rfl
  obtain ⟨r, k1, rfl⟩ := key
  rw [dueB_0, Nat.add_zero] at k1
  have e : (if canB q s st then (1 : Int32) else 0, mm P I J) = (if canB q s st = true then (1 : Int32) else 0, mm P I J) := rfl
  exact k1
theorem best_M {P : Nat → Nat → Option Nat} (hP : GP P) {I : Nat → Nat → Int32} {J : Nat → Nat → Int64} {q : Plo} (hq : wfP q) (h : PlM I q) : F_X12_bestPlots_8 164 0 1 (mm P I J) = some (nI (bestP q (2 ^ pK q - 1)), mm P I J) := by
  have hk := hq.1
  obtain ⟨k1, k2⟩ := pow6 hk
  have sh := one_shl (c := pK q) (by omega)
  unfold F_X12_bestPlots_8
  refine xit_run (fun j => (nI (bestP q j), nI (j + 1), mm P I J)) (2 ^ pK q - 1) rfl (fun j hj => ?_) ?_ (by omega)
  · have c1 : ¬ nI (2 ^ pK q) ≤ nI (j + 1) := nI_ge (by omega) (by omega)
    have bl := bestP_le q j
    have w := worth_M hP (J := J) hq h (s := j + 1) (by omega)
    have w2 := worth_M hP (J := J) hq h (s := bestP q j) (by omega)
    have cb := can_M hP (J := J) hq h (s := j + 1) (st := 0) (by omega) (by omega)
    have cb' : F_X12_canBuild 164 (nI (j + 1)) (0 : Int32) (mm P I J) = some (if canB q (j + 1) 0 then 1 else 0, mm P I J) := cb
    have l1 := wor_le hq (j + 1) (Nat.le_refl (pK q))
    have l2 := wor_le hq (bestP q j) (Nat.le_refl (pK q))
    have le : nI (worN q (j + 1) (pK q)) ≤ nI (worN q (bestP q j) (pK q)) ↔ worN q (j + 1) (pK q) ≤ worN q (bestP q j) (pK q) := nI_leI (by omega) (by omega)
    have e : bestP q (j + 1) = if worN q (j + 1) (pK q) ≤ worN q (bestP q j) (pK q) then bestP q j else if canB q (j + 1) 0 then j + 1 else bestP q j := rfl
    rw [e]
    simp only [F_X12_bestPlots_8b, F_X12_bestPlots_44, ↓bOM hP, ↓bAM, h.1, sh, ↓reduceIte, c1, ↓bs w, ↓bs w2, le, ↓bs cb', nI_1]
    by_cases g : worN q (j + 1) (pK q) ≤ worN q (bestP q j) (pK q)
    · simp only [if_pos g]
    · simp only [if_neg g]
      cases canB q (j + 1) 0 <;> simp
  · have c1 : nI (2 ^ pK q) ≤ nI (2 ^ pK q - 1 + 1) := nI_le (by omega) (by omega)
    simp only [F_X12_bestPlots_8b, F_X12_bestPlots_50, ↓bOM hP, ↓bAM, h.1, sh, ↓reduceIte, c1]
