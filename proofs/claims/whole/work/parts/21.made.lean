/-! ===== the class' constructor, by reckoning ===== -/
def xzr (M : xM) (k n : Nat) : Bool := (List.range n).all (fun i => M.2.1 k i == 0)
def isL (M : xM) (k : Nat) (l : List Int32) : Bool := (List.range l.length).all (fun i => M.2.1 k i == l.getD i 0)
def nimL : List Int32 := [0, 1, 1, 1, 1, 0, 1, 2, 1, 0, 0, 0, 1, 0, 2, 0, 1, 0, 0, 0, 0, 1, 0, 3, 1, 0, 0, 0, 2, 3, 0, 3]
/-- what the class' constructor must have left, as far as later calls read it -/
def chk1 (M : xM) : Bool :=
  (M.1 == SH.take 164) && (PPl.filter (fun q => q.1 < 164)).all (fun q => M.2.2.2 q.1 q.2.1 == some q.2.2) &&
  xzr M 0 17 && isL M 1 [0, 0, 0, -1] &&
  isL M 14 [1, 1, 1, 0, 0, 0, 0, 0, 0, 0, 0, 0] && xzr M 19 5 && xzr M 21 7 && xzr M 22 25 && isL M 35 [0, 0] &&
  isL M 82 [-1] && isL M 84 [-1] && isL M 86 [-1] && isL M 88 [-1] && isL M 124 nimL
def init1 : Option xM := F_X11_init 0 (xnw xM0 (11, 0))
set_option maxRecDepth 100000 in
theorem init1_ok : (init1.map chk1) = some true := by decide +kernel
/-- both constructors -/
def chk2 (M : xM) : Bool :=
  (M.1 == SH) && PPl.all (fun q => M.2.2.2 q.1 q.2.1 == some q.2.2) &&
  xzr M 0 17 && isL M 1 [0, 0, 0, -1] &&
  isL M 14 [1, 1, 1, 0, 0, 0, 0, 0, 0, 0, 0, 0] && xzr M 19 5 && xzr M 21 7 && xzr M 22 25 && isL M 35 [0, 0] &&
  isL M 82 [-1] && isL M 84 [-1] && isL M 86 [-1] && isL M 88 [-1] && isL M 124 nimL &&
  isL M 164 [0, 0, 0, 0, 0, 0, 0, 0, 0, 0, 0, 0, 0, 0, -1] &&
  isL M 165 [0, 1, 1, 0, 0, 0, 0, 0, 0] && (M.2.1 165 67 == 0) && (M.2.1 165 92 == 0) && (M.2.1 165 105 == 0) && (M.2.1 165 106 == 0) && (M.2.1 165 107 == 0) && (M.2.1 165 108 == 0) &&
  xzr M 166 2 && isL M 182 [-1, -1, -1, -1] && xzr M 183 4
def init2 : Option xM := init1.bind (fun M => F_X12_init 164 (xnw M (12, 0)))
set_option maxRecDepth 100000 in
theorem init2_ok : (init2.map chk2) = some true := by decide +kernel
theorem made : ∃ M1 M2 : xM, F_X11_init 0 (xnw xM0 (11, 0)) = some M1 ∧ M1.1.length = 164 ∧ F_X12_init 164 (xnw M1 (12, 0)) = some M2 ∧ chk2 M2 = true := by
  have h1 := init1_ok
  have h2 := init2_ok
  obtain ⟨M1, e1, k1⟩ := Option.map_eq_some_iff.mp h1
  obtain ⟨M2, e2, k2⟩ := Option.map_eq_some_iff.mp h2
  refine ⟨M1, M2, by rw [← e1, init1], ?_, ?_, k2⟩
  · simp only [chk1, Bool.and_eq_true, beq_iff_eq] at k1
    have h3 := k1.1.1.1.1.1.1.1.1.1.1.1.1.1
    rw [h3]; decide +kernel
  · unfold init2 at e2
    rw [e1, Option.bind_some] at e2
    exact e2
