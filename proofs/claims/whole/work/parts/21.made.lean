/-! ===== the class' constructor, by reckoning ===== -/
def xzr (M : xM) (k n : Nat) : Bool := (List.range n).all (fun i => M.2.1 k i == 0)
def isL (M : xM) (k : Nat) (l : List Int32) : Bool := (List.range l.length).all (fun i => M.2.1 k i == l.getD i 0)
def nimL : List Int32 := [0, 1, 1, 1, 1, 0, 1, 2, 1, 0, 0, 0, 1, 0, 2, 0, 1, 0, 0, 0, 0, 1, 0, 3, 1, 0, 0, 0, 2, 3, 0, 3]
/-- what the class' constructor must have left, as far as later calls read it -/
def chk1 (M : xM) : Bool :=
  (M.1 == SH.take 164) && (PPl.filter (fun q => q.1 < 164)).all (fun q => M.2.2.2 q.1 q.2.1 == some q.2.2) &&
  xzr M 0 18 && isL M 2 [0, 0, 0, -1] &&
  isL M 14 [1, 1, 1, 0, 0, 0, 0, 0, 0, 0, 0, 0] && xzr M 19 5 && xzr M 21 7 && xzr M 22 25 && isL M 35 [0, 0] &&
  isL M 82 [-1] && isL M 84 [-1] && isL M 86 [-1] && isL M 88 [-1] && isL M 124 nimL
def init1 : Option xM := F_X11_init 0 (xnw xM0 (11, 0))
set_option maxRecDepth 100000 in
theorem init1_ok : (init1.map chk1) = some true := by decide +kernel
