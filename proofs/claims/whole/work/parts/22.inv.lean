/-! ===== what a shore is, in numbers ===== -/
/-- a text: rows, columns, lines, gale, plots (cell, minutes, worth), papers (corner, corner), debts (who, whom, much), tide, washes (codes as the class has them; none if not told) -/
abbrev Txt : Type := Nat × Nat × Nat × Nat × List (Nat × Nat × Nat) × List (Nat × Nat) × List (Nat × Nat × Nat) × List Int32 × List Int32
def tR (t : Txt) : Nat := t.1
def tW (t : Txt) : Nat := t.2.1
def tN (t : Txt) : Nat := t.1 * t.2.1
def tLines (t : Txt) : Nat := t.2.2.1
def tGale (t : Txt) : Nat := t.2.2.2.1
def tPlots (t : Txt) : List (Nat × Nat × Nat) := t.2.2.2.2.1
def tPapers (t : Txt) : List (Nat × Nat) := t.2.2.2.2.2.1
def tDebts (t : Txt) : List (Nat × Nat × Nat) := t.2.2.2.2.2.2.1
def tTide (t : Txt) : List Int32 := t.2.2.2.2.2.2.2.1
def tWash (t : Txt) : List Int32 := t.2.2.2.2.2.2.2.2
/-- a coast: sand, houses (cell, owner), which stand (bits), moon, minute -/
abbrev Cst : Type := (Nat → Nat) × List (Nat × Nat) × Nat × Nat × Nat
def cSand (c : Cst) : Nat → Nat := c.1
def cHouses (c : Cst) : List (Nat × Nat) := c.2.1
def cStand (c : Cst) : Nat := c.2.2.1
def cMoon (c : Cst) : Nat := c.2.2.2.1
def cMinute (c : Cst) : Nat := c.2.2.2.2
/-- the kinds (true: a truth) that wait behind an order of a law; at most 60 may wait -/
def kindStep (o : Int32) (s : List Bool) : Option (List Bool) :=
  if 0 ≤ o ∧ o < 1000 ∨ 1010 ≤ o ∧ o < 1016 then (if s.length < 60 then some (false :: s) else none)
  else if o = 1000 ∨ o = 1001 ∨ o = 1002 then (match s with | false :: false :: r => some (false :: r) | _ => none)
  else if o = 1003 ∨ o = 1004 ∨ o = 1005 then (match s with | false :: false :: r => some (true :: r) | _ => none)
  else if o = 1006 ∨ o = 1007 then (match s with | true :: true :: r => some (true :: r) | _ => none)
  else if o = 1008 then (match s with | true :: r => some (true :: r) | _ => none)
  else if o = 1009 then (match s with | false :: false :: true :: r => some (false :: r) | _ => none)
  else none
def kindRun : List Int32 → List Bool → Option (List Bool)
  | [], s => some s
  | o :: l, s => (kindStep o s).bind (kindRun l)
def okCode (l : List Int32) : Prop := l = [] ∨ kindRun l [] = some [false]
/-- the model's order for the class' one -/
def trC (o : Int32) : Int32 :=
  if o < 1000 then o else if 1010 ≤ o then o - 10
  else if o = 1000 then 3000 else if o = 1001 then 3001 else if o = 1002 then 3002 else if o = 1003 then 3003 else if o = 1004 then 3004
  else if o = 1005 then 3005 else if o = 1006 then 3007 else if o = 1007 then 3008 else if o = 1008 then 3006 else 3009
def wfT (t : Txt) : Prop := (1 ≤ tR t ∧ tR t ≤ 5) ∧ (1 ≤ tW t ∧ tW t ≤ 5) ∧ tLines t ≤ 900 ∧ tGale t ≤ 10 ∧
  ((tPlots t).length ≤ 6 ∧ ∀ q ∈ tPlots t, q.1 < tN t ∧ (1 ≤ q.2.1 ∧ q.2.1 ≤ 9) ∧ q.2.2 ≤ 9) ∧
  ((tPapers t).length ≤ 6 ∧ ∀ q ∈ tPapers t, q.1 < tN t ∧ q.2 < tN t) ∧
  ((tDebts t).length ≤ 8 ∧ ∀ q ∈ tDebts t, q.1 < 5 ∧ q.2.1 < 5 ∧ q.1 ≠ q.2.1 ∧ q.2.2 ≤ 99) ∧ okCode (tTide t) ∧ okCode (tWash t) ∧ ∀ o ∈ tTide t, o < 1012
def wfC (t : Txt) (c : Cst) (n : Nat) : Prop := (∀ i, i < tN t → cSand c i ≤ 9) ∧ ((cHouses c).length ≤ 6 ∧ ∀ q ∈ cHouses c, q.1 < tN t ∧ q.2 < 5) ∧ cStand c < 2 ^ (cHouses c).length ∧ cMoon c ≤ 9 ∧ cMinute c ≤ 99 * n
/-- the cells in column 0, as bits -/
def leftM (r w : Nat) : Nat := ((List.range r).map (fun i => 2 ^ (i * w))).sum
/-- is cell c under a paper with corners a, b -/
def amid (v a b : Nat) : Bool := decide (min a b ≤ v) && decide (v ≤ max a b)
def under (w a b c : Nat) : Bool := amid (c / w) (a / w) (b / w) && amid (c % w) (a % w) (b % w)
/-- what an owner has to get less what it has to pay -/
def balI (ds : List (Nat × Nat × Nat)) (o : Nat) : Int := (ds.map (fun q => (if q.2.1 = o then (q.2.2 : Int) else 0) - (if q.1 = o then (q.2.2 : Int) else 0))).sum
/-- a law in a row of numbers: from f on, up to e -/
def codeAt (A : Nat → Int32) (f e : Nat) (l : List Int32) : Prop := e = f + l.length ∧ ∀ (j : Nat) (o : Int32), l[j]? = some o → A (f + j) = o
/-! ===== how class and model hold them ===== -/
def LandC (M : xM) (k : Nat) (t : Txt) : Prop :=
  M.2.1 k 0 = nI (tR t) ∧ M.2.1 k 1 = nI (tW t) ∧ M.2.1 k 2 = nI (leftM (tR t) (tW t)) ∧ M.2.1 k 3 = nI (tLines t) ∧ M.2.1 k 4 = nI (tGale t) ∧ M.2.1 k 5 = nI (tPlots t).length ∧ M.2.1 k 6 = nI (tPapers t).length ∧
  (∀ (p : Nat) (q : Nat × Nat × Nat), (tPlots t)[p]? = some q → M.2.1 (k + 1) p = nI q.1 ∧ M.2.1 (k + 2) p = nI q.2.1 ∧ M.2.1 (k + 3) p = nI q.2.2) ∧
  (∀ (p : Nat) (q : Nat × Nat), (tPapers t)[p]? = some q → ∃ s : Nat, s < 2 ^ 25 ∧ M.2.1 (k + 4) p = nI s ∧ ∀ c, s.testBit c = (decide (c < tN t) && under (tW t) q.1 q.2 c)) ∧
  (∀ o, o < 5 → (M.2.1 (k + 5) o).toInt = balI (tDebts t) o) ∧
  ∃ f1 e1 f2 e2 n : Nat, M.2.1 k 7 = nI n ∧ n ≤ 900 ∧ M.2.1 k 8 = nI f1 ∧ M.2.1 k 9 = nI e1 ∧ M.2.1 k 10 = nI f2 ∧ M.2.1 k 11 = nI e2 ∧ e1 ≤ n ∧ e2 ≤ n ∧ codeAt (M.2.1 (k + 6)) f1 e1 (tTide t) ∧ codeAt (M.2.1 (k + 6)) f2 e2 (tWash t)
def LandA (A : Nat → Int32) (B : Nat) (t : Txt) : Prop :=
  A B = nI (tLines t) ∧ A (B + 1) = nI (tR t) ∧ A (B + 2) = nI (tW t) ∧ A (B + 3) = nI (tGale t) ∧ A (B + 4) = nI (tPlots t).length ∧ A (B + 5) = nI (tPapers t).length ∧ A (B + 6) = nI (tDebts t).length ∧
  (∀ (p : Nat) (q : Nat × Nat × Nat), (tPlots t)[p]? = some q → A (B + 13 + 3 * p) = nI q.1 ∧ A (B + 14 + 3 * p) = nI q.2.1 ∧ A (B + 15 + 3 * p) = nI q.2.2) ∧
  (∀ (p : Nat) (q : Nat × Nat), (tPapers t)[p]? = some q → A (B + 31 + 2 * p) = nI q.1 ∧ A (B + 32 + 2 * p) = nI q.2) ∧
  (∀ (p : Nat) (q : Nat × Nat × Nat), (tDebts t)[p]? = some q → A (B + 43 + 3 * p) = nI q.1 ∧ A (B + 44 + 3 * p) = nI q.2.1 ∧ A (B + 45 + 3 * p) = nI q.2.2) ∧
  A (B + 7) = (if tTide t = [] then 0 else 1) ∧ A (B + 8) = (if tWash t = [] then 0 else 1) ∧
  (tTide t ≠ [] → ∃ f e : Nat, A (B + 9) = nI f ∧ A (B + 11) = nI (tTide t).length ∧ e ≤ 900 ∧ codeAt (fun i => A (B + 520 + i)) f e ((tTide t).map trC)) ∧
  (tWash t ≠ [] → ∃ f e : Nat, A (B + 10) = nI f ∧ A (B + 12) = nI (tWash t).length ∧ e ≤ 900 ∧ codeAt (fun i => A (B + 520 + i)) f e ((tWash t).map trC))
def CoastC (M : xM) (k : Nat) (t : Txt) (c : Cst) : Prop :=
  (∀ i, i < tN t → M.2.1 (k + 1) i = nI (cSand c i)) ∧ M.2.1 k 3 = nI (cHouses c).length ∧ (∀ (h : Nat) (q : Nat × Nat), (cHouses c)[h]? = some q → M.2.1 (k + 2) h = nI q.1 ∧ M.2.1 (k + 3) h = nI q.2) ∧
  M.2.1 k 4 = nI (cStand c) ∧ M.2.1 k 5 = nI (cMoon c) ∧ M.2.1 k 6 = nI (cMinute c)
def CoastA (A : Nat → Int32) (B : Nat) (t : Txt) (c : Cst) : Prop :=
  (∀ i, i < tN t → A (B + i) = nI (cSand c i)) ∧ A (B + 25) = nI (cHouses c).length ∧ (∀ (h : Nat) (q : Nat × Nat), (cHouses c)[h]? = some q → A (B + 26 + 2 * h) = nI q.1 ∧ A (B + 27 + 2 * h) = nI q.2) ∧
  (∃ f : Nat, f < 64 ∧ A (B + 38) = nI f ∧ ∀ h, h < (cHouses c).length → f.testBit h = !(cStand c).testBit h) ∧ A (B + 39) = nI (cMoon c) ∧ A (B + 40) = nI (cMinute c)
/-! ===== the invariant ===== -/
def Ifault (M : xM) : Prop := M.2.1 1 2 = M.2.1 164 13 ∧ M.2.1 1 3 = M.2.1 164 14
def Itape (M : xM) : Prop := ∃ n : Nat, n ≤ 900 ∧ M.2.1 0 0 = nI n ∧ M.2.1 164 5 = nI n ∧ ∀ k, k < n → ∃ b : Nat, b < 256 ∧ M.2.1 167 k = nI b ∧ M.2.1 2 k = (nI b).toInt8.toInt32
def Inow (n : Nat) (M : xM) (t : Txt) : Prop := wfT t ∧ LandC M 14 t ∧ LandA (M.2.1 165) 0 t ∧ ∃ c : Cst, wfC t c n ∧ CoastC M 21 t c ∧ CoastA (M.2.1 165) 67 t c
def Ipast (n : Nat) (M : xM) (t : Txt) : Prop := ∃ (cs : List Cst) (nx : Nat), cs.length ≤ 10 ∧ nx < 11 ∧ M.2.1 35 0 = nI cs.length ∧ M.2.1 35 1 = nI nx ∧ M.2.1 165 108 = nI cs.length ∧
  ∀ (j : Nat) (c : Cst), cs[j]? = some c → wfC t c n ∧ CoastC M (37 + 4 * ((nx + 10 - j) % 11)) t c ∧ CoastA (M.2.1 165) (109 + 41 * (cs.length - 1 - j)) t c
def Itray (M : xM) : Prop := ∀ t, t < 4 → (M.2.1 (82 + 2 * t) 0 = -1 ∧ M.2.1 182 t = -1) ∨
  ∃ sz so : Nat, sz ≤ 40 ∧ so ≤ 3 ∧ M.2.1 (82 + 2 * t) 0 = nI sz ∧ M.2.1 (82 + 2 * t) 1 = nI so ∧ M.2.1 182 t = nI so ∧ M.2.1 183 t = nI sz ∧ ∀ j, j < sz → M.2.2.1 (83 + 2 * t) j = M.2.2.1 184 (40 * t + j)
def Iimg (n : Nat) (M : xM) : Prop := ∃ mk : Nat, mk < 4 ∧ M.2.1 0 10 = nI mk ∧ ∀ i, i < 2 → M.2.1 166 i = (if mk.testBit i then 1 else 0) ∧
  (mk.testBit i = true → ∃ (t : Txt) (c : Cst), wfT t ∧ wfC t c n ∧ LandC M (92 + 11 * i) t ∧ CoastC M (99 + 11 * i) t c ∧ LandA (M.2.1 165) (1420 * (i + 1)) t ∧ CoastA (M.2.1 165) (1420 * (i + 1) + 67) t c)
def Inim (M : xM) : Prop := ∀ j, j < 32 → M.2.1 124 j = nimL.getD j 0
def INV (n : Nat) (M : xM) : Prop := G M ∧ Ifault M ∧ Itape M ∧ (∃ t : Txt, Inow n M t ∧ Ipast n M t) ∧ Itray M ∧ Iimg n M ∧ Inim M
theorem wfC_mono {t : Txt} {c : Cst} {n : Nat} (h : wfC t c n) : wfC t c (n + 1) := ⟨h.1, h.2.1, h.2.2.1, h.2.2.2.1, by have := h.2.2.2.2; omega⟩
theorem INV_mono (n : Nat) (M : xM) (h : INV n M) : INV (n + 1) M := by
  obtain ⟨hG, hf, ht, ⟨t, ⟨h1, h2, h3, c, h4, h5⟩, cs, nx, p1, p2, p3, p4, p5, p6⟩, hr, ⟨mk, i1, i2, i3⟩, hn⟩ := h
  refine ⟨hG, hf, ht, ⟨t, ⟨h1, h2, h3, c, wfC_mono h4, h5⟩, cs, nx, p1, p2, p3, p4, p5, fun j c hj => ⟨wfC_mono (p6 j c hj).1, (p6 j c hj).2⟩⟩, hr, ⟨mk, i1, i2, fun i hi => ⟨(i3 i hi).1, fun hb => ?_⟩⟩, hn⟩
  obtain ⟨t, c, a1, a2, a3⟩ := (i3 i hi).2 hb
  exact ⟨t, c, a1, wfC_mono a2, a3⟩
