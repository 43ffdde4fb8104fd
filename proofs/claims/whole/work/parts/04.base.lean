/-! ===== the words that every method is given ===== -/
def xw : List Cond := lw_tbl.filter goodWord
theorem xw_at {w : Cond} (i : Nat) (h : lw_tbl[i]? = some w) (g : goodWord w = true) : w ∈ xw := List.mem_filter.mpr ⟨List.mem_of_getElem? h, g⟩
theorem xw_good {w : Cond} (h : w ∈ xw) : goodWord w = true := (List.mem_filter.mp h).2
theorem xw_goodIn {c1 : Cond} (h : c1 ∈ xw) : GoodIn xw (c1 :: xw) := by
  intro w hw
  rcases List.mem_cons.mp hw with rfl | hw
  · exact ⟨h, good_of_word (xw_good h)⟩
  · exact ⟨hw, good_of_word (xw_good hw)⟩
/-! ===== memory: cells by number; (kind, length); ints, longs, references by cell and place ===== -/
abbrev xS : Type := Nat × Nat
abbrev xM : Type := List xS × (Nat → Nat → Int32) × (Nat → Nat → Int64) × (Nat → Nat → Option Nat)
def xu {α : Type} (f : Nat → Nat → α) (k i : Nat) (v : α) : Nat → Nat → α := fun a j => if a = k ∧ j = i then v else f a j
def xur {α : Type} (f : Nat → Nat → α) (k : Nat) (r : Nat → α) : Nat → Nat → α := fun a => if a = k then r else f a
theorem xu_ne {α : Type} {f : Nat → Nat → α} {k i : Nat} {v : α} {a : Nat} (h : a ≠ k) : xu f k i v a = f a := by
  funext j; unfold xu; rw [if_neg (fun z => h z.1)]
theorem xur_ne {α : Type} {f : Nat → Nat → α} {k : Nat} {r : Nat → α} {a : Nat} (h : a ≠ k) : xur f k r a = f a := by
  unfold xur; rw [if_neg h]
theorem xur_eq {α : Type} {f : Nat → Nat → α} {k : Nat} {r : Nat → α} : xur f k r k = r := by
  unfold xur; rw [if_pos rfl]
/-- kinds of a class' fields: 0 an int, 1 a long, 2 a reference, 3 a boolean -/
def xts : Nat → List Nat
  | 0 => [2, 2, 2, 0, 0, 0, 0]
  | 1 => [2, 2, 2, 2, 2, 0]
  | 2 => [2, 2]
  | 3 => [0, 0, 0, 0, 0, 0, 0, 0, 0, 0, 0, 0, 2, 2, 2, 2, 2, 2]
  | 4 => [2, 2]
  | 5 => [0, 0, 2]
  | 6 => [2]
  | 7 => [2, 2, 0, 0, 2, 0, 0, 0, 0, 0, 3]
  | 8 => [2, 2, 2]
  | 9 => [2]
  | 10 => [0, 0, 2]
  | 11 => [0, 2, 2, 2, 2, 2, 2, 2, 2, 2, 0, 2, 2, 2, 2, 2, 0]
  | _ => [0, 2, 2, 2, 2, 0, 0, 0, 0, 0, 0, 0, 0, 0, 0, 0, 2, 2, 2, 2, 0, 0, 2, 0, 0, 2, 2, 2, 2, 2, 2, 2, 2, 2, 2, 2]
def xfv (z : Nat) (I : Nat → Int32) (J : Nat → Int64) (P : Nat → Option Nat) (i t : Nat) : Value := if t = 0 ∨ t = 3 then .int (I i) else if t = 1 then .long (J i) else va_rf ((P i).map (z + ·))
def xF (z : Nat) (ts : List Nat) (I : Nat → Int32) (J : Nat → Int64) (P : Nat → Option Nat) : List Value := ts.mapIdx (xfv z I J P)
/-- kinds of cells: 0 .. 12 an object of that class; 20 int[], 21 byte[], 22 boolean[], 24 long[], 30 + k an array of objects of class k -/
def xE (z : Nat) (cA : Nat → ClassId) (sh : xS) (I : Nat → Int32) (J : Nat → Int64) (P : Nat → Option Nat) : va_E :=
  if sh.1 < 20 then .inr (sh.1, xF z (xts sh.1) I J P)
  else if sh.1 < 24 then .inl (cA sh.1, sh.2, .inl I)
  else if sh.1 = 24 then .inl (cA sh.1, sh.2, .inr (.inl J))
  else .inl (cA sh.1, sh.2, .inr (.inr (.inr (.inr (fun i => (P i).map (z + ·))))))
def xWs (z : Nat) (cA : Nat → ClassId) (M : xM) : va_W := M.1.mapIdx (fun k sh => (z + k, xE z cA sh (M.2.1 k) (M.2.2.1 k) (M.2.2.2 k)))
theorem xWs_at {z : Nat} {cA : Nat → ClassId} {M : xM} {k : Nat} {sh : xS} (h : M.1[k]? = some sh) : (xWs z cA M)[k]? = some (z + k, xE z cA sh (M.2.1 k) (M.2.2.1 k) (M.2.2.2 k)) := by
  simp [xWs, List.getElem?_mapIdx, h]
theorem xWs_inv {z : Nat} {cA : Nat → ClassId} {M : xM} {k : Nat} {q : Nat × va_E} (h : (xWs z cA M)[k]? = some q) : k < M.1.length ∧ q.1 = z + k := by
  simp only [xWs, List.getElem?_mapIdx, Option.map_eq_some_iff] at h
  obtain ⟨sh, h1, h2⟩ := h
  exact ⟨(List.getElem?_eq_some_iff.mp h1).1, by rw [← h2]⟩
theorem xWs_D {z : Nat} {cA : Nat → ClassId} {M : xM} : va_D (fun q => z ≤ q) (xWs z cA M) := by
  refine ⟨fun i j p q hi hj e => ?_, fun k q h => ?_⟩
  · have h1 := (xWs_inv hi).2
    have h2 := (xWs_inv hj).2
    omega
  · have h1 := (xWs_inv h).2
    show z ≤ q.1
    omega
theorem xWs_set {z : Nat} {cA : Nat → ClassId} {M M' : xM} {k : Nat} {sh : xS} (h : M.1[k]? = some sh) (h1 : M'.1 = M.1) (hI : ∀ j, j ≠ k → M'.2.1 j = M.2.1 j) (hJ : ∀ j, j ≠ k → M'.2.2.1 j = M.2.2.1 j) (hP : ∀ j, j ≠ k → M'.2.2.2 j = M.2.2.2 j) :
    (xWs z cA M).set k (z + k, xE z cA sh (M'.2.1 k) (M'.2.2.1 k) (M'.2.2.2 k)) = xWs z cA M' := by
  have hk : k < M.1.length := (List.getElem?_eq_some_iff.mp h).1
  apply List.ext_getElem?
  intro j
  by_cases hj : j = k
  · subst hj
    rw [List.getElem?_set_self (by simpa [xWs] using hk), xWs_at (M := M') (sh := sh) (by rw [h1]; exact h)]
  · rw [List.getElem?_set_ne (fun e => hj e.symm)]
    simp [xWs, List.getElem?_mapIdx, h1, hI j hj, hJ j hj, hP j hj]
/-! ===== what is fixed over a run: where the cells begin, the array classes, the tables, where the texts lie ===== -/
abbrev xQ : Type := Nat × (Nat → ClassId) × va_G × (Nat → Nat) × (Nat → Nat)
def xA (κ : xQ) : Nat → Prop := fun q => κ.1 ≤ q
def xtys (cA : Nat → ClassId) : List (ClassId × FieldType) := [(cA 20, .int), (cA 21, .byte), (cA 22, .boolean), (cA 24, .long), (cA 30, .object RX0), (cA 33, .object RX3), (cA 40, .object RX10)]
def xK (κ : xQ) (U : State) : Prop := va_K κ.2.2.1 vwCl (xtys κ.2.1) U
def xR (κ : xQ) (M : xM) (H : Heap) : Prop := va_P κ.2.2.1 vwCl (xWs κ.1 κ.2.1 M) H ∧ H.size = κ.1 + M.1.length
/-- a String constant's own cells -/
def xT1 (A : Nat → Prop) (a v : Nat) (bs : List Int32) (U : State) (H : Heap) : Prop :=
  va_O "java/lang/String" a A U H ∧ va_OF "java/lang/String" "coder" "B" (.int 0) a A U H ∧ va_OF "java/lang/String" "value" "[B" (.ref v) a A U H ∧ va_T .byte v bs.length (fun j => .int (bs.getD j 0)) A U H
/-! ===== what a method may ask of the memory ===== -/
def xgI (M : xM) (k ci f : Nat) : Option Int32 := if (M.1[k]?).map Prod.fst = some ci then some (M.2.1 k f) else none
def xgP (M : xM) (k ci f : Nat) : Option Nat := if (M.1[k]?).map Prod.fst = some ci then M.2.2.2 k f else none
def xpI (M : xM) (k ci f : Nat) (v : Int32) : Option xM := if (M.1[k]?).map Prod.fst = some ci then some (M.1, xu M.2.1 k f v, M.2.2.1, M.2.2.2) else none
def xpZ (M : xM) (k ci f : Nat) (v : Int32) : Option xM := if (M.1[k]?).map Prod.fst = some ci ∧ (v = 0 ∨ v = 1) then some (M.1, xu M.2.1 k f v, M.2.2.1, M.2.2.2) else none
def xpP (M : xM) (k ci f : Nat) (v : Nat) : Option xM := if (M.1[k]?).map Prod.fst = some ci then some (M.1, M.2.1, M.2.2.1, xu M.2.2.2 k f (some v)) else none
/-- the length of an array of a kind -/
def xln (M : xM) (t k : Nat) : Option Nat := match M.1[k]? with
  | some sh => if sh.1 = t then some sh.2 else none
  | none => none
def xaI (M : xM) (t k : Nat) (i : Int32) : Option Int32 := (xln M t k).bind fun n => if 0 ≤ i ∧ i.toNatClampNeg < n then some (M.2.1 k i.toNatClampNeg) else none
def xaJ (M : xM) (k : Nat) (i : Int32) : Option Int64 := (xln M 24 k).bind fun n => if 0 ≤ i ∧ i.toNatClampNeg < n then some (M.2.2.1 k i.toNatClampNeg) else none
def xaP (M : xM) (t k : Nat) (i : Int32) : Option Nat := (xln M t k).bind fun n => if 0 ≤ i ∧ i.toNatClampNeg < n then M.2.2.2 k i.toNatClampNeg else none
def xal (M : xM) (t k : Nat) : Option Int32 := (xln M t k).map Int32.ofNat
def xsI (M : xM) (k : Nat) (i v : Int32) : Option xM := (xln M 20 k).bind fun n => if 0 ≤ i ∧ i.toNatClampNeg < n then some (M.1, xu M.2.1 k i.toNatClampNeg v, M.2.2.1, M.2.2.2) else none
def xsB (M : xM) (k : Nat) (i v : Int32) : Option xM := (xln M 21 k).bind fun n => if 0 ≤ i ∧ i.toNatClampNeg < n then some (M.1, xu M.2.1 k i.toNatClampNeg v.toInt8.toInt32, M.2.2.1, M.2.2.2) else none
def xsZ (M : xM) (k : Nat) (i v : Int32) : Option xM := (xln M 22 k).bind fun n => if 0 ≤ i ∧ i.toNatClampNeg < n then some (M.1, xu M.2.1 k i.toNatClampNeg (v &&& 1), M.2.2.1, M.2.2.2) else none
def xsJ (M : xM) (k : Nat) (i : Int32) (v : Int64) : Option xM := (xln M 24 k).bind fun n => if 0 ≤ i ∧ i.toNatClampNeg < n then some (M.1, M.2.1, xu M.2.2.1 k i.toNatClampNeg v, M.2.2.2) else none
def xsP (M : xM) (t ci k : Nat) (i : Int32) (v : Nat) : Option xM := (xln M t k).bind fun n => if (0 ≤ i ∧ i.toNatClampNeg < n) ∧ (M.1[v]?).map Prod.fst = some ci then some (M.1, M.2.1, M.2.2.1, xu M.2.2.2 k i.toNatClampNeg (some v)) else none
/-- arraycopy of ints -/
def xcp (M : xM) (a : Nat) (i : Int32) (b : Nat) (j n : Int32) : Option xM := (xln M 20 a).bind fun la => (xln M 20 b).bind fun lb =>
  if (0 ≤ i ∧ 0 ≤ j ∧ 0 ≤ n) ∧ i.toNatClampNeg + n.toNatClampNeg ≤ la ∧ j.toNatClampNeg + n.toNatClampNeg ≤ lb then some (M.1, xur M.2.1 b (va_cpy (M.2.1 a) (M.2.1 b) i.toNatClampNeg j.toNatClampNeg n.toNatClampNeg), M.2.2.1, M.2.2.2) else none
/-! ===== loops ===== -/
def xit {σ ρ : Type} (f : σ → Option (σ ⊕ ρ)) : Nat → σ → Option ρ
  | 0, _ => none
  | n + 1, s => match f s with
    | some (.inl s') => xit f n s'
    | some (.inr r) => some r
    | none => none
def xKl {σ ρ : Type} (Wh : σ → Prop) (Kp : ρ → Prop) : σ ⊕ ρ → Prop
  | .inl s => Wh s
  | .inr o => Kp o
theorem xit_K {σ ρ : Type} {f : σ → Option (σ ⊕ ρ)} {Wh : σ → Prop} {Kp : ρ → Prop} (body : ∀ s x, f s = some x → xKl Wh Kp x → Wh s) : ∀ (n : Nat) (s : σ) (o : ρ), xit f n s = some o → Kp o → Wh s := by
  intro n
  induction n with
  | zero => intro s o h; cases h
  | succ n ih =>
    intro s o h hK
    unfold xit at h
    split at h
    · next s' hs => exact body s _ hs (ih s' o h hK)
    · next r hs => cases h; exact body s _ hs hK
    · cases h
def xFU : Nat := 1000000
