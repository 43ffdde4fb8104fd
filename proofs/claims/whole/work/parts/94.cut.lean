/-! ===== cuts ===== -/
def sumZ (f : Nat → Int) : Nat → Int
  | 0 => 0
  | n + 1 => sumZ f n + f n
theorem sumZ_cg {f g : Nat → Int} : ∀ n, (∀ p, p < n → f p = g p) → sumZ f n = sumZ g n
  | 0, _ => rfl
  | n + 1, h => by
    show sumZ f n + f n = sumZ g n + g n
    rw [sumZ_cg n (fun p hp => h p (by omega)), h n (by omega)]
theorem sumZ_upd {f g : Nat → Int} {j : Nat} : ∀ n, j < n → (∀ p, p < n → p ≠ j → f p = g p) → sumZ f n + g j = sumZ g n + f j
  | 0, h, _ => by omega
  | n + 1, hj, h => by
    show sumZ f n + f n + g j = sumZ g n + g n + f j
    by_cases e : j = n
    · rw [e, sumZ_cg n (fun p hp => h p (by omega) (by omega))]
      omega
    · have := sumZ_upd n (show j < n by omega) (fun p hp => h p (by omega))
      rw [h n (by omega) (by omega)]
      omega
theorem sumZ_0 {f : Nat → Int} : ∀ n, (∀ p, p < n → f p = 0) → sumZ f n = 0
  | 0, _ => rfl
  | n + 1, h => by
    show sumZ f n + f n = 0
    rw [sumZ_0 n (fun p hp => h p (by omega)), h n (by omega)]
    rfl
theorem sumZ_nn {f : Nat → Int} : ∀ n, (∀ p, p < n → 0 ≤ f p) → 0 ≤ sumZ f n
  | 0, _ => Int.le_refl _
  | n + 1, h => by
    have := sumZ_nn n (fun p hp => h p (by omega))
    have := h n (by omega)
    show 0 ≤ sumZ f n + f n
    omega
/-- what goes from X to the rest -/
def cutR (r : Nat → Nat → Int) (X : Nat → Bool) (i : Nat) : Int := sumZ (fun j => if X i && !X j then r i j else 0) 51
def cutZ (r : Nat → Nat → Int) (X : Nat → Bool) : Int := sumZ (cutR r X) 51
def idZ (b : Bool) : Int := if b then 1 else 0
def rU (r : Nat → Nat → Int) (i j : Nat) (v : Int) : Nat → Nat → Int := fun a b => if a = i ∧ b = j then v else r a b
theorem cut_upd {r : Nat → Nat → Int} {X : Nat → Bool} {i j : Nat} {v : Int} (hi : i < 51) (hj : j < 51) : cutZ (rU r i j v) X = cutZ r X + (if X i && !X j then v - r i j else 0) := by
  have row : cutR (rU r i j v) X i = cutR r X i + (if X i && !X j then v - r i j else 0) := by
    have u := sumZ_upd (f := fun b => if X i && !X b then rU r i j v i b else 0) (g := fun b => if X i && !X b then r i b else 0) 51 hj (fun p _ hn => by
      have e : rU r i j v i p = r i p := by unfold rU; rw [if_neg (by omega)]
      show (if X i && !X p then rU r i j v i p else 0) = _
      rw [e])
    have e : rU r i j v i j = v := by unfold rU; rw [if_pos ⟨rfl, rfl⟩]
    rw [e] at u
    unfold cutR
    cases hx : (X i && !X j) with
    | true =>
      rw [hx, if_pos rfl, if_pos rfl] at u
      rw [if_pos rfl]
      omega
    | false =>
      rw [hx, if_neg (by decide), if_neg (by decide)] at u
      rw [if_neg (by decide)]
      omega
  have u := sumZ_upd (f := cutR (rU r i j v) X) (g := cutR r X) 51 hi (fun p _ hn => by
    unfold cutR
    refine sumZ_cg _ fun b _ => ?_
    have e : rU r i j v p b = r p b := by unfold rU; rw [if_neg (by omega)]
    show (if X p && !X b then rU r i j v p b else 0) = _
    rw [e])
  unfold cutZ
  omega
/-- one edge of a way: a less there, a more back -/
theorem cut_edge {r : Nat → Nat → Int} {X : Nat → Bool} {i j : Nat} (a : Int) (hi : i < 51) (hj : j < 51) (hne : i ≠ j) : cutZ (rU (rU r i j (r i j - a)) j i (r j i + a)) X = cutZ r X - a * (idZ (X i) - idZ (X j)) := by
  have e : rU r i j (r i j - a) j i = r j i := by unfold rU; rw [if_neg (by omega)]
  rw [cut_upd hj hi, cut_upd hi hj, e]
  unfold idZ
  cases X i <;> cases X j <;> simp <;> omega
/-- the least cut is one number -/
theorem cut_least {r r' r0 : Nat → Nat → Int} {T : Nat} {k k' : Int} {Y Y' : Nat → Bool}
    (h : ∀ X : Nat → Bool, X 50 = true → X T = false → cutZ r X = cutZ r0 X - k) (h' : ∀ X : Nat → Bool, X 50 = true → X T = false → cutZ r' X = cutZ r0 X - k')
    (p : ∀ i j, i < 51 → j < 51 → 0 ≤ r i j) (p' : ∀ i j, i < 51 → j < 51 → 0 ≤ r' i j)
    (y1 : Y 50 = true) (y2 : Y T = false) (y3 : cutZ r Y = 0) (z1 : Y' 50 = true) (z2 : Y' T = false) (z3 : cutZ r' Y' = 0) : k = k' := by
  have nn : ∀ (q : Nat → Nat → Int) (X : Nat → Bool), (∀ i j, i < 51 → j < 51 → 0 ≤ q i j) → 0 ≤ cutZ q X := fun q X hq => sumZ_nn _ fun i hi => by
    unfold cutR
    exact sumZ_nn _ fun j hj => by
      have := hq i j hi hj
      show 0 ≤ (if X i && !X j then q i j else 0)
      split
      · exact this
      · exact Int.le_refl _
  have a1 := h Y y1 y2
  have a2 := h' Y y1 y2
  have a3 := nn r' Y p'
  have b1 := h Y' z1 z2
  have b2 := h' Y' z1 z2
  have b3 := nn r Y' p
  omega
theorem cut_closed {r : Nat → Nat → Int} {X : Nat → Bool} (h : ∀ i j, i < 51 → j < 51 → X i = true → X j = false → r i j = 0) : cutZ r X = 0 := sumZ_0 _ fun i hi => by
  unfold cutR
  refine sumZ_0 _ fun j hj => ?_
  show (if X i && !X j then r i j else 0) = 0
  cases h1 : X i with
  | false => rfl
  | true =>
    cases h2 : X j with
    | true => rfl
    | false => rw [h i j hi hj h1 h2]; rfl
