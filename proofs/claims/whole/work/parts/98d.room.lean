theorem sumZ_one {f : Nat → Int} {j : Nat} (n : Nat) (hj : j < n) (h : ∀ p, p < n → p ≠ j → f p = 0) : sumZ f n = f j := by
  have u := sumZ_upd (f := f) (g := fun _ => 0) n hj h
  have z : sumZ (fun _ => 0) n = 0 := sumZ_0 n (fun _ _ => rfl)
  rw [z] at u
  omega
/-- all but one node: what enters it -/
theorem cut_all {r : Nat → Nat → Int} {T a : Nat} (hT : T < 51) (ha : a < 51) (hne : a ≠ T) (h : ∀ i, i < 51 → i ≠ a → r i T = 0) : cutZ r (fun u => !(u == T)) = r a T := by
  have row : ∀ i, i < 51 → i ≠ T → cutR r (fun u => !(u == T)) i = r i T := fun i hi hn => by
    unfold cutR
    have e := sumZ_one (f := fun j => if (!(i == T)) && !(!(j == T)) then r i j else 0) 51 hT (fun p hp hpn => by
      show (if (!(i == T)) && !(!(p == T)) then r i p else 0) = 0
      rw [show (p == T) = false from beq_false_of_ne hpn]
      simp)
    refine e.trans ?_
    show (if (!(i == T)) && !(!(T == T)) then r i T else 0) = r i T
    rw [show (i == T) = false from beq_false_of_ne hn, show (T == T) = true from beq_self_eq_true T]
    rfl
  have rowT : cutR r (fun u => !(u == T)) T = 0 := by
    unfold cutR
    refine sumZ_0 _ fun j _ => ?_
    show (if (!(T == T)) && !(!(j == T)) then r T j else 0) = 0
    rw [show (T == T) = true from beq_self_eq_true T]
    rfl
  unfold cutZ
  rw [sumZ_one (j := a) 51 ha (fun p hp hpn => ?_), row a ha hne]
  by_cases e : p = T
  · rw [e]; exact rowT
  · rw [row p hp e]; exact h p hp hpn
