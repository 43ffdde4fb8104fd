/-! ===== what is sent along the way ===== -/
def rZ (I : Nat → Nat → Int32) (i j : Nat) : Int := (I 174 (51 * i + j)).toInt
theorem cutZ_cg {r r' : Nat → Nat → Int} {X : Nat → Bool} (h : ∀ i j, i < 51 → j < 51 → r i j = r' i j) : cutZ r X = cutZ r' X := by
  unfold cutZ
  refine sumZ_cg _ fun i hi => ?_
  unfold cutR
  refine sumZ_cg _ fun j hj => ?_
  show (if X i && !X j then r i j else 0) = (if X i && !X j then r' i j else 0)
  rw [h i j hi hj]
theorem rZ_upd {I : Nat → Nat → Int32} {i j a b : Nat} {v : Int32} (hj : j < 51) (hb : b < 51) : rZ (xu I 174 (51 * i + j) v) a b = rU (rZ I) i j v.toInt a b := by
  unfold rZ rU
  by_cases e : a = i ∧ b = j
  · rw [if_pos e, e.1, e.2, xu_self]
  · rw [if_neg e, xu_o (by omega)]
theorem room_le {I : Nat → Nat → Int32} {q ps : Nat → Nat} (s : Nat) : ∀ d, (roomN I q ps (s + d)).toInt ≤ (roomN I q ps s).toInt
  | 0 => Int.le_refl _
  | d + 1 => by
    have ih := room_le (I := I) (q := q) (ps := ps) s d
    have e : roomN I q ps (s + (d + 1)) = if roomN I q ps (s + d) ≤ I 174 (51 * q (ps (s + d + 1)) + q (ps (s + d))) then roomN I q ps (s + d) else I 174 (51 * q (ps (s + d + 1)) + q (ps (s + d))) := rfl
    rw [e]
    split
    · exact ih
    · rename_i g
      have : ¬ (roomN I q ps (s + d)).toInt ≤ (I 174 (51 * q (ps (s + d + 1)) + q (ps (s + d)))).toInt := fun z => g (Int32.le_iff_toInt_le.mpr z)
      omega
theorem room_edge {I : Nat → Nat → Int32} {q ps : Nat → Nat} {s n : Nat} (hs : s < n) : (roomN I q ps n).toInt ≤ rZ I (q (ps (s + 1))) (q (ps s)) := by
  have h1 := room_le (I := I) (q := q) (ps := ps) (s + 1) (n - (s + 1))
  rw [show s + 1 + (n - (s + 1)) = n by omega] at h1
  have e : roomN I q ps (s + 1) = if roomN I q ps s ≤ I 174 (51 * q (ps (s + 1)) + q (ps s)) then roomN I q ps s else I 174 (51 * q (ps (s + 1)) + q (ps s)) := rfl
  unfold rZ
  rw [e] at h1
  split at h1
  · rename_i g
    have := Int32.le_iff_toInt_le.mp g
    omega
  · exact h1
theorem room_pos {I : Nat → Nat → Int32} {q ps : Nat → Nat} : ∀ n, (∀ s, s < n → 0 < rZ I (q (ps (s + 1))) (q (ps s))) → 0 < (roomN I q ps n).toInt ∧ (roomN I q ps n).toInt ≤ 268435456
  | 0, _ => by
    have : (roomN I q ps 0).toInt = 268435456 := by
      show (268435456 : Int32).toInt = 268435456
      decide
    omega
  | n + 1, h => by
    have ih := room_pos n (fun s hs => h s (by omega))
    have hl := room_le (I := I) (q := q) (ps := ps) n 1
    have hn := h n (by omega)
    have e : roomN I q ps (n + 1) = if roomN I q ps n ≤ I 174 (51 * q (ps (n + 1)) + q (ps n)) then roomN I q ps n else I 174 (51 * q (ps (n + 1)) + q (ps n)) := rfl
    refine ⟨?_, by omega⟩
    rw [e]
    split
    · exact ih.1
    · exact hn
/-- rooms as they may be: none below nothing, both ways together as at first -/
def okR (r r0 : Nat → Nat → Int) : Prop := ∀ i j, i < 51 → j < 51 → 0 ≤ r i j ∧ r i j + r j i = r0 i j + r0 j i
theorem ok_edge {r r0 : Nat → Nat → Int} {i j : Nat} {a : Int} (h : okR r r0) (hi : i < 51) (hj : j < 51) (hne : i ≠ j) (h1 : 0 ≤ a) (h2 : a ≤ r i j) : okR (rU (rU r i j (r i j - a)) j i (r j i + a)) r0 := fun x y hx hy => by
  have hxy := h x y hx hy
  have hyx := h y x hy hx
  have hij := h i j hi hj
  have hji := h j i hj hi
  unfold rU
  by_cases e1 : x = j ∧ y = i
  · obtain ⟨rfl, rfl⟩ := e1
    rw [if_pos ⟨rfl, rfl⟩, if_neg (show ¬ (y = x ∧ x = y) by omega), if_pos ⟨rfl, rfl⟩]
    omega
  · by_cases e2 : x = i ∧ y = j
    · obtain ⟨rfl, rfl⟩ := e2
      rw [if_neg e1, if_pos ⟨rfl, rfl⟩, if_pos ⟨rfl, rfl⟩]
      omega
    · rw [if_neg e1, if_neg e2, if_neg (show ¬ (y = j ∧ x = i) by omega), if_neg (show ¬ (y = i ∧ x = j) by omega)]
      exact hxy
