/-! ===== rows filled ===== -/
/-- n places of a row from b on hold v -/
def xfl {α : Type} (f : Nat → Nat → α) (k b n : Nat) (v : α) : Nat → Nat → α := fun a i => if a = k ∧ b ≤ i ∧ i < b + n then v else f a i
theorem xfl_0 {α : Type} {f : Nat → Nat → α} {k b : Nat} {v : α} : xfl f k b 0 v = f := by
  funext a i
  unfold xfl
  rw [if_neg (by omega)]
theorem xfl_s {α : Type} {f : Nat → Nat → α} {k b n : Nat} {v : α} : xu (xfl f k b n v) k (b + n) v = xfl f k b (n + 1) v := by
  funext a i
  unfold xfl xu
  by_cases h1 : a = k ∧ i = b + n
  · rw [if_pos h1, if_pos (by omega)]
  · rw [if_neg h1]
    dsimp only
    by_cases h2 : a = k ∧ b ≤ i ∧ i < b + n
    · rw [if_pos h2, if_pos (by omega)]
    · rw [if_neg h2, if_neg (by omega)]
theorem xal_G {M : xM} {k t n : Nat} (hG : G M) (hs : SH[k]? = some (t, n)) : xal M t k = some (nI n) := by
  unfold xal
  rw [G_ln hG hs]
  rfl
theorem fillJ {M : xM} {k n : Nat} (hG : G M) (hs : SH[k]? = some (24, n)) (hn : n < 1000) (v : Int64) : F_J7_fill_d0a16 k v M = some (M.1, M.2.1, xfl M.2.2.1 k 0 n v, M.2.2.2) := by
  unfold F_J7_fill_d0a16 F_J7_fill_d0a16_6
  rw [xal_G hG hs, Option.bind_some]
  refine xit_run (fun j => (nI j, (M.1, M.2.1, xfl M.2.2.1 k 0 j v, M.2.2.2))) n (by rw [xfl_0]; rfl) (fun j hj => ?_) ?_ (by omega)
  · unfold F_J7_fill_d0a16_6b
    dsimp only
    have g : G (M.1, M.2.1, xfl M.2.2.1 k 0 j v, M.2.2.2) := hG
    rw [if_neg (nI_ge hj (by omega)), G_sJ g hs rfl hj (by omega)]
    simp only [Option.bind_some, nI_1]
    have e := xfl_s (f := M.2.2.1) (k := k) (b := 0) (n := j) (v := v)
    rw [Nat.zero_add] at e
    rw [e]
  · unfold F_J7_fill_d0a16_6b F_J7_fill_d0a16_22
    dsimp only
    rw [if_pos (nI_le (Nat.le_refl _) (by omega))]
theorem fillI {M : xM} {k n : Nat} (hG : G M) (hs : SH[k]? = some (20, n)) (hn : n < 1000) (v : Int32) : F_J7_fill_53178 k v M = some (M.1, xfl M.2.1 k 0 n v, M.2.2.1, M.2.2.2) := by
  unfold F_J7_fill_53178 F_J7_fill_53178_5
  rw [xal_G hG hs, Option.bind_some]
  refine xit_run (fun j => (nI j, (M.1, xfl M.2.1 k 0 j v, M.2.2.1, M.2.2.2))) n (by rw [xfl_0]; rfl) (fun j hj => ?_) ?_ (by omega)
  · unfold F_J7_fill_53178_5b
    dsimp only
    have g : G (M.1, xfl M.2.1 k 0 j v, M.2.2.1, M.2.2.2) := hG
    rw [if_neg (nI_ge hj (by omega)), G_sI g hs rfl hj (by omega)]
    simp only [Option.bind_some, nI_1]
    have e := xfl_s (f := M.2.1) (k := k) (b := 0) (n := j) (v := v)
    rw [Nat.zero_add] at e
    rw [e]
  · unfold F_J7_fill_53178_5b F_J7_fill_53178_20
    dsimp only
    rw [if_pos (nI_le (Nat.le_refl _) (by omega))]
theorem layC {M : xM} (hG : G M) {j : Nat} (hj : j < 4) (so sz : Int32) : F_X10_lay (82 + 2 * j) so sz M = some (M.1, xu (xu M.2.1 (82 + 2 * j) 1 so) (82 + 2 * j) 0 sz, xfl M.2.2.1 (83 + 2 * j) 0 40 0, M.2.2.2) := by
  unfold F_X10_lay
  rw [G_pI hG (traySh hj)]
  simp only [Option.bind_some]
  have g1 : G (M.1, xu M.2.1 (82 + 2 * j) 1 so, M.2.2.1, M.2.2.2) := hG
  rw [G_pI g1 (traySh hj)]
  simp only [Option.bind_some]
  have g2 : G (M.1, xu (xu M.2.1 (82 + 2 * j) 1 so) (82 + 2 * j) 0 sz, M.2.2.1, M.2.2.2) := hG
  rw [trayNum g2 hj]
  simp only [Option.bind_some]
  rw [fillJ g2 (trayLen hj) (by omega)]
  rfl
