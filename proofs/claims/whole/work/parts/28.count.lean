def sumS (g : Nat → Nat) : Nat → Nat
  | 0 => 0
  | n + 1 => sumS g n + g n
theorem sandInAllC {M : xM} {t : Txt} {c : Cst} (hG : G M) (hw : wfT t) (hC : CoastC M 21 t c) : F_X0_sandInAll 21 (nI (tN t)) M = some (nI (sumS (cSand c) (tN t)), M) := by
  have hN := tN_le hw
  unfold F_X0_sandInAll F_X0_sandInAll_4
  refine xit_run (fun j => (nI (sumS (cSand c) j), nI j, M)) (tN t) rfl (fun j hj => ?_) ?_ (by omega)
  · unfold F_X0_sandInAll_4b
    dsimp only
    rw [if_neg (nI_ge hj (by omega)), if_neg (show ¬ (25 : Int32) ≤ nI j from nI_ge (b := 25) (by omega) (by omega)), G_gP hG (v := 22) (by decide +kernel) (by decide +kernel)]
    simp only [Option.bind_some]
    rw [G_aI hG (n := 25) (by decide +kernel) rfl (by omega) (by omega), hC.1 j hj]
    simp only [Option.bind_some, nI_add, nI_1]
    rfl
  · unfold F_X0_sandInAll_4b F_X0_sandInAll_30
    dsimp only
    rw [if_pos (nI_le (Nat.le_refl _) (by omega))]
theorem sandSumM {M : xM} {t : Txt} {c : Cst} (hG : G M) (hw : wfT t) (hA : LandA (M.2.1 165) 0 t) (hD : CoastA (M.2.1 165) 67 t c) : F_X12_sandSum 164 M = some (nI (sumS (cSand c) (tN t)), M) := by
  have hN := tN_le hw
  unfold F_X12_sandSum F_X12_sandSum_4
  refine xit_run (fun j => (nI (sumS (cSand c) j), nI j, M)) (tN t) rfl (fun j hj => ?_) ?_ (by omega)
  · unfold F_X12_sandSum_4b
    dsimp only
    rw [G_ck hG (by decide +kernel)]
    simp only [Option.bind_some]
    have e : (nI j).toInt = (j : Int) := nI_toInt (by omega)
    rw [isCellM hG hw hA, if_pos (by omega)]
    simp only [Option.bind_some]
    rw [if_neg one_ne, g_all hG]
    simp only [Option.bind_some]
    rw [all_at hG (67 + j) (show (67 : Int32) + nI j = nI (67 + j) from nI_add 67 j) (by omega), hD.1 j hj]
    simp only [Option.bind_some, nI_add, nI_1]
    rfl
  · unfold F_X12_sandSum_4b F_X12_sandSum_31
    dsimp only
    rw [G_ck hG (by decide +kernel)]
    simp only [Option.bind_some]
    have e : (nI (tN t)).toInt = (tN t : Int) := nI_toInt (by omega)
    rw [isCellM hG hw hA, if_neg (by omega)]
    simp only [Option.bind_some]
    rw [if_pos trivial]
theorem stand6 : ∀ n, n < 7 → ∀ f, f < 64 → ((1 : Int32) <<< (nI n &&& 31)) - 1 &&& (nI f ^^^ -1) = nI ((63 - f) % 2 ^ n) := by decide +kernel
theorem compl6 : ∀ f, f < 64 → ∀ h, h < 6 → (63 - f).testBit h = !f.testBit h := by decide +kernel
theorem stand_of {n f s : Nat} (hn : n < 7) (hf : f < 64) (hs : s < 2 ^ n) (h : ∀ i, i < n → f.testBit i = !s.testBit i) : (63 - f) % 2 ^ n = s := by
  apply Nat.eq_of_testBit_eq
  intro i
  rw [Nat.testBit_mod_two_pow]
  by_cases hi : i < n
  · rw [compl6 f hf i (by omega), h i hi]
    simp [hi]
  · have h2 : 2 ^ n ≤ 2 ^ i := Nat.pow_le_pow_right (by omega) (by omega)
    rw [Nat.testBit_lt_two_pow (show s < 2 ^ i by omega)]
    simp [hi]
theorem standingM {M : xM} {t : Txt} {c : Cst} {n : Nat} (hG : G M) (hc : wfC t c n) (hD : CoastA (M.2.1 165) 67 t c) : F_X12_standing 164 M = some (nI (cStand c), M) := by
  obtain ⟨f, f1, f2, f3⟩ := hD.2.2.2.1
  have hN := hc.2.1.1
  unfold F_X12_standing
  rw [g_all hG]
  simp only [Option.bind_some]
  rw [all_at hG 92 (by decide) (by omega), all_at hG 105 (by decide) (by omega)]
  simp only [Option.bind_some]
  rw [hD.2.1, f2, stand6 _ (by omega) f f1, stand_of (by omega) f1 hc.2.2.1 f3]
theorem ite_some {c : Prop} [Decidable c] {x y : Int32} {M : xM} {R : Option (Int32 × xM)} (h : R = some (y, M)) : (if c then some (x, M) else R) = some (if c then x else y, M) := by
  rw [h]
  split <;> rfl
theorem sim_count (a1 : Int32) : xSim INV (F_X11_count 0 a1) (F_X12_count 164 a1) := by
  refine xSim_query fun n M hI => ?_
  have hG := hI.1
  obtain ⟨nt, -, t2, t3, -⟩ := hI.2.2.1
  obtain ⟨t, ⟨hw, hL, hA, c, hc, hC, hD⟩, cs, nx, -, -, p3, -, p5, -⟩ := hI.2.2.2.1
  have hG1 := thr_G hG
  have hA1 : LandA ((thr M).2.1 165) 0 t := by rw [thr_165]; exact hA
  have hD1 : CoastA ((thr M).2.1 165) 67 t c := by rw [thr_165]; exact hD
  have g3 : xgP M 0 11 2 = some 14 := G_gP hG (by decide +kernel) (by decide +kernel)
  have g4 : xgP M 0 11 3 = some 21 := G_gP hG (by decide +kernel) (by decide +kernel)
  have g7 : xgP M 0 11 6 = some 35 := G_gP hG (by decide +kernel) (by decide +kernel)
  have gL : ∀ f, xgI M 14 3 f = some (M.2.1 14 f) := fun f => G_gI hG (by decide +kernel)
  have gC : ∀ f, xgI M 21 0 f = some (M.2.1 21 f) := fun f => G_gI hG (by decide +kernel)
  have gP : ∀ f, xgI M 35 5 f = some (M.2.1 35 f) := fun f => G_gI hG (by decide +kernel)
  have gX : ∀ f, xgI M 0 11 f = some (M.2.1 0 f) := fun f => G_gI hG (by decide +kernel)
  have gM : xgI (thr M) 164 12 5 = some (nI nt) := by
    rw [G_gI hG1 (by decide +kernel)]
    show some (xu M.2.1 164 0 0 164 5) = _
    rw [xu_other (by omega), t3]
  have al : ∀ (i : Int32) (j : Nat), i = nI j → j < 4260 → xaI (thr M) 20 165 i = some ((thr M).2.1 165 j) := fun i j h1 h2 => all_at hG1 j h1 h2
  have k3 : xck M 14 3 = some () := G_ck hG (by decide +kernel)
  have k0 : xck M 21 0 = some () := G_ck hG (by decide +kernel)
  have k12 : xck (thr M) 164 12 = some () := G_ck hG1 (by decide +kernel)
  have s108 : (thr M).2.1 165 108 = nI cs.length := by rw [thr_165]; exact p5
  have q0 := hA1.1
  have q1 := hA1.2.1
  have q2 := hA1.2.2.1
  have q4 := hA1.2.2.2.2.1
  have q5 := hA1.2.2.2.2.2.1
  simp only [Nat.zero_add] at q1 q2 q4 q5
  have r1 := hD1.2.1
  have r2 := hD1.2.2.2.2.1
  have r3 := hD1.2.2.2.2.2
  simp only [Nat.reduceAdd] at r1 r2 r3
  refine ⟨if a1 = 0 then nI (tR t) else if a1 = 1 then nI (tW t) else if a1 = 2 then nI (cHouses c).length else if a1 = 3 then nI (cStand c) else if a1 = 4 then nI (cMoon c) else if a1 = 5 then nI (cMinute c) else if a1 = 6 then nI (sumS (cSand c) (tN t)) else if a1 = 7 then nI (tPlots t).length else if a1 = 8 then nI (tPapers t).length else if a1 = 9 then nI cs.length else if a1 = 10 then nI nt else if a1 = 11 then nI (tLines t) else -1, M, thr M, ?_, Sc.rf, ?_, thr_Sc⟩
  · unfold F_X11_count
    simp only [g3, g4, g7, gL, gC, gP, gX, k3, k0, Option.bind_some, cellsC hG hL, sandInAllC hG hw hC, hL.1, hL.2.1, hL.2.2.2.1, hL.2.2.2.2.2.1, hL.2.2.2.2.2.2.1, hC.2.1, hC.2.2.2.1, hC.2.2.2.2.1, hC.2.2.2.2.2, p3, t2]
    repeat refine ite_some ?_
    rfl
  · unfold F_X12_count
    simp only [thr_ok hG, g_all hG1, gM, k12, Option.bind_some, standingM hG1 hc hD1, sandSumM hG1 hw hA1 hD1, al 1 1 (by decide) (by omega), al 2 2 (by decide) (by omega), al 92 92 (by decide) (by omega), al 106 106 (by decide) (by omega), al 107 107 (by decide) (by omega), al 4 4 (by decide) (by omega), al 5 5 (by decide) (by omega), al 108 108 (by decide) (by omega), al 0 0 (by decide) (by omega), q0, q1, q2, q4, q5, r1, r2, r3, s108]
    repeat refine ite_some ?_
    rfl
