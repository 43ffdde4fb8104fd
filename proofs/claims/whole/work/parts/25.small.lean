/-! ===== small questions ===== -/
theorem xz0 : xz 0 = some 0 := by simp [xz]
theorem xz1 : xz 1 = some 1 := by simp [xz]
theorem within_eq (a b c : Int64) (M : xM) : F_X12_within a b c M = some (if b.toInt ≤ a.toInt ∧ a.toInt ≤ c.toInt then 1 else 0, M) := by
  unfold F_X12_within F_X12_within_17
  simp only [lg_cmp_lt, lg_cmp_gt, xz0, xz1, Option.bind_some, Int64.lt_iff_toInt_lt]
  by_cases h1 : a.toInt < b.toInt
  · rw [if_pos h1, if_neg (by omega)]
  · rw [if_neg h1]
    by_cases h2 : c.toInt < a.toInt
    · rw [if_pos h2, if_neg (by omega)]
    · rw [if_neg h2, if_pos (by omega)]
theorem pred_toInt {n : Nat} (hn : n < 2 ^ 30) : (nI n - 1).toInt = (n : Int) - 1 := pk_sub_toInt (a := n) (b := 1) hn (by omega)
/-- an int within 0 and one less than a number -/
theorem within_nI (a : Int32) {n : Nat} (hn : n < 2 ^ 30) (M : xM) : F_X12_within a.toInt64 0 (nI n - 1).toInt64 M = some (if 0 ≤ a.toInt ∧ a.toInt < n then 1 else 0, M) := by
  rw [within_eq, Int32.toInt_toInt64, Int32.toInt_toInt64, pred_toInt hn]
  have h0 : (0 : Int64).toInt = 0 := by decide
  rw [h0]
  by_cases h : 0 ≤ a.toInt ∧ a.toInt < n
  · rw [if_pos h, if_pos (by omega)]
  · rw [if_neg h, if_neg (by omega)]
theorem tN_le {t : Txt} (h : wfT t) : tN t ≤ 25 ∧ 1 ≤ tN t := by
  obtain ⟨⟨h1, h2⟩, ⟨h3, h4⟩, -⟩ := h
  have a : tR t * tW t ≤ 5 * 5 := Nat.mul_le_mul h2 h4
  have b : 1 * 1 ≤ tR t * tW t := Nat.mul_le_mul h1 h3
  show tR t * tW t ≤ 25 ∧ 1 ≤ tR t * tW t
  omega
theorem cellsC {M : xM} {t : Txt} (hG : G M) (hL : LandC M 14 t) : F_X3_cells 14 M = some (nI (tN t), M) := by
  unfold F_X3_cells
  rw [G_gI hG (by decide +kernel), G_gI hG (by decide +kernel)]
  simp only [Option.bind_some, hL.1, hL.2.1, pk_mul]
  rfl
theorem g_all {M : xM} (hG : G M) : xgP M 164 12 1 = some 165 := G_gP hG (by decide +kernel) (by decide +kernel)
theorem all_at {M : xM} (hG : G M) {i : Int32} (j : Nat) (hi : i = nI j) (hj : j < 4260) : xaI M 20 165 i = some (M.2.1 165 j) := G_aI hG (by decide +kernel) hi hj (by omega)
theorem cellsM {M : xM} {t : Txt} (hG : G M) (hL : LandA (M.2.1 165) 0 t) : F_X12_cellsOf 164 165 M = some (nI (tN t), M) := by
  unfold F_X12_cellsOf
  rw [all_at hG 1 (by decide) (by omega), all_at hG 2 (by decide) (by omega)]
  have h1 := hL.2.1
  have h2 := hL.2.2.1
  simp only [Nat.zero_add] at h1 h2
  simp only [Option.bind_some, h1, h2, pk_mul]
  rfl
theorem toInt_neg {a : Int32} (h : a < 0) : a.toInt < 0 := by
  have := Int32.lt_iff_toInt_lt.mp h
  simpa using this
theorem toInt_nneg {a : Int32} (h : ¬ a < 0) : 0 ≤ a.toInt := by
  have := Int32.le_iff_toInt_le.mp (Int32.not_lt.mp h)
  simpa using this
theorem isCellC {M : xM} {t : Txt} (hG : G M) (hw : wfT t) (hL : LandC M 14 t) (a : Int32) : F_X11_isCell 0 a M = some (if 0 ≤ a.toInt ∧ a.toInt < tN t then 1 else 0, M) := by
  have hN := tN_le hw
  unfold F_X11_isCell F_X11_isCell_19
  by_cases h0 : a < 0
  · have := toInt_neg h0
    rw [if_pos h0, if_neg (by omega)]
    simp [xz0]
  · have h1 := toInt_nneg h0
    rw [if_neg h0, G_gP hG (v := 14) (by decide +kernel) (by decide +kernel), Option.bind_some, G_ck hG (by decide +kernel), Option.bind_some, cellsC hG hL, Option.bind_some]
    have e : (nI (tN t)).toInt = (tN t : Int) := nI_toInt (by omega)
    by_cases h2 : nI (tN t) ≤ a
    · have h3 := Int32.le_iff_toInt_le.mp h2
      rw [e] at h3
      rw [if_pos h2, if_neg (by omega)]
      simp [xz0]
    · have h3 : ¬ (nI (tN t)).toInt ≤ a.toInt := fun z => h2 (Int32.le_iff_toInt_le.mpr z)
      rw [e] at h3
      rw [if_neg h2, if_pos (by omega)]
      simp [xz1]
theorem isCellM {M : xM} {t : Txt} (hG : G M) (hw : wfT t) (hL : LandA (M.2.1 165) 0 t) (a : Int32) : F_X12_isCell 164 a.toInt64 M = some (if 0 ≤ a.toInt ∧ a.toInt < tN t then 1 else 0, M) := by
  have hN := tN_le hw
  unfold F_X12_isCell
  rw [g_all hG, Option.bind_some, G_ck hG (by decide +kernel), Option.bind_some, cellsM hG hL, Option.bind_some, within_nI a (by omega), Option.bind_some]
  by_cases h : 0 ≤ a.toInt ∧ a.toInt < tN t
  · simp [h, xz1]
  · simp only [if_neg h, xz0, Option.bind_some]
/-- an int that is a cell -/
theorem cell_of {a : Int32} {n : Nat} (h : 0 ≤ a.toInt ∧ a.toInt < n) (hn : n < 2 ^ 31) : ∃ j, j < n ∧ a = nI j := by
  obtain ⟨j, hj, rfl⟩ := nI_of (x := a) (fun z => by have := toInt_neg z; omega)
  rw [nI_toInt hj] at h
  exact ⟨j, by omega, rfl⟩
theorem sim_sand (a1 : Int32) : xSim INV (F_X11_sand 0 a1) (F_X12_sand 164 a1) := by
  refine xSim_query fun n M hI => ?_
  have hG := hI.1
  obtain ⟨t, ⟨hw, hL, hA, c, hc, hC, hD⟩, -⟩ := hI.2.2.2.1
  have hN := tN_le hw
  have hG1 := G_I hG (xu M.2.1 164 0 0) M.2.2.1
  have e165 : xu M.2.1 164 0 0 165 = M.2.1 165 := xu_ne (by omega)
  have iM := isCellM (M := (M.1, xu M.2.1 164 0 0, M.2.2.1, M.2.2.2)) hG1 hw (by show LandA (xu M.2.1 164 0 0 165) 0 t; rw [e165]; exact hA) a1
  by_cases h : 0 ≤ a1.toInt ∧ a1.toInt < tN t
  · obtain ⟨j, hj, rfl⟩ := cell_of h (by omega)
    refine ⟨nI (cSand c j), M, _, ?_, Sc.rf, ?_, thrown_Sc⟩
    · unfold F_X11_sand
      rw [G_ck hG (by decide +kernel), Option.bind_some, isCellC hG hw hL, if_pos h, Option.bind_some]
      dsimp only
      rw [if_neg (show ¬ (1 : Int32) = 0 by decide), G_gP hG (v := 21) (by decide +kernel) (by decide +kernel), Option.bind_some, G_gP hG (v := 22) (by decide +kernel) (by decide +kernel), Option.bind_some, G_aI hG (n := 25) (by decide +kernel) rfl (by omega) (by omega), Option.bind_some, hC.1 j hj]
    · unfold F_X12_sand
      rw [thrown_ok hG, Option.bind_some, G_ck hG1 (by decide +kernel), Option.bind_some, iM, if_pos h, Option.bind_some]
      dsimp only
      rw [if_neg (show ¬ (1 : Int32) = 0 by decide), g_all hG1, Option.bind_some, all_at hG1 (67 + j) (show (67 : Int32) + nI j = nI (67 + j) from nI_add 67 j) (by omega), Option.bind_some]
      have h9 := hD.1 j hj
      show some (xu M.2.1 164 0 0 165 (67 + j), _) = _
      rw [e165, h9]
  · refine ⟨-2, M, _, ?_, Sc.rf, ?_, thrown_Sc⟩
    · unfold F_X11_sand
      rw [G_ck hG (by decide +kernel), Option.bind_some, isCellC hG hw hL, if_neg h, Option.bind_some, if_pos rfl]
    · unfold F_X12_sand
      rw [thrown_ok hG, Option.bind_some, G_ck hG1 (by decide +kernel), Option.bind_some, iM, if_neg h, Option.bind_some, if_pos rfl]
