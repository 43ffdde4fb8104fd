/-- the model behind 'thrown = 0' -/
def thr (M : xM) : xM := (M.1, xu M.2.1 164 0 0, M.2.2.1, M.2.2.2)
theorem thr_ok {M : xM} (h : G M) : xpI M 164 12 0 0 = some (thr M) := thrown_ok h
theorem thr_Sc {M : xM} : Sc M (thr M) := thrown_Sc
theorem thr_G {M : xM} (h : G M) : G (thr M) := h
theorem thr_k {M : xM} {k : Nat} (h : k ≠ 164) : (thr M).2.1 k = M.2.1 k := xu_ne h
theorem thr_165 {M : xM} : (thr M).2.1 165 = M.2.1 165 := thr_k (by omega)
theorem one_ne : ¬ (1 : Int32) = 0 := by decide
theorem isHouseC {M : xM} {t : Txt} {c : Cst} {n : Nat} (hG : G M) (hc : wfC t c n) (hC : CoastC M 21 t c) (a : Int32) : F_X11_isHouse 0 a M = some (if 0 ≤ a.toInt ∧ a.toInt < (cHouses c).length then 1 else 0, M) := by
  have hN := hc.2.1.1
  unfold F_X11_isHouse F_X11_isHouse_19
  by_cases h0 : a < 0
  · have := toInt_neg h0
    rw [if_pos h0, if_neg (by omega)]
    simp [xz0]
  · have h1 := toInt_nneg h0
    rw [if_neg h0, G_gP hG (v := 21) (by decide +kernel) (by decide +kernel), Option.bind_some, G_gI hG (by decide +kernel), Option.bind_some, hC.2.1]
    have e : (nI (cHouses c).length).toInt = ((cHouses c).length : Int) := nI_toInt (by omega)
    by_cases h2 : nI (cHouses c).length ≤ a
    · have h3 := Int32.le_iff_toInt_le.mp h2
      rw [e] at h3
      rw [if_pos h2, if_neg (by omega)]
      simp [xz0]
    · have h3 : ¬ (nI (cHouses c).length).toInt ≤ a.toInt := fun z => h2 (Int32.le_iff_toInt_le.mpr z)
      rw [e] at h3
      rw [if_neg h2, if_pos (by omega)]
      simp [xz1]
theorem isHouseM {M : xM} {t : Txt} {c : Cst} {n : Nat} (hG : G M) (hc : wfC t c n) (hD : CoastA (M.2.1 165) 67 t c) (a : Int32) : F_X12_isHouse 164 a.toInt64 M = some (if 0 ≤ a.toInt ∧ a.toInt < (cHouses c).length then 1 else 0, M) := by
  have hN := hc.2.1.1
  unfold F_X12_isHouse
  rw [g_all hG, Option.bind_some, all_at hG 92 (by decide) (by omega), Option.bind_some, hD.2.1, within_nI a (by omega), Option.bind_some]
  by_cases h : 0 ≤ a.toInt ∧ a.toInt < (cHouses c).length
  · simp [h, xz1]
  · simp only [if_neg h, xz0, Option.bind_some]
theorem bit6 : ∀ s, s < 64 → ∀ h, h < 6 → (nI s >>> (nI h &&& 31)) &&& 1 = (if s.testBit h then 1 else 0) := by decide +kernel
theorem isIn6 : ∀ s, s < 64 → ∀ h, h < 6 → ((((nI s).toInt64 >>> ((nI h).toInt64 &&& 63)) &&& 1 = 1) ↔ s.testBit h = true) := by decide +kernel
theorem isIn_house {M : xM} {f h : Nat} (hf : f < 64) (hh : h < 6) : F_X12_isIn (nI f).toInt64 (nI h) M = some (if f.testBit h then 1 else 0, M) := by
  unfold F_X12_isIn
  simp only [lg_cmp_eq, xz0, xz1, Option.bind_some]
  by_cases hb : f.testBit h = true
  · rw [if_pos ((isIn6 f hf h hh).mpr hb), if_pos hb]
  · rw [if_neg (fun z => hb ((isIn6 f hf h hh).mp z)), if_neg hb]
theorem stand_lt {t : Txt} {c : Cst} {n : Nat} (hc : wfC t c n) : cStand c < 64 := by
  have h1 := hc.2.2.1
  have h2 : 2 ^ (cHouses c).length ≤ 2 ^ 6 := Nat.pow_le_pow_right (by omega) hc.2.1.1
  omega
theorem sim_house (a1 a2 : Int32) : xSim INV (F_X11_house 0 a1 a2) (F_X12_house 164 a1 a2) := by
  refine xSim_query fun n M hI => ?_
  have hG := hI.1
  obtain ⟨t, ⟨hw, hL, hA, c, hc, hC, hD⟩, -⟩ := hI.2.2.2.1
  have hG1 := thr_G hG
  have hN := hc.2.1.1
  have hD1 : CoastA ((thr M).2.1 165) 67 t c := by rw [thr_165]; exact hD
  by_cases h : 0 ≤ a1.toInt ∧ a1.toInt < (cHouses c).length
  · obtain ⟨j, hj, rfl⟩ := cell_of h (by omega)
    obtain ⟨q, hq⟩ : ∃ q, (cHouses c)[j]? = some q := ⟨_, List.getElem?_eq_getElem hj⟩
    obtain ⟨f, f1, f2, f3⟩ := hD1.2.2.2.1
    have C : F_X11_house 0 (nI j) a2 M = some (if a2 = 0 then nI q.1 else if a2 = 1 then nI q.2 else if a2 = 2 then (if (cStand c).testBit j then 1 else 0) else -2, M) := by
      unfold F_X11_house
      rw [G_ck hG (by decide +kernel), Option.bind_some, isHouseC hG hc hC, if_pos h, Option.bind_some]
      dsimp only
      rw [if_neg one_ne, G_gP hG (v := 21) (by decide +kernel) (by decide +kernel)]
      simp only [Option.bind_some]
      rw [G_gP hG (v := 23) (by decide +kernel) (by decide +kernel), G_gP hG (v := 24) (by decide +kernel) (by decide +kernel), G_gI hG (by decide +kernel)]
      simp only [Option.bind_some]
      rw [G_aI hG (n := 6) (by decide +kernel) rfl (by omega) (by omega), G_aI hG (n := 6) (by decide +kernel) rfl (by omega) (by omega), (hC.2.2.1 j q hq).1, (hC.2.2.1 j q hq).2, hC.2.2.2.1, bit6 _ (stand_lt hc) j (by omega)]
      simp only [Option.bind_some]
      split
      · rfl
      · split
        · rfl
        · split <;> rfl
    have D : F_X12_house 164 (nI j) a2 M = some (if a2 = 0 then nI q.1 else if a2 = 1 then nI q.2 else if a2 = 2 then (if (cStand c).testBit j then 1 else 0) else -2, thr M) := by
      unfold F_X12_house
      rw [thr_ok hG, Option.bind_some, G_ck hG1 (by decide +kernel), Option.bind_some, isHouseM hG1 hc hD1, if_pos h, Option.bind_some]
      dsimp only
      rw [if_neg one_ne, g_all hG1]
      simp only [Option.bind_some]
      have e1 : (93 : Int32) + (2 : Int32) * nI j = nI (93 + 2 * j) := by rw [show (2 : Int32) = nI 2 from rfl, pk_mul]; exact nI_add 93 (2 * j)
      have e2 : (93 : Int32) + (2 : Int32) * nI j + 1 = nI (94 + 2 * j) := by rw [e1, nI_1]; congr 1; omega
      have b1 := (hD1.2.2.1 j q hq).1
      have b2 := (hD1.2.2.1 j q hq).2
      rw [all_at hG1 _ e1 (by omega), all_at hG1 _ e2 (by omega), all_at hG1 105 (by decide) (by omega)]
      simp only [Option.bind_some]
      rw [show 93 + 2 * j = 67 + 26 + 2 * j by omega, show 94 + 2 * j = 67 + 27 + 2 * j by omega, b1, b2, f2, isIn_house f1 (by omega), f3 j hj]
      simp only [Option.bind_some]
      cases hb : (cStand c).testBit j <;> simp
      all_goals (repeat' split) <;> simp_all
    exact ⟨_, M, thr M, C, Sc.rf, D, thr_Sc⟩
  · refine ⟨-2, M, thr M, ?_, Sc.rf, ?_, thr_Sc⟩
    · unfold F_X11_house
      rw [G_ck hG (by decide +kernel), Option.bind_some, isHouseC hG hc hC, if_neg h, Option.bind_some, if_pos rfl]
    · unfold F_X12_house
      rw [thr_ok hG, Option.bind_some, G_ck hG1 (by decide +kernel), Option.bind_some, isHouseM hG1 hc hD1, if_neg h, Option.bind_some, if_pos rfl]
