theorem within_lit (a : Int32) (lo hi : Int64) (M : xM) : F_X12_within a.toInt64 lo hi M = some (if lo.toInt ≤ a.toInt ∧ a.toInt ≤ hi.toInt then 1 else 0, M) := by
  rw [within_eq, Int32.toInt_toInt64]
theorem sim_plot (a1 a2 : Int32) : xSim INV (F_X11_plot 0 a1 a2) (F_X12_plot 164 a1 a2) := by
  refine xSim_query fun n M hI => ?_
  have hG := hI.1
  obtain ⟨t, ⟨hw, hL, hA, -⟩, -⟩ := hI.2.2.2.1
  have hG1 := thr_G hG
  have hA1 : LandA ((thr M).2.1 165) 0 t := by rw [thr_165]; exact hA
  have hN := hw.2.2.2.2.1.1
  have hp := hL.2.2.2.2.2.1
  have hpA := hA1.2.2.2.2.1
  have hpl := hL.2.2.2.2.2.2.2.1
  have hplA := hA1.2.2.2.2.2.2.2.1
  have e : (nI (tPlots t).length).toInt = ((tPlots t).length : Int) := nI_toInt (by omega)
  have z0 : (0 : Int64).toInt = 0 := by decide
  have z2 : (2 : Int64).toInt = 2 := by decide
  by_cases h : 0 ≤ a1.toInt ∧ a1.toInt < (tPlots t).length
  · obtain ⟨j, hj, rfl⟩ := cell_of h (by omega)
    obtain ⟨q, hq⟩ : ∃ q, (tPlots t)[j]? = some q := ⟨_, List.getElem?_eq_getElem hj⟩
    obtain ⟨b1, b2, b3⟩ := hpl j q hq
    obtain ⟨d1, d2, d3⟩ := hplA j q hq
    have hn : ¬ nI j < 0 := nI_pos (by omega)
    have hlt : nI j < nI (tPlots t).length := nI_lt hj (by omega)
    have C : F_X11_plot 0 (nI j) a2 M = some (if a2 = 0 then nI q.1 else if a2 = 1 then nI q.2.1 else if a2 = 2 then nI q.2.2 else -2, M) := by
      unfold F_X11_plot
      rw [if_neg hn, G_gP hG (v := 14) (by decide +kernel) (by decide +kernel)]
      simp only [Option.bind_some]
      rw [G_gI hG (by decide +kernel)]
      simp only [Option.bind_some]
      rw [hp, if_pos hlt, G_gP hG (v := 15) (by decide +kernel) (by decide +kernel), G_gP hG (v := 16) (by decide +kernel) (by decide +kernel), G_gP hG (v := 17) (by decide +kernel) (by decide +kernel)]
      simp only [Option.bind_some]
      rw [G_aI hG (n := 6) (by decide +kernel) rfl (by omega) (by omega), G_aI hG (n := 6) (by decide +kernel) rfl (by omega) (by omega), G_aI hG (n := 6) (by decide +kernel) rfl (by omega) (by omega), b1, b2, b3]
      simp only [Option.bind_some]
      repeat' split
      all_goals rfl
    have D : F_X12_plot 164 (nI j) a2 M = some (if a2 = 0 then nI q.1 else if a2 = 1 then nI q.2.1 else if a2 = 2 then nI q.2.2 else -2, thr M) := by
      unfold F_X12_plot F_X12_plot_51
      rw [thr_ok hG]
      simp only [Option.bind_some]
      rw [g_all hG1]
      simp only [Option.bind_some]
      rw [all_at hG1 4 (by decide) (by omega)]
      simp only [Option.bind_some]
      rw [show (thr M).2.1 165 4 = nI (tPlots t).length from hpA, within_nI _ (by omega), if_pos h]
      simp only [Option.bind_some]
      rw [if_neg one_ne, within_lit, z0, z2]
      simp only [Option.bind_some]
      by_cases h2 : 0 ≤ a2.toInt ∧ a2.toInt ≤ 2
      · rw [if_pos h2, if_neg one_ne, g_all hG1]
        simp only [Option.bind_some]
        obtain ⟨w, hw3, rfl⟩ := cell_of (a := a2) (n := 3) (by omega) (by omega)
        have e1 : (13 : Int32) + (3 : Int32) * nI j + nI w = nI (13 + 3 * j + w) := by rw [show (3 : Int32) = nI 3 from rfl, pk_mul, show (13 : Int32) = nI 13 from rfl, nI_add, nI_add]
        rw [all_at hG1 _ e1 (by omega)]
        have hw4 : w = 0 ∨ w = 1 ∨ w = 2 := by omega
        simp only [Nat.zero_add] at d1 d2 d3
        rcases hw4 with rfl | rfl | rfl
        · simp only [Option.bind_some, Nat.add_zero]
          rw [d1]; rfl
        · simp only [Option.bind_some]
          rw [show 13 + 3 * j + 1 = 14 + 3 * j by omega, d2]; rfl
        · simp only [Option.bind_some]
          rw [show 13 + 3 * j + 2 = 15 + 3 * j by omega, d3]; rfl
      · rw [if_neg h2, if_pos rfl]
        have n0 : ¬ a2 = 0 := fun z => h2 (by rw [z]; decide)
        have n1 : ¬ a2 = 1 := fun z => h2 (by rw [z]; decide)
        have n2 : ¬ a2 = 2 := fun z => h2 (by rw [z]; decide)
        rw [if_neg n0, if_neg n1, if_neg n2]
    exact ⟨_, M, thr M, C, Sc.rf, D, thr_Sc⟩
  · refine ⟨-2, M, thr M, ?_, Sc.rf, ?_, thr_Sc⟩
    · unfold F_X11_plot
      by_cases h0 : a1 < 0
      · rw [if_pos h0]
      · have h1 := toInt_nneg h0
        rw [if_neg h0, G_gP hG (v := 14) (by decide +kernel) (by decide +kernel)]
        simp only [Option.bind_some]
        rw [G_gI hG (by decide +kernel)]
        simp only [Option.bind_some]
        have hnl : ¬ a1 < nI (tPlots t).length := fun z => by
          have := Int32.lt_iff_toInt_lt.mp z
          rw [e] at this
          omega
        rw [hp, if_neg hnl]
    · unfold F_X12_plot F_X12_plot_51
      rw [thr_ok hG]
      simp only [Option.bind_some]
      rw [g_all hG1]
      simp only [Option.bind_some]
      rw [all_at hG1 4 (by decide) (by omega)]
      simp only [Option.bind_some]
      rw [show (thr M).2.1 165 4 = nI (tPlots t).length from hpA, within_nI _ (by omega), if_neg h]
      simp only [Option.bind_some]
      rw [if_pos trivial]
