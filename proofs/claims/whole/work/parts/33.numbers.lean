theorem numLoop {M : xM} (hG : G M) {j sz : Nat} (hj : j < 4) (hs : sz ≤ 40) : F_X12_numbers_64 164 (nI j) (nI sz) 0 M = some (0, (M.1, M.2.1, xfl M.2.2.1 184 (40 * j) sz 0, M.2.2.2)) := by
  unfold F_X12_numbers_64
  refine xit_run (fun i => (nI i, (M.1, M.2.1, xfl M.2.2.1 184 (40 * j) i 0, M.2.2.2))) sz (by rw [xfl_0]; rfl) (fun i hi => ?_) ?_ (by omega)
  · unfold F_X12_numbers_64b
    dsimp only
    have g : G (M.1, M.2.1, xfl M.2.2.1 184 (40 * j) i 0, M.2.2.2) := hG
    have ix : (40 : Int32) * nI j + nI i = nI (40 * j + i) := by rw [show (40 : Int32) = nI 40 from rfl, pk_mul, nI_add]
    rw [if_neg (nI_ge hi (by omega)), G_gP g (v := 184) (by decide +kernel) (by decide +kernel), Option.bind_some, G_sJ g (n := 160) (by decide +kernel) ix (by omega) (by omega)]
    simp only [Option.bind_some, nI_1, xfl_s]
  · unfold F_X12_numbers_64b F_X12_numbers_89
    dsimp only
    rw [if_pos (nI_le (Nat.le_refl _) (by omega))]
theorem sim_numbers (a1 a2 a3 : Int32) : xSim INV (F_X11_numbers 0 a1 a2 a3) (F_X12_numbers 164 a1 a2 a3) := by
  intro n M _ hI
  have hG := hI.1
  have hT := hI.2.2.2.2.1
  have kC : xck M 0 11 = some () := G_ck hG (by decide +kernel)
  have kM : ∀ M' : xM, G M' → xck M' 164 12 = some () := fun M' h => G_ck h (by decide +kernel)
  have quiet : ∀ r : Int32, F_X11_numbers 0 a1 a2 a3 M = some (r, M) → F_X12_numbers 164 a1 a2 a3 M = some (r, thr M) → ∃ (r : Int32) (M1 M2 : xM), F_X11_numbers 0 a1 a2 a3 M = some (r, M1) ∧ F_X12_numbers 164 a1 a2 a3 M1 = some (r, M2) ∧ xck M 0 11 = some () ∧ xck M1 164 12 = some () ∧ INV (n + 1) M2 :=
    fun r h1 h2 => ⟨r, M, thr M, h1, h2, kC, kM M hG, INV_mono _ _ (INV_Sc hI thr_Sc)⟩
  have hG1 := thr_G hG
  have z0 : (0 : Int64).toInt = 0 := by decide
  have z3 : (3 : Int64).toInt = 3 := by decide
  have z40 : (40 : Int64).toInt = 40 := by decide
  have y3 : (3 : Int32).toInt = 3 := by decide
  have y40 : (40 : Int32).toInt = 40 := by decide
  have le3 : ∀ a : Int32, (a ≤ 3 ↔ a.toInt ≤ 3) := fun a => by rw [Int32.le_iff_toInt_le, y3]
  have le40 : ∀ a : Int32, (a ≤ 40 ↔ a.toInt ≤ 40) := fun a => by rw [Int32.le_iff_toInt_le, y40]
  have C : F_X11_numbers 0 a1 a2 a3 M = (if 0 ≤ a1.toInt ∧ a1.toInt < 4 then (if 0 ≤ a2.toInt ∧ a2.toInt ≤ 3 then (if 0 ≤ a3.toInt ∧ a3.toInt ≤ 40 then (xaP M 40 81 a1).bind (fun t3 => (xck M t3 10).bind fun _ => (F_X10_lay t3 a2 a3 M).bind fun t5 => some (0, t5)) else some (-3, M)) else some (-2, M)) else some (-2, M)) := by
    unfold F_X11_numbers
    rw [isTrayC]
    simp only [Option.bind_some]
    by_cases h1 : 0 ≤ a1.toInt ∧ a1.toInt < 4
    · rw [if_pos h1, if_pos h1, if_neg one_ne, g_trays hG]
      simp only [Option.bind_some]
      by_cases h2 : a2 < 0
      · have := toInt_neg h2
        rw [if_pos h2, if_neg (show ¬ (0 ≤ a2.toInt ∧ a2.toInt ≤ 3) by omega)]
      · have g2 := toInt_nneg h2
        rw [if_neg h2]
        by_cases h3 : a2 ≤ 3
        · have g3 := (le3 a2).mp h3
          rw [if_pos h3, if_pos (show 0 ≤ a2.toInt ∧ a2.toInt ≤ 3 from ⟨g2, g3⟩)]
          by_cases h4 : a3 < 0
          · have := toInt_neg h4
            rw [if_pos h4, if_neg (show ¬ (0 ≤ a3.toInt ∧ a3.toInt ≤ 40) by omega)]
          · have g4 := toInt_nneg h4
            rw [if_neg h4]
            by_cases h5 : a3 ≤ 40
            · have g5 := (le40 a3).mp h5
              rw [if_pos h5, if_pos (show 0 ≤ a3.toInt ∧ a3.toInt ≤ 40 from ⟨g4, g5⟩)]
            · have g5 : ¬ a3.toInt ≤ 40 := fun z => h5 ((le40 a3).mpr z)
              rw [if_neg h5, if_neg (show ¬ (0 ≤ a3.toInt ∧ a3.toInt ≤ 40) by omega)]
        · have g3 : ¬ a2.toInt ≤ 3 := fun z => h3 ((le3 a2).mpr z)
          rw [if_neg h3, if_neg (show ¬ (0 ≤ a2.toInt ∧ a2.toInt ≤ 3) by omega)]
    · rw [if_neg h1, if_neg h1, if_pos rfl]
  have D : ∀ M' : xM, G M' → F_X12_numbers 164 a1 a2 a3 M' = (if 0 ≤ a1.toInt ∧ a1.toInt < 4 then (if 0 ≤ a2.toInt ∧ a2.toInt ≤ 3 then (if 0 ≤ a3.toInt ∧ a3.toInt ≤ 40 then (xsI (thr M') 182 a1 a2).bind (fun t6 => (xgP t6 164 12 34).bind fun t7 => (xsI t6 t7 a1 a3).bind fun t8 => F_X12_numbers_64 164 a1 a3 0 t8) else some (-3, thr M')) else some (-2, thr M')) else some (-2, thr M')) := by
    intro M' g'
    have g1 := thr_G g'
    unfold F_X12_numbers
    rw [thr_ok g']
    simp only [Option.bind_some]
    rw [within_lit, z0, z3]
    simp only [Option.bind_some]
    by_cases h1 : 0 ≤ a1.toInt ∧ a1.toInt < 4
    · rw [if_pos (show 0 ≤ a1.toInt ∧ a1.toInt ≤ 3 by omega), if_pos h1, if_neg one_ne, within_lit, z0, z3]
      simp only [Option.bind_some]
      by_cases h2 : 0 ≤ a2.toInt ∧ a2.toInt ≤ 3
      · rw [if_pos h2, if_pos h2, if_neg one_ne, within_lit, z0, z40]
        simp only [Option.bind_some]
        by_cases h3 : 0 ≤ a3.toInt ∧ a3.toInt ≤ 40
        · rw [if_pos h3, if_pos h3, if_neg one_ne, G_gP g1 (v := 182) (by decide +kernel) (by decide +kernel)]
          simp only [Option.bind_some]
        · rw [if_neg h3, if_neg h3, if_pos rfl]
      · rw [if_neg h2, if_neg h2, if_pos rfl]
    · rw [if_neg (show ¬ (0 ≤ a1.toInt ∧ a1.toInt ≤ 3) by omega), if_neg h1, if_pos rfl]
  by_cases h1 : 0 ≤ a1.toInt ∧ a1.toInt < 4
  · by_cases h2 : 0 ≤ a2.toInt ∧ a2.toInt ≤ 3
    · by_cases h3 : 0 ≤ a3.toInt ∧ a3.toInt ≤ 40
      · rw [if_pos h1, if_pos h2, if_pos h3] at C
        obtain ⟨j, hj, rfl⟩ := cell_of (n := 4) h1 (by omega)
        obtain ⟨so, hso, rfl⟩ := cell_of (a := a2) (n := 4) (by omega) (by omega)
        obtain ⟨sz, hsz, rfl⟩ := cell_of (a := a3) (n := 41) (by omega) (by omega)
        rw [trayP hG hj, Option.bind_some, G_ck hG (traySh hj), Option.bind_some, layC hG hj, Option.bind_some] at C
        have g1 : G (M.1, xu (xu M.2.1 (82 + 2 * j) 1 (nI so)) (82 + 2 * j) 0 (nI sz), xfl M.2.2.1 (83 + 2 * j) 0 40 0, M.2.2.2) := hG
        have D1 := D _ g1
        rw [if_pos h1, if_pos h2, if_pos h3, G_sI (thr_G g1) (n := 4) (by decide +kernel) rfl hj (by omega), Option.bind_some, G_gP (v := 183) (G_I (thr_G g1) _ _) (by decide +kernel) (by decide +kernel), Option.bind_some, G_sI (G_I (thr_G g1) _ _) (n := 4) (by decide +kernel) rfl hj (by omega), Option.bind_some, numLoop (G_I (thr_G g1) _ _) hj (by omega)] at D1
        refine ⟨_, _, _, C, D1, kC, kM _ g1, INV_mono _ _ ?_⟩
        have hk : ∀ k x, k ≠ 82 + 2 * j → ¬ (k = 164 ∧ x = 0) → k ≠ 182 → k ≠ 183 → xu (xu (xu (xu (xu M.2.1 (82 + 2 * j) 1 (nI so)) (82 + 2 * j) 0 (nI sz)) 164 0 0) 182 j (nI so)) 183 j (nI sz) k x = M.2.1 k x := by
          intro k x e1 e2 e3 e4
          rw [xu_other (by omega), xu_other (by omega), xu_other e2, xu_other (by omega), xu_other (by omega)]
        obtain ⟨-, f1, f2, ⟨t, f3⟩, -, f5, f6⟩ := hI
        refine ⟨G_I (G_I (thr_G g1) _ _) _ _, Ifault_fr (M := M) (fun k x hh => hk k x (by omega) (by omega) (by omega) (by omega)) f1, Itape_fr (M := M) (fun k x hh => hk k x (by omega) (by omega) (by omega) (by omega)) f2, ⟨t, Ishore_fr (M := M) (fun k x hh => hk k x (by omega) (by omega) (by omega) (by omega)) f3⟩, fun u hu => ?_, Iimg_fr (M := M) (fun k x hh => hk k x (by omega) (by omega) (by omega) (by omega)) f5, Inim_fr (M := M) (fun x => hk 124 x (by omega) (by omega) (by omega) (by omega)) f6⟩
        by_cases e : u = j
        · subst e
          refine Or.inr ⟨sz, so, by omega, by omega, ?_, ?_, ?_, ?_, fun x hx => ?_⟩
          · show xu (xu (xu (xu (xu M.2.1 (82 + 2 * u) 1 (nI so)) (82 + 2 * u) 0 (nI sz)) 164 0 0) 182 u (nI so)) 183 u (nI sz) (82 + 2 * u) 0 = nI sz
            rw [xu_other (by omega), xu_other (by omega), xu_other (by omega), xu_self]
          · show xu (xu (xu (xu (xu M.2.1 (82 + 2 * u) 1 (nI so)) (82 + 2 * u) 0 (nI sz)) 164 0 0) 182 u (nI so)) 183 u (nI sz) (82 + 2 * u) 1 = nI so
            rw [xu_other (by omega), xu_other (by omega), xu_other (by omega), xu_other (by omega), xu_self]
          · show xu (xu (xu (xu (xu M.2.1 (82 + 2 * u) 1 (nI so)) (82 + 2 * u) 0 (nI sz)) 164 0 0) 182 u (nI so)) 183 u (nI sz) 182 u = nI so
            rw [xu_other (by omega), xu_self]
          · show xu (xu (xu (xu (xu M.2.1 (82 + 2 * u) 1 (nI so)) (82 + 2 * u) 0 (nI sz)) 164 0 0) 182 u (nI so)) 183 u (nI sz) 183 u = nI sz
            rw [xu_self]
          · show xfl (xfl M.2.2.1 (83 + 2 * u) 0 40 0) 184 (40 * u) sz 0 (83 + 2 * u) x = xfl (xfl M.2.2.1 (83 + 2 * u) 0 40 0) 184 (40 * u) sz 0 184 (40 * u + x)
            unfold xfl
            rw [if_neg (by omega), if_pos (by omega), if_pos (by omega)]
        · have hk2 : ∀ k x, (82 ≤ k ∧ k ≤ 89 ∧ k ≠ 82 + 2 * j) ∨ (k = 182 ∧ x ≠ j) ∨ (k = 183 ∧ x ≠ j) → xu (xu (xu (xu (xu M.2.1 (82 + 2 * j) 1 (nI so)) (82 + 2 * j) 0 (nI sz)) 164 0 0) 182 j (nI so)) 183 j (nI sz) k x = M.2.1 k x := by
            intro k x h
            rw [xu_other (by omega), xu_other (by omega), xu_other (by omega), xu_other (by omega), xu_other (by omega)]
          rcases hT u hu with ⟨c1, c2⟩ | ⟨sz', so', c1, c2, c3, c4, c5, c6, c7⟩
          · exact Or.inl ⟨(hk2 _ _ (by omega)).trans c1, (hk2 _ _ (by omega)).trans c2⟩
          · refine Or.inr ⟨sz', so', c1, c2, (hk2 _ _ (by omega)).trans c3, (hk2 _ _ (by omega)).trans c4, (hk2 _ _ (by omega)).trans c5, (hk2 _ _ (by omega)).trans c6, fun x hx => ?_⟩
            show xfl (xfl M.2.2.1 (83 + 2 * j) 0 40 0) 184 (40 * j) sz 0 (83 + 2 * u) x = xfl (xfl M.2.2.1 (83 + 2 * j) 0 40 0) 184 (40 * j) sz 0 184 (40 * u + x)
            unfold xfl
            rw [if_neg (by omega), if_neg (by omega), if_neg (by omega), if_neg (by omega)]
            exact c7 x hx
      · rw [if_pos h1, if_pos h2, if_neg h3] at C
        exact quiet (-3) C (by rw [D M hG, if_pos h1, if_pos h2, if_neg h3])
    · rw [if_pos h1, if_neg h2] at C
      exact quiet (-2) C (by rw [D M hG, if_pos h1, if_neg h2])
  · rw [if_neg h1] at C
    exact quiet (-2) C (by rw [D M hG, if_neg h1])
