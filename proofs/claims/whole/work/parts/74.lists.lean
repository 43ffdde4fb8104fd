/-! ===== lists ===== -/
theorem cut_small : ∀ s, s < 10 → ∀ so, so < 4 → cutV (nI s).toInt64 (nI so) = (nI s).toInt64 := by decide +kernel
/-- places of a row of longs that hold heights -/
def jput (J : Nat → Nat → Int64) (k b : Nat) (s : Nat → Nat) (n : Nat) : Nat → Nat → Int64 := fun a i => if a = k ∧ b ≤ i ∧ i < b + n then (nI (s (i - b))).toInt64 else J a i
theorem jput_0 {J : Nat → Nat → Int64} {k b : Nat} {s : Nat → Nat} : jput J k b s 0 = J := by
  funext a i
  unfold jput
  rw [if_neg (by omega)]
theorem jput_s {J : Nat → Nat → Int64} {k b n : Nat} {s : Nat → Nat} : xu (jput J k b s n) k (b + n) (nI (s n)).toInt64 = jput J k b s (n + 1) := by
  funext a i
  unfold jput xu
  by_cases h1 : a = k ∧ i = b + n
  · rw [if_pos h1, if_pos (by omega), h1.2, show b + n - b = n by omega]
  · rw [if_neg h1]
    dsimp only
    by_cases h2 : a = k ∧ b ≤ i ∧ i < b + n
    · rw [if_pos h2, if_pos (by omega)]
    · rw [if_neg h2, if_neg (by omega)]
theorem sim_lists (a1 : Int32) : xSim INV (F_X11_lists 0 a1) (F_X12_lists 164 a1) := by
  intro n M hn hI
  have hT := hI.2.2.2.2.1
  obtain ⟨P, I, J, rfl, hP⟩ := G_mm hI.1
  obtain ⟨t, c, cs, nx, hw, hL, hA, hc, hC, hD, hrest⟩ := INV_sh hI
  have hN := tN_le hw
  have rf := refusedC (mm_G hP) hT a1
  by_cases hy : trayWhy (mm P I J) a1 = 0
  · rw [hy] at rf
    obtain ⟨u, sz, so, hu, rfl, hsz, hso, d1, d2, d3, d4, d5⟩ := tray_ok hT hy
    have tp : ∀ J', xaP (mm P I J') 40 81 (nI u) = some (82 + 2 * u) := fun J' => trayP (mm_G hP) hu
    have cC := cellsC (mm_G hP) hL
    have mn := minJ (a := sz) (b := tN t) (by omega) (by omega) (mm P I J)
    have hmin : min sz (tN t) ≤ 25 := by omega
    have C : F_X11_lists 0 (nI u) (mm P I J) = some (nI (min sz (tN t)), mm P I (jput J (83 + 2 * u) 0 (cSand c) (min sz (tN t)))) := by
      have loop : F_X11_lists_35 0 (nI u) (nI (min sz (tN t))) 0 (mm P I J) = some (nI (min sz (tN t)), mm P I (jput J (83 + 2 * u) 0 (cSand c) (min sz (tN t)))) := by
        unfold F_X11_lists_35
        refine xit_run (fun j => (nI j, mm P I (jput J (83 + 2 * u) 0 (cSand c) j))) (min sz (tN t)) (by rw [jput_0]; rfl) (fun j hj => ?_) ?_ (by omega)
        · have c1 : ¬ nI (min sz (tN t)) ≤ nI j := nI_ge hj (by omega)
          have hjN : j < tN t := by omega
          have s1 : I 22 j = nI (cSand c j) := hC.1 j hjN
          have s9 := hc.1 j hjN
          have pc := putC (mm_G (I := I) (J := jput J (83 + 2 * u) 0 (cSand c) j) hP) hu (i := j) (by omega) (nI (cSand c j)).toInt64
          rw [mm_I, d2, cut_small _ (by omega) _ (by omega)] at pc
          have pc' : F_X10_put (82 + 2 * u) (nI j) (nI (cSand c j)).toInt64 (mm P I (jput J (83 + 2 * u) 0 (cSand c) j)) = some ((nI (cSand c j)).toInt64, mm P I (xu (jput J (83 + 2 * u) 0 (cSand c) j) (83 + 2 * u) j (nI (cSand c j)).toInt64)) := pc
          have e := jput_s (J := J) (k := 83 + 2 * u) (b := 0) (n := j) (s := cSand c)
          rw [Nat.zero_add] at e
          rw [e] at pc'
          have ck : xck (mm P I (jput J (83 + 2 * u) 0 (cSand c) j)) (82 + 2 * u) 10 = some () := m_ck (traySh hu) _ _
          simp (disch := omega) only [F_X11_lists_35b, ↓reduceIte, c1, ↓bOC hP, ↓bAC, ↓bs (tp _), s1, ↓bs ck, ↓bs pc', nI_1]
        · have c1 : nI (min sz (tN t)) ≤ nI (min sz (tN t)) := nI_le (Nat.le_refl _) (by omega)
          simp only [F_X11_lists_35b, F_X11_lists_70, ↓reduceIte, c1, Option.map_some]
      have g1 : xgI (mm P I J) (82 + 2 * u) 10 0 = some (I (82 + 2 * u) 0) := m_gI (traySh hu) I J 0
      unfold F_X11_lists
      simp only [↓bOC hP, ↓bs rf, ↓reduceIte, ↓bs (tp _), ↓bs g1, d1, ↓bs cC, ↓bs mn, loop]
    have i182 : ∀ i, xu I 164 0 0 182 i = I 182 i := fun i => xu_o (by omega)
    have nt := noTrayM (mm_G (I := xu I 164 0 0) (J := jput J (83 + 2 * u) 0 (cSand c) (min sz (tN t))) hP) (nI u)
    rw [trayWhy_I (I := I) (J := J) i182, hy] at nt
    have hA1 : LandA (xu I 164 0 0 165) 0 t := LandA_cg (A := I 165) hw (fun x _ => xu_o (by omega)) hA
    have cm := cellsM (mm_G (I := xu I 164 0 0) (J := jput J (83 + 2 * u) 0 (cSand c) (min sz (tN t))) hP) (show LandA ((mm P (xu I 164 0 0) (jput J (83 + 2 * u) 0 (cSand c) (min sz (tN t)))).2.1 165) 0 t from hA1)
    have x183 : xu I 164 0 0 183 u = nI sz := by rw [xu_o (by omega)]; exact d4
    have D : F_X12_lists 164 (nI u) (mm P I (jput J (83 + 2 * u) 0 (cSand c) (min sz (tN t)))) = some (nI (min sz (tN t)), mm P (xu I 164 0 0) (jput (jput J (83 + 2 * u) 0 (cSand c) (min sz (tN t))) 184 (40 * u) (cSand c) (min sz (tN t)))) := by
      have loop : F_X12_lists_51 164 (nI u) (nI (min sz (tN t))) (mm P (xu I 164 0 0) (jput J (83 + 2 * u) 0 (cSand c) (min sz (tN t)))) = some (nI (min sz (tN t)), mm P (xu I 164 0 0) (jput (jput J (83 + 2 * u) 0 (cSand c) (min sz (tN t))) 184 (40 * u) (cSand c) (min sz (tN t)))) := by
        unfold F_X12_lists_51 F_X12_lists_55
        refine xit_run (fun j => (nI j, mm P (xu I 164 0 0) (jput (jput J (83 + 2 * u) 0 (cSand c) (min sz (tN t))) 184 (40 * u) (cSand c) j))) (min sz (tN t)) (by rw [jput_0]; rfl) (fun j hj => ?_) ?_ (by omega)
        · have c1 : ¬ nI (min sz (tN t)) ≤ nI j := nI_ge hj (by omega)
          have s1 : xu I 164 0 0 165 (67 + j) = nI (cSand c j) := by rw [xu_o (by omega)]; exact hD.1 j (by omega)
          have e67 : (67 : Int32) + nI j = nI (67 + j) := nI_add 67 j
          have ix : (40 : Int32) * nI u + nI j = nI (40 * u + j) := by rw [show (40 : Int32) = nI 40 from rfl, pk_mul, nI_add]
          unfold F_X12_lists_55b
          simp only [e67, ix]
          simp (disch := omega) only [↓reduceIte, c1, ↓bOM hP, ↓bAM, s1, nI_1, jput_s]
        · have c1 : nI (min sz (tN t)) ≤ nI (min sz (tN t)) := nI_le (Nat.le_refl _) (by omega)
          simp only [F_X12_lists_55b, F_X12_lists_90, ↓reduceIte, c1, Option.map_some]
      unfold F_X12_lists
      simp (disch := omega) only [↓bOM hP, ↓bAM, ↓bs nt, ↓reduceIte, ↓bs cm, x183]
      by_cases hle : sz ≤ tN t
      · rw [Nat.min_eq_left hle] at loop ⊢
        rw [if_pos (nI_le hle (by omega))]
        exact loop
      · rw [Nat.min_eq_right (by omega)] at loop ⊢
        rw [if_neg (nI_ge (by omega) (by omega))]
        exact loop
    refine ⟨_, _, _, C, D, m_ck (by decide +kernel) _ _, m_ck (by decide +kernel) _ _, INV_mono _ _ ?_⟩
    obtain ⟨g, f1, f2, ⟨t', f3⟩, -, f5, f6⟩ := hI
    have hk : ∀ k i, ¬ (k = 164 ∧ i = 0) → xu I 164 0 0 k i = I k i := fun k i hh => xu_o hh
    refine ⟨⟨g.1, g.2⟩, Ifault_fr (M := mm P I J) (fun k i hh => hk k i (by omega)) f1, Itape_fr (M := mm P I J) (fun k i hh => hk k i (by omega)) f2, ⟨t', Ishore_fr (M := mm P I J) (fun k i hh => hk k i (by omega)) f3⟩, fun v hv => ?_, Iimg_fr (M := mm P I J) (fun k i hh => hk k i (by omega)) f5, Inim_fr (M := mm P I J) (fun i => hk 124 i (by omega)) f6⟩
    rcases hT v hv with ⟨b1, b2⟩ | ⟨sz', so', b1, b2, b3, b4, b5, b6, b7⟩
    · exact Or.inl ⟨(hk _ _ (by omega)).trans b1, (hk _ _ (by omega)).trans b2⟩
    · refine Or.inr ⟨sz', so', b1, b2, (hk _ _ (by omega)).trans b3, (hk _ _ (by omega)).trans b4, (hk _ _ (by omega)).trans b5, (hk _ _ (by omega)).trans b6, fun j hj => ?_⟩
      have b7' : J (83 + 2 * v) j = J 184 (40 * v + j) := b7 j hj
      show jput (jput J (83 + 2 * u) 0 (cSand c) (min sz (tN t))) 184 (40 * u) (cSand c) (min sz (tN t)) (83 + 2 * v) j = jput (jput J (83 + 2 * u) 0 (cSand c) (min sz (tN t))) 184 (40 * u) (cSand c) (min sz (tN t)) 184 (40 * v + j)
      unfold jput
      rw [if_neg (show ¬ (83 + 2 * v = 184 ∧ 40 * u ≤ j ∧ j < 40 * u + min sz (tN t)) by omega)]
      by_cases e : v = u ∧ j < min sz (tN t)
      · rw [if_pos (show 83 + 2 * v = 83 + 2 * u ∧ 0 ≤ j ∧ j < 0 + min sz (tN t) by omega), if_pos (show 184 = 184 ∧ 40 * u ≤ 40 * v + j ∧ 40 * v + j < 40 * u + min sz (tN t) by omega), show j - 0 = j by omega, show 40 * v + j - 40 * u = j by omega]
      · rw [if_neg (show ¬ (83 + 2 * v = 83 + 2 * u ∧ 0 ≤ j ∧ j < 0 + min sz (tN t)) by omega), if_neg (show ¬ (184 = 184 ∧ 40 * u ≤ 40 * v + j ∧ 40 * v + j < 40 * u + min sz (tN t)) by omega), if_neg (show ¬ (184 = 83 + 2 * u ∧ 0 ≤ 40 * v + j ∧ 40 * v + j < 0 + min sz (tN t)) by omega)]
        exact b7'
  · have nt := noTrayM (mm_G (I := xu I 164 0 0) (J := J) hP) a1
    rw [trayWhy_I (I := I) (J := J) (fun i => xu_o (by omega))] at nt
    refine ⟨trayWhy (mm P I J) a1, mm P I J, thr (mm P I J), ?_, ?_, m_ck (by decide +kernel) _ _, m_ck (by decide +kernel) _ _, INV_mono _ _ (INV_Sc hI thr_Sc)⟩
    · simp only [F_X11_lists, ↓bOC hP, ↓bs rf, ↓reduceIte, hy]
    · simp only [F_X12_lists, ↓bOM hP, ↓bs nt, ↓reduceIte, hy, thr_mm]
