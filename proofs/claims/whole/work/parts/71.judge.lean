theorem isAgain_M {P : Nat → Nat → Option Nat} (hP : GP P) (I : Nat → Nat → Int32) (J : Nat → Nat → Int64) : F_X12_isAgain 164 (mm P I J) = some (mm P (cpx I 165 67 173 0 41) J) := by
  unfold F_X12_isAgain F_X12_isAgain_2
  refine cp_loop 165 67 173 0 41 (by omega) (fun j hj => ?_) ?_ (by omega)
  · have h1 : ¬ (41 : Int32) ≤ nI j := nI_ge (b := 41) hj (by omega)
    have e67 : (67 : Int32) + nI j = nI (67 + j) := nI_add 67 j
    unfold F_X12_isAgain_2b
    simp only [e67]
    simp (disch := omega) only [↓reduceIte, h1, ↓bOM hP, ↓bAM, nI_1, Nat.zero_add]
  · have h1 : (41 : Int32) ≤ nI 41 := by decide
    simp only [F_X12_isAgain_2b, F_X12_isAgain_29, ↓reduceIte, h1, Option.map_some]
theorem sandIn_C {P : Nat → Nat → Option Nat} (hP : GP P) {I : Nat → Nat → Int32} {J : Nat → Nat → Int64} {t : Txt} {c : Cst} {k : Nat} (hk : k ∈ coastL) (hw : wfT t) (hC : CoI I k t c) : F_X0_sandInAll k (nI (tN t)) (mm P I J) = some (nI (sumS (cSand c) (tN t)), mm P I J) := by
  have hN := tN_le hw
  unfold F_X0_sandInAll F_X0_sandInAll_4
  refine xit_run (fun j => (nI (sumS (cSand c) j), nI j, mm P I J)) (tN t) rfl (fun j hj => ?_) ?_ (by omega)
  · have c1 : ¬ nI (tN t) ≤ nI j := nI_ge hj (by omega)
    have c2 : ¬ (25 : Int32) ≤ nI j := nI_ge (b := 25) (by omega) (by omega)
    have s1 : I (k + 1) j = nI (cSand c j) := hC.1 j hj
    simp (disch := omega) only [F_X0_sandInAll_4b, ↓reduceIte, c1, c2, ↓bOK hP hk, s1, ↓Option.bind_some, nI_add, nI_1, sumS]
  · have c1 : nI (tN t) ≤ nI (tN t) := nI_le (Nat.le_refl _) (by omega)
    simp only [F_X0_sandInAll_4b, F_X0_sandInAll_30, ↓reduceIte, c1, Option.map_some]
/-- an allowed tray: its number, size, and what it holds on both sides -/
theorem tray_ok {P : Nat → Nat → Option Nat} {I : Nat → Nat → Int32} {J : Nat → Nat → Int64} (hT : Itray (mm P I J)) {a : Int32} (h : trayWhy (mm P I J) a = 0) : ∃ u sz so, u < 4 ∧ a = nI u ∧ sz ≤ 40 ∧ so ≤ 3 ∧ I (82 + 2 * u) 0 = nI sz ∧ I (82 + 2 * u) 1 = nI so ∧ I 182 u = nI so ∧ I 183 u = nI sz ∧ ∀ j, j < sz → J (83 + 2 * u) j = J 184 (40 * u + j) := by
  unfold trayWhy at h
  split at h
  · next hr =>
    obtain ⟨u, hu, rfl⟩ := cell_of (n := 4) hr (by omega)
    rw [nI_clamp (by omega)] at h
    split at h
    · cases h
    · next hm =>
      rcases hT u hu with ⟨b1, b2⟩ | ⟨sz, so, b1, b2, b3, b4, b5, b6, b7⟩
      · exact absurd b2 hm
      · exact ⟨u, sz, so, hu, rfl, b1, b2, b3, b4, b5, b6, b7⟩
  · cases h
theorem seqS_cg {t : Txt} {c : Cst} {vs vs' : Nat → Nat} : ∀ K, (∀ j, j < K → vs j = vs' j) → seqS t c vs K = seqS t c vs' K
  | 0, _ => rfl
  | K + 1, h => by
    show attC t (seqS t c vs K) (vs K) = attC t (seqS t c vs' K) (vs' K)
    rw [seqS_cg K (fun j hj => h j (by omega)), h K (by omega)]
theorem stopS_cg {t : Txt} {c : Cst} {vs vs' : Nat → Nat} {sz K : Nat} (h : ∀ j, j < sz → vs j = vs' j) (hs : stopS t c vs sz K) : stopS t c vs' sz K := by
  obtain ⟨a1, a2, a3⟩ := hs
  refine ⟨a1, fun j hj => ?_, ?_⟩
  · rw [← seqS_cg j (fun i hi => h i (by omega)), ← h j (by omega)]; exact a2 j hj
  · rcases a3 with a3 | a3
    · exact Or.inl a3
    · by_cases e : K = sz
      · exact Or.inl e
      · right
        rw [← seqS_cg K (fun i hi => h i (by omega)), ← h K (by omega)]; exact a3
theorem trayWhy_I {P : Nat → Nat → Option Nat} {I I' : Nat → Nat → Int32} {J J' : Nat → Nat → Int64} (h : ∀ i, I' 182 i = I 182 i) (a : Int32) : trayWhy (mm P I' J') a = trayWhy (mm P I J) a := by
  unfold trayWhy
  rw [mm_I, mm_I, h]
theorem sim_judge (a1 a2 : Int32) : xSim INV (F_X11_judge 0 a1 a2) (F_X12_judge 164 a1 a2) := by
  refine xSim_qn fun n M hn hI => ?_
  have hT := hI.2.2.2.2.1
  obtain ⟨P, I, J, rfl, hP⟩ := G_mm hI.1
  obtain ⟨t, c, cs, nx, hw, hL, hA, hc, hC, hD, -⟩ := INV_sh hI
  have hN := tN_le hw
  have z0 : (0 : Int64).toInt = 0 := by decide
  have z3 : (3 : Int64).toInt = 3 := by decide
  have y3 : (3 : Int32).toInt = 3 := by decide
  by_cases h : 0 ≤ a2.toInt ∧ a2.toInt ≤ 3
  · obtain ⟨w, hw4, rfl⟩ := cell_of (a := a2) (n := 4) (by omega) (by omega)
    have c0 := nI_pos (n := w) (by omega)
    have c3 : nI w ≤ (3 : Int32) := nI_le (b := 3) (by omega) (by omega)
    have rf := refusedC (mm_G hP) hT a1
    by_cases hy : trayWhy (mm P I J) a1 = 0
    · rw [hy] at rf
      obtain ⟨u, sz, so, hu, rfl, hsz, hso, d1, d2, d3, d4, d5⟩ := tray_ok hT hy
      obtain ⟨I0, t1, t2⟩ := ahead_take hP (I := I) (J := J) hw hc hC
      obtain ⟨I1, K, q1, q2, q3, q4⟩ := deeds_C hP (I := I) (I0 := I0) (J := J) (k := 25) (sz := sz) (u := u) (by decide) hu hw hc (by omega) hL t2 (by omega) d1 hsz
      have e165 : ∀ i, xu I1 164 0 0 165 i = I 165 i := fun i => by rw [xu_o (by omega), q3 _ _ (by omega) (by omega) (by omega) (by omega)]
      have st165 : ∀ i, stI I1 165 i = I 165 i := fun i => by rw [stI, cpx_o (by omega), e165]
      obtain ⟨I2, K', r1, r2, r3, r4, r5⟩ := tells_M hP (I := stI I1) (J := J) (u := u) (sz := sz) hu hw hc (by omega) (LandA_cg (A := I 165) hw (fun x _ => st165 _) hA) (CoastA_cg (A := I 165) hw hc (fun x _ => st165 _) hD) (by rw [stI, cpx_o (by omega), xu_o (by omega), q3 _ _ (by omega) (by omega) (by omega) (by omega)]; exact d4) hsz
      have vq : ∀ j, j < sz → dcd (J (83 + 2 * u) j) = dcd (J 184 (40 * u + j)) := fun j hj => by rw [d5 j hj]
      have q2' := stopS_cg (vs' := fun j => dcd (J 184 (40 * u + j))) vq q2
      have eK := stopS_eq q2' r2
      subst eK
      have q4' : CoI I1 25 t (seqS t c (fun j => dcd (J 184 (40 * u + j))) K) := by
        rw [← seqS_cg K (fun j hj => vq j (by have := q2.1; omega))]; exact q4
      have hK := q2.1
      have wK := (seq_wf hc (fun j => dcd_lt _) K (by omega) r2.2.1).1
      have hA2 : LandA (I2 165) 0 t := LandA_cg2 (A := I 165) hw (fun x hx => by rw [r3 _ _ (by unfold ahT; omega)]; exact st165 _) hA
      have ss := sandSumM (mm_G (I := I2) (J := J) hP) hw (show LandA ((mm P I2 J).2.1 165) 0 t from hA2) (show CoastA ((mm P I2 J).2.1 165) 67 t _ from r4)
      have sd := standingM (mm_G (I := I2) (J := J) hP) wK (show CoastA ((mm P I2 J).2.1 165) 67 t _ from r4)
      have ig := isAgain_M hP I2 J
      have f23 : cpx I2 165 67 173 0 41 164 23 = I2 164 23 := cpx_o (by omega)
      have was : ∀ i, i < 41 → I2 173 i = I 165 (67 + i) := fun i hi => by
        rw [r3 173 i (by unfold ahT; omega), stI]
        have e := cpx_in (I := xu I1 164 0 0) (b := 173) (j0 := 0) (a := 165) (i0 := 67) hi
        rw [Nat.zero_add] at e
        rw [e, e165]
      have S1 : Sc (mm P I J) (mm P I1 J) := Sc_mm (fun k i g => by
        unfold scr at g
        exact q3 k i (by omega) (by omega) (by omega) (by omega)) (fun _ _ _ => rfl)
      have S2 : Sc (mm P I1 J) (mm P (cpx I2 165 67 173 0 41) J) := Sc_mm (fun k i g => by
        unfold scr at g
        by_cases h5 : k = 165 ∧ 67 ≤ i ∧ i < 108
        · obtain ⟨rfl, h6, h7⟩ := h5
          have e := cpx_in (I := I2) (b := 165) (j0 := 67) (a := 173) (i0 := 0) (show i - 67 < 41 by omega)
          rw [show 67 + (i - 67) = i by omega, Nat.zero_add] at e
          rw [e, was _ (by omega), show 67 + (i - 67) = i by omega, q3 _ _ (by omega) (by omega) (by omega) (by omega)]
        · rw [cpx_o (by omega), r3 k i (by unfold ahT; omega), stI, cpx_o (by omega), xu_o (by omega)]) (fun _ _ _ => rfl)
      have hM0 : trayWhy (mm P (xu I1 164 0 0) J) (nI u) = 0 := by
        rw [trayWhy_I (I := I) (J := J) (fun i => by rw [xu_o (by omega), q3 _ _ (by omega) (by omega) (by omega) (by omega)])]
        exact hy
      have nt := noTrayM (mm_G (I := xu I1 164 0 0) (J := J) hP) (nI u)
      rw [hM0] at nt
      have s0 : I1 (82 + 2 * u) 0 = nI sz := by rw [q3 _ _ (by omega) (by omega) (by omega) (by omega)]; exact d1
      have g1 : xgI (mm P I1 J) (82 + 2 * u) 10 0 = some (I1 (82 + 2 * u) 0) := m_gI (traySh hu) I1 J 0
      have g2 : xgP (mm P I1 J) (82 + 2 * u) 10 2 = some (83 + 2 * u) := trayNum (mm_G hP) hu
      have tp : ∀ I', xaP (mm P I' J) 40 81 (nI u) = some (82 + 2 * u) := fun I' => trayP (mm_G hP) hu
      have hL1 : LandC (mm P I1 J) 14 t := LandC_I (fun a i _ _ => q3 a i (by omega) (by omega) (by omega) (by omega)) hL
      have cC := cellsC (mm_G hP) hL1
      have si := sandIn_C hP (J := J) (k := 25) (by decide) hw q4'
      have s4 : I1 25 4 = nI (cStand (seqS t c (fun j => dcd (J 184 (40 * u + j))) K)) := q4'.2.2.2.1
      have eqK : nI K = nI sz ↔ K = sz := nI_eqI (by omega) (by omega)
      -- the class up to the answer
      have head : F_X11_judge 0 (nI u) (nI w) (mm P I J) = F_X11_judge_70 0 (nI u) (nI w) (nI K) (if K = sz then 1 else 0) (mm P I1 J) := by
        unfold F_X11_judge
        simp only [↓reduceIte, c0, c3, ↓bOC hP, ↓bs rf]
        rw [t1, Option.bind_some]
        simp only [↓bOC hP, ↓bs (tp _), ↓bs q1, ↓bs g1, s0, eqK]
        by_cases e : K = sz
        · rw [if_pos e, if_pos e]
        · rw [if_neg e, if_neg e]
      have tail : F_X12_judge 164 (nI u) (nI w) (mm P I1 J) = some (if nI w = 0 then (if I2 164 23 = 0 then -1 else nI K) else if nI w = 1 then I2 164 23 else if nI w = 2 then nI (sumS (cSand (seqS t c (fun j => dcd (J 184 (40 * u + j))) K)) (tN t)) else nI (cStand (seqS t c (fun j => dcd (J 184 (40 * u + j))) K)), mm P (cpx I2 165 67 173 0 41) J) := by
        unfold F_X12_judge
        simp only [↓bOM hP, within_lit, z0, z3, h, and_self, ↓reduceIte, ↓Option.bind_some, one_ne, ↓bs nt, ↓bs (stores_t hP), ↓bs r1, ↓bs ss, ↓bs sd, ↓bs ig, f23]
        repeat' split
        all_goals rfl
      have hw5 : w = 0 ∨ w = 1 ∨ w = 2 ∨ w = 3 := by omega
      have wl := @attW_le t (seqS t c (fun j => dcd (J 184 (40 * u + j))) K) (dcd (J 184 (40 * u + K)))
      refine ⟨_, mm P I1 J, mm P (cpx I2 165 67 173 0 41) J, ?_, S1, tail, S2⟩
      rw [head, r5]
      rcases hw5 with rfl | rfl | rfl | rfl
      · show F_X11_judge_70 0 (nI u) (0 : Int32) (nI K) _ _ = _
        by_cases e : K = sz
        · simp only [F_X11_judge_70, e, if_true, one_ne, if_false]
          rfl
        · have hne : attW t (seqS t c (fun j => dcd (J 184 (40 * u + j))) K) (dcd (J 184 (40 * u + K))) ≠ 0 := by
            rcases r2.2.2 with x | x
            · exact absurd x e
            · exact x
          have nz : ¬ nI (attW t (seqS t c (fun j => dcd (J 184 (40 * u + j))) K) (dcd (J 184 (40 * u + K)))) = 0 := nI_ne0 (by omega) (by omega)
          simp only [F_X11_judge_70, if_neg e, if_true, nz, if_false, show nI 0 = (0 : Int32) from rfl]
      · show F_X11_judge_70 0 (nI u) (1 : Int32) (nI K) _ _ = _
        by_cases e : K = sz
        · simp only [F_X11_judge_70, e, if_true, one_ne, if_false]
          rfl
        · have hne : attW t (seqS t c (fun j => dcd (J 184 (40 * u + j))) K) (dcd (J 184 (40 * u + K))) ≠ 0 := by
            rcases r2.2.2 with x | x
            · exact absurd x e
            · exact x
          have jn : xaJ (mm P I1 J) (83 + 2 * u) (nI K) = some (J (83 + 2 * u) K) := m_aJ (trayLen hu) (by omega) I1 J K (by omega)
          obtain ⟨I9, x1, x2, -, -⟩ := att_C hP (I := I1) (J := J) (k := 25) (by decide) hw wK (by omega) hL1 q4' (J (83 + 2 * u) K)
          rw [d5 K (by omega)] at x1 x2
          have e9 := x2 hne
          subst e9
          have jn' : xaJ (mm P I9 J) (83 + 2 * u) (nI K) = some (J 184 (40 * u + K)) := by rw [jn, d5 K (by omega)]
          unfold F_X11_judge_70
          simp only [if_neg e, if_neg one_ne, if_true, show nI 1 = (1 : Int32) from rfl, show ¬ (1 : Int32) = 0 from one_ne, if_false]
          simp only [↓bOC hP, ↓bs (tp _), ↓bs g2, ↓bs jn', ↓bs x1]
      · show F_X11_judge_70 0 (nI u) (2 : Int32) (nI K) _ _ = _
        have e20 : ¬ (2 : Int32) = 0 := by decide
        have e21 : ¬ (2 : Int32) = 1 := by decide
        unfold F_X11_judge_70
        simp only [e20, e21, if_true, if_false, show nI 2 = (2 : Int32) from rfl]
        simp only [↓bOC hP, ↓bs cC, ↓bs si]
      · show F_X11_judge_70 0 (nI u) (3 : Int32) (nI K) _ _ = _
        have e20 : ¬ (3 : Int32) = 0 := by decide
        have e21 : ¬ (3 : Int32) = 1 := by decide
        have e22 : ¬ (3 : Int32) = 2 := by decide
        unfold F_X11_judge_70
        simp only [e20, e21, e22, if_false, show nI 3 = (3 : Int32) from rfl]
        simp only [↓bOC hP, s4]
    · have nt := noTrayM (mm_G (I := xu I 164 0 0) (J := J) hP) a1
      rw [trayWhy_I (I := I) (J := J) (fun i => xu_o (by omega))] at nt
      refine ⟨trayWhy (mm P I J) a1, mm P I J, thr (mm P I J), ?_, Sc.rf, ?_, thr_Sc⟩
      · unfold F_X11_judge
        simp only [↓reduceIte, c0, c3, ↓bOC hP, ↓bs rf, hy]
      · unfold F_X12_judge
        simp only [↓bOM hP, within_lit, z0, z3, h, and_self, ↓reduceIte, ↓Option.bind_some, one_ne, ↓bs nt, hy, thr_mm]
  · refine ⟨-2, mm P I J, thr (mm P I J), ?_, Sc.rf, ?_, thr_Sc⟩
    · unfold F_X11_judge
      by_cases h0 : a2 < 0
      · rw [if_pos h0]
      · have h1 := toInt_nneg h0
        rw [if_neg h0, if_neg (show ¬ a2 ≤ (3 : Int32) from fun z => by have := Int32.le_iff_toInt_le.mp z; omega)]
    · simp only [F_X12_judge, ↓bOM hP, within_lit, ↓Option.bind_some, z0, z3, if_neg h, ↓reduceIte, thr_mm]
