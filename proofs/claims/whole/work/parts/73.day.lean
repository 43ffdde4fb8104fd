theorem sim_day (a1 a2 : Int32) : xSim INV (F_X11_day 0 a1 a2) (F_X12_day 164 a1 a2) := by
  intro n M hn hI
  obtain ⟨P, I, J, rfl, hP⟩ := G_mm hI.1
  obtain ⟨t, c, cs, nx, hS⟩ := INV_sh hI
  have hS' := hS
  obtain ⟨hw, hL, hA, hc, hC, hD, p1, p2, p3, p4, p5, -⟩ := hS'
  have z1 : (1 : Int64).toInt = 1 := by decide
  have z40 : (40 : Int64).toInt = 40 := by decide
  have y1 : (1 : Int32).toInt = 1 := by decide
  have y40 : (40 : Int32).toInt = 40 := by decide
  by_cases h : 1 ≤ a2.toInt ∧ a2.toInt ≤ 40
  · obtain ⟨m, hm, rfl⟩ := cell_of (a := a2) (n := 41) (by omega) (by omega)
    have hm1 : 1 ≤ m := by
      have := h.1
      rw [nI_toInt (by omega)] at this
      omega
    obtain ⟨I1, e1, k1⟩ := keep_C hP I J p4 p2
    have hL1 : LandC (mm P I1 J) 14 t := LandC_I (fun a i _ _ => k1.1 a i (by omega)) hL
    have hC1 : CoI I1 21 t c := CoI_fr (fun a i _ _ => k1.1 a i (by omega)) (CoI_iff.mp hC)
    have wm := day_wf (x := a1) hc m (by omega)
    -- the class
    have key : ∃ r : Int32 × xM, xit (F_X11_day_35b 0 (nI m)) xFU (nI 0, nI 0, mm P (xu I1 0 16 a1) J) = some r ∧ (∃ I2, F_X11_day_73 0 (nI (dayS t c a1 m).2.2) (mm P I2 J) = some r ∧ (∀ a i, ¬ inD a i → I2 a i = I1 a i) ∧ CoI I2 21 t (dayS t c a1 m).2.1) := by
      have ex : ∀ I2, (∀ a i, ¬ inD a i → I2 a i = I1 a i) → ∃ r, F_X11_day_73 0 (nI (dayS t c a1 m).2.2) (mm P I2 J) = some r := by
        intro I2 k2
        unfold F_X11_day_73 F_X11_confirmedIfAny
        simp only [↓bOC hP]
        by_cases hz : nI (dayS t c a1 m).2.2 ≤ 0
        · rw [if_pos hz]
          exact ⟨_, rfl⟩
        · rw [if_neg hz]
          simp only [↓bOC hP, ↓bs (confirmed_C (J := J) hP p4 p2 p3 p1 k1 k2 _)]
          exact ⟨_, rfl⟩
      refine xit_inv (fun j z => ∃ I2, z = (nI (dayS t c a1 j).2.2, nI j, mm P I2 J) ∧ (∀ a i, ¬ inD a i → I2 a i = I1 a i) ∧ CoI I2 21 t (dayS t c a1 j).2.1 ∧ I2 0 16 = (dayS t c a1 j).1) _ m ⟨xu I1 0 16 a1, rfl, fun a i g => xu_o (by unfold inD scr at g; omega), CoI_fr (fun a i _ _ => xu_o (by omega)) hC1, xu_self⟩ (fun j z hj hq => ?_) (fun z hq => ?_) (by omega)
      · obtain ⟨I2, rfl, q1, q2, q3⟩ := hq
        left
        have wj := (day_wf (x := a1) hc j (by omega)).1
        obtain ⟨I3, d1, d2, d3⟩ := deed_C hP (I := I2) (J := J)
        rw [q3] at d1 d2
        obtain ⟨I4, s1, s2, s3, s4⟩ := att_C hP (I := I3) (J := J) (k := 21) (by decide) hw wj (by omega) (LandC_I (fun a i _ _ => by rw [d3 a i (by omega), q1 a i (by unfold inD scr; omega)]) hL1) (CoI_fr (fun a i _ _ => d3 a i (by omega)) q2) (nI (deedV (dayS t c a1 j).1)).toInt64
        rw [dcd_nI (deedV_lt _)] at s1 s2 s4
        have c1 : ¬ nI m ≤ nI j := nI_ge hj (by omega)
        have fr : ∀ a i, ¬ inD a i → I4 a i = I1 a i := fun a i g => by
          have g' := g
          unfold inD scr at g'
          rw [s3 a i (by omega) (by omega) (by omega) (by omega), d3 a i (by omega), q1 a i g]
        have f17 : I4 0 16 = deedX (dayS t c a1 j).1 := by rw [s3 0 16 (by omega) (by omega) (by omega) (by omega)]; exact d2
        by_cases hz : attW t (dayS t c a1 j).2.1 (deedV (dayS t c a1 j).1) = 0
        · rw [hz] at s1
          have s1' : F_X8_attempt 29 14 21 (nI (deedV (dayS t c a1 j).1)).toInt64 (mm P I3 J) = some (0, mm P I4 J) := s1
          have eD : dayS t c a1 (j + 1) = (deedX (dayS t c a1 j).1, attC t (dayS t c a1 j).2.1 (deedV (dayS t c a1 j).1), (dayS t c a1 j).2.2 + 1) := if_pos hz
          rw [eD]
          refine ⟨(nI ((dayS t c a1 j).2.2 + 1), nI (j + 1), mm P I4 J), ?_, I4, rfl, fr, s4 hz, f17⟩
          simp only [F_X11_day_35b, F_X11_day_67, ↓reduceIte, c1, ↓bOC hP, ↓bs d1, ↓bs s1', nI_1]
        · have nz : ¬ nI (attW t (dayS t c a1 j).2.1 (deedV (dayS t c a1 j).1)) = 0 := nI_ne0 (by omega) (by have := @attW_le t (dayS t c a1 j).2.1 (deedV (dayS t c a1 j).1); omega)
          have e4 := s2 hz
          have eD : dayS t c a1 (j + 1) = (deedX (dayS t c a1 j).1, (dayS t c a1 j).2.1, (dayS t c a1 j).2.2) := if_neg hz
          rw [eD]
          refine ⟨(nI (dayS t c a1 j).2.2, nI (j + 1), mm P I4 J), ?_, I4, rfl, fr, ?_, f17⟩
          · simp only [F_X11_day_35b, F_X11_day_67, ↓reduceIte, c1, ↓bOC hP, ↓bs d1, ↓bs s1, nz, nI_1]
          · rw [e4]
            exact CoI_fr (fun a i _ _ => d3 a i (by omega)) q2
      · obtain ⟨I2, rfl, q1, q2, q3⟩ := hq
        obtain ⟨r, hr⟩ := ex I2 q1
        refine ⟨r, ?_, I2, hr, q1, q2⟩
        simp only [F_X11_day_35b, ↓reduceIte, nI_le (Nat.le_refl m) (show m < 2 ^ 31 by omega), hr, Option.map_some]
    obtain ⟨r, g1, I2, g2, k2, g3⟩ := key
    have c1 : ¬ nI m < (1 : Int32) := nI_nlt (b := 1) (by omega) (by omega)
    have c2 : nI m ≤ (40 : Int32) := nI_le (b := 40) (by omega) (by omega)
    have C : F_X11_day 0 a1 (nI m) (mm P I J) = some r := by
      unfold F_X11_day F_X11_day_35
      simp only [↓reduceIte, c1, c2, ↓bOC hP, ↓bs e1]
      rw [show (0 : Int32) = nI 0 from rfl]
      exact g1
    -- the model, from any table that agrees
    have mod : ∀ I3, (∀ i, stI I3 165 i = I 165 i) → ∃ I5, xit (F_X12_day_34b 164 (nI m)) xFU (nI 0, nI 0, mm P (xu (stI I3) 164 24 a1) J) = F_X12_day_74 164 (nI (dayS t c a1 m).2.2) (mm P I5 J) ∧ (∀ a i, ¬ (ahT a i ∨ (a = 164 ∧ i = 24)) → I5 a i = stI I3 a i) ∧ CoastA (I5 165) 67 t (dayS t c a1 m).2.1 := by
      intro I3 e165
      have run : ∀ j, j ≤ m → ∀ fuel, m < fuel + j → ∀ I4, (∀ a i, ¬ (ahT a i ∨ (a = 164 ∧ i = 24)) → I4 a i = stI I3 a i) → CoastA (I4 165) 67 t (dayS t c a1 j).2.1 → I4 164 24 = (dayS t c a1 j).1 → ∃ I5, xit (F_X12_day_34b 164 (nI m)) fuel (nI (dayS t c a1 j).2.2, nI j, mm P I4 J) = F_X12_day_74 164 (nI (dayS t c a1 m).2.2) (mm P I5 J) ∧ (∀ a i, ¬ (ahT a i ∨ (a = 164 ∧ i = 24)) → I5 a i = stI I3 a i) ∧ CoastA (I5 165) 67 t (dayS t c a1 m).2.1 := by
        intro j hj
        have gen : ∀ d j, j + d = m → ∀ fuel, m < fuel + j → ∀ I4, (∀ a i, ¬ (ahT a i ∨ (a = 164 ∧ i = 24)) → I4 a i = stI I3 a i) → CoastA (I4 165) 67 t (dayS t c a1 j).2.1 → I4 164 24 = (dayS t c a1 j).1 → ∃ I5, xit (F_X12_day_34b 164 (nI m)) fuel (nI (dayS t c a1 j).2.2, nI j, mm P I4 J) = F_X12_day_74 164 (nI (dayS t c a1 m).2.2) (mm P I5 J) ∧ (∀ a i, ¬ (ahT a i ∨ (a = 164 ∧ i = 24)) → I5 a i = stI I3 a i) ∧ CoastA (I5 165) 67 t (dayS t c a1 m).2.1 := by
          intro d
          induction d with
          | zero =>
            intro j hj fuel hf I4 q1 q2 q3
            obtain ⟨fu, rfl⟩ : ∃ fu, fuel = fu + 1 := ⟨fuel - 1, by omega⟩
            have ej : j = m := by omega
            subst ej
            refine ⟨I4, ?_, q1, q2⟩
            have st : F_X12_day_34b 164 (nI j) (nI (dayS t c a1 j).2.2, nI j, mm P I4 J) = (F_X12_day_74 164 (nI (dayS t c a1 j).2.2) (mm P I4 J)).map Sum.inr := by
              simp only [F_X12_day_34b, ↓reduceIte, nI_le (Nat.le_refl j) (show j < 2 ^ 31 by omega)]
            unfold xit
            rw [st]
            cases F_X12_day_74 164 (nI (dayS t c a1 j).2.2) (mm P I4 J) <;> rfl
          | succ d ih =>
            intro j hj fuel hf I4 q1 q2 q3
            obtain ⟨fu, rfl⟩ : ∃ fu, fuel = fu + 1 := ⟨fuel - 1, by omega⟩
            have wj := (day_wf (x := a1) hc j (by omega)).1
            have cj : ¬ nI m ≤ nI j := nI_ge (by omega) (by omega)
            have hA4 : LandA (I4 165) 0 t := LandA_cg2 (A := I 165) hw (fun x hx => by rw [q1 _ _ (by unfold ahT; omega), e165]) hA
            obtain ⟨I6, d1, d2, d3⟩ := deed_M hP (I := I4) (J := J)
            rw [q3] at d1 d2
            have hA6 : LandA (I6 165) 0 t := LandA_cg (A := I4 165) hw (fun x _ => d3 _ _ (by omega)) hA4
            have hD6 : CoastA (I6 165) 67 t (dayS t c a1 j).2.1 := CoastA_cg (A := I4 165) hw wj (fun x _ => d3 _ _ (by omega)) q2
            have wn := whyNot_M hP (J := J) hw wj hA6 hD6 (nI (deedV (dayS t c a1 j).1)).toInt64
            rw [dcd_nI (deedV_lt _)] at wn
            by_cases hz : attW t (dayS t c a1 j).2.1 (deedV (dayS t c a1 j).1) = 0
            · rw [hz] at wn
              have wn' : F_X12_whyNot 164 (nI (deedV (dayS t c a1 j).1)).toInt64 (mm P I6 J) = some (0, mm P I6 J) := wn
              obtain ⟨I7, v1, v2, v3⟩ := does_M hP (I := I6) (J := J) hw wj (by omega) hA6 hD6 (deedV_lt _) hz
              have eD : dayS t c a1 (j + 1) = (deedX (dayS t c a1 j).1, attC t (dayS t c a1 j).2.1 (deedV (dayS t c a1 j).1), (dayS t c a1 j).2.2 + 1) := if_pos hz
              have st : F_X12_day_34b 164 (nI m) (nI (dayS t c a1 j).2.2, nI j, mm P I4 J) = some (.inl (nI (dayS t c a1 (j + 1)).2.2, nI (j + 1), mm P I7 J)) := by
                rw [eD]
                simp only [F_X12_day_34b, F_X12_day_68, ↓reduceIte, cj, ↓bOM hP, ↓bs d1, ↓bs wn', ↓bs v1, nI_1]
              unfold xit
              rw [st]
              refine ih (j + 1) (by omega) fu (by omega) I7 (fun a i g => ?_) (by rw [eD]; exact v3) (by rw [eD, v2 164 24 (by omega) (by omega) (by omega) (by omega) (by omega) (by omega)]; exact d2)
              have g' := g
              unfold ahT at g'
              rw [v2 a i (by omega) (by omega) (by omega) (by omega) (by omega) (by omega), d3 a i (by omega), q1 a i g]
            · have nz : ¬ nI (attW t (dayS t c a1 j).2.1 (deedV (dayS t c a1 j).1)) = 0 := nI_ne0 (by omega) (by have := @attW_le t (dayS t c a1 j).2.1 (deedV (dayS t c a1 j).1); omega)
              have eD : dayS t c a1 (j + 1) = (deedX (dayS t c a1 j).1, (dayS t c a1 j).2.1, (dayS t c a1 j).2.2) := if_neg hz
              have st : F_X12_day_34b 164 (nI m) (nI (dayS t c a1 j).2.2, nI j, mm P I4 J) = some (.inl (nI (dayS t c a1 (j + 1)).2.2, nI (j + 1), mm P I6 J)) := by
                rw [eD]
                simp only [F_X12_day_34b, F_X12_day_68, ↓reduceIte, cj, ↓bOM hP, ↓bs d1, ↓bs wn, nz, nI_1]
              unfold xit
              rw [st]
              refine ih (j + 1) (by omega) fu (by omega) I6 (fun a i g => ?_) (by rw [eD]; exact hD6) (by rw [eD]; exact d2)
              rw [d3 a i (by omega), q1 a i g]
        exact gen (m - j) j (by omega)
      exact run 0 (by omega) xFU (by unfold xFU; omega) (xu (stI I3) 164 24 a1) (fun a i g => xu_o (by omega)) (CoastA_cg (A := I 165) hw hc (fun x _ => by rw [xu_o (by omega), e165]) hD) xu_self
    have dd := wm.2.2.1
    unfold F_X11_day_73 F_X11_confirmedIfAny at g2
    simp only [↓bOC hP] at g2
    by_cases hz : (dayS t c a1 m).2.2 = 0
    · have z : nI (dayS t c a1 m).2.2 ≤ 0 := nI_le (b := 0) (by omega) (by omega)
      rw [if_pos z] at g2
      have er : r = (nI (dayS t c a1 m).2.2, mm P I2 J) := (Option.some.inj g2).symm
      subst er
      have ec := wm.2.2.2 hz
      obtain ⟨I5, r1, r3, r4⟩ := mod I2 (fun i => by rw [stI, cpx_o (by omega), xu_o (by omega), k2 165 i (by unfold inD scr; omega), k1.1 165 i (by omega)])
      have D : F_X12_day 164 a1 (nI m) (mm P I2 J) = some (nI (dayS t c a1 m).2.2, mm P I5 J) := by
        unfold F_X12_day F_X12_day_34
        simp only [↓bOM hP, within_lit, z1, z40, h, and_self, ↓reduceIte, ↓Option.bind_some, one_ne, ↓bs (stores_t hP)]
        rw [show (0 : Int32) = nI 0 from rfl, r1]
        simp only [F_X12_day_74, ↓reduceIte, z]
      rw [ec] at g3 r4
      refine ⟨_, _, _, C, D, m_ck (by decide +kernel) _ _, m_ck (by decide +kernel) _ _, INV_mono _ _ (same_INV hI hS (fun k i hh => ?_) (CoI_fr (I := I2) (fun a i _ _ => ?_) g3) r4)⟩
      · unfold scr at hh
        rw [r3 k i (by unfold ahT; omega), stI, cpx_o (by omega), xu_o (by omega), k2 k i (by unfold inD scr; omega), k1.1 k i (by omega)]
      · rw [r3 a i (by unfold ahT; omega), stI, cpx_o (by omega), xu_o (by omega)]
    · have z : ¬ nI (dayS t c a1 m).2.2 ≤ 0 := nI_ge (a := 0) (by omega) (by omega)
      rw [if_neg z] at g2
      simp only [↓bOC hP, ↓bs (confirmed_C (J := J) hP p4 p2 p3 p1 k1 k2 _)] at g2
      have er : r = (nI (dayS t c a1 m).2.2, mm P (cfI I2 nx cs.length) J) := (Option.some.inj g2).symm
      subst er
      obtain ⟨I5, r1, r3, r4⟩ := mod (cfI I2 nx cs.length) (fun i => by rw [st_165 p2 k1 k2])
      have n5 : I5 165 108 = nI cs.length := by rw [r3 165 108 (by unfold ahT; omega), st_165 p2 k1 k2]; exact p5
      have D : F_X12_day 164 a1 (nI m) (mm P (cfI I2 nx cs.length) J) = some (nI (dayS t c a1 m).2.2, mm P (noteI I5 cs.length) J) := by
        unfold F_X12_day F_X12_day_34
        simp only [↓bOM hP, within_lit, z1, z40, h, and_self, ↓reduceIte, ↓Option.bind_some, one_ne, ↓bs (stores_t hP)]
        rw [show (0 : Int32) = nI 0 from rfl, r1]
        simp only [F_X12_day_74, ↓reduceIte, z, ↓bOM hP, ↓bs (notes_M hP _ J n5 p1)]
      refine ⟨_, _, _, C, D, m_ck (by decide +kernel) _ _, m_ck (by decide +kernel) _ _, deed_all (c' := (dayS t c a1 m).2.1) hI hS k1 k2 (fun k i hh => r3 k i ?_) wm.1 g3 r4⟩
      unfold inE scr at hh
      unfold ahT
      omega
  · refine ⟨-3, mm P I J, thr (mm P I J), ?_, ?_, m_ck (by decide +kernel) _ _, m_ck (by decide +kernel) _ _, INV_mono _ _ (INV_Sc hI thr_Sc)⟩
    · unfold F_X11_day
      by_cases h0 : a2 < (1 : Int32)
      · rw [if_pos h0]
      · have h1 : ¬ a2.toInt < (1 : Int32).toInt := fun z => h0 (Int32.lt_iff_toInt_lt.mpr z)
        rw [if_neg h0, if_neg (show ¬ a2 ≤ (40 : Int32) from fun z => by have := Int32.le_iff_toInt_le.mp z; omega)]
    · simp only [F_X12_day, ↓bOM hP, within_lit, ↓Option.bind_some, z1, z40, if_neg h, ↓reduceIte, thr_mm]
