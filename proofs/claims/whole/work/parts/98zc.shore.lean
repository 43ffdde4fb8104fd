/-! ===== shore ===== -/
theorem mm_inj {P : Nat → Nat → Option Nat} {I I' : Nat → Nat → Int32} {J : Nat → Nat → Int64} (h : mm P I J = mm P I' J) : I = I' := congrArg (fun M : xM => M.2.1) h
theorem wfC_up {t : Txt} {c : Cst} {n : Nat} (h : wfC t c 0) : wfC t c n := ⟨h.1, h.2.1, h.2.2.1, h.2.2.2.1, by have := h.2.2.2.2; omega⟩
theorem sim_shore (a1 : Int32) : xSim INV (F_X11_shore 0 a1) (F_X12_shore 164 a1) := by
  intro n M _ hI
  obtain ⟨P, I, J, rfl, hP⟩ := G_mm hI.1
  have hI0 := hI
  obtain ⟨hG, hf, ⟨nt, t1, t2, t3, t4⟩, ⟨tt, now, past⟩, hT, hM, hN⟩ := hI
  have i01 : I 0 0 = nI nt := t2
  have k5 : I 164 5 = nI nt := t3
  have ck11 : ∀ I' : Nat → Nat → Int32, xck (mm P I' J) 0 11 = some () := fun I' => G_ck (mm_G hP) (by decide +kernel)
  have ck12 : ∀ I' : Nat → Nat → Int32, xck (mm P I' J) 164 12 = some () := fun I' => G_ck (mm_G hP) (by decide +kernel)
  by_cases hx : 0 ≤ a1.toInt ∧ a1.toInt ≤ nt
  · obtain ⟨x, hx1, rfl⟩ := cell_of (a := a1) (n := nt + 1) (by omega) (by omega)
    obtain ⟨b, hb⟩ : ∃ b : Nat → Nat, b = fun k => (I 167 k).toNatClampNeg := ⟨_, rfl⟩
    have tb : ∀ y, y < nt → b y < 256 ∧ I 167 y = nI (b y) ∧ I 2 y = sx (b y) := fun y hy => by
      obtain ⟨b0, z1, z2, z3⟩ := t4 y hy
      have z2' : I 167 y = nI b0 := z2
      have z3' : I 2 y = (nI b0).toInt8.toInt32 := z3
      have e : b y = b0 := by rw [hb]; show (I 167 y).toNatClampNeg = b0; rw [z2', nI_clamp (by omega)]
      rw [e]
      exact ⟨z1, z2', z3'⟩
    have c1 : ¬ nI x < 0 := nI_pos (by omega)
    have c2 : nI x ≤ nI nt := nI_le (by omega) (by omega)
    -- the class alone
    obtain ⟨r, I1, q0, e1, e0, Ka, ka1, ka2, ka3, E0⟩ := reads_S hP (I := I) (K := I) J (b := b) (n := nt) (x := x) t1 (by omega) (fun y hy => ⟨(tb y hy).1, (tb y hy).2.2⟩) (fun y hy => (tb y hy).2.1) k5
    obtain ⟨Kb, Kc, w0, v0, ⟨m, m1, m2⟩, E1⟩ := E0
    have w1 : ∀ a i, ¬ ((a = 1 ∨ 3 ≤ a) ∧ a ≤ 13) → I1 a i = I a i := fun a i z => by
      have := w0 a i z
      dsimp only at this
      rw [if_neg z] at this
      exact this
    -- and the model behind it, whatever the class has done since
    have model : ∀ I2 : Nat → Nat → Int32, (∀ i, I2 167 i = I 167 i) → I2 164 5 = I 164 5 → ∃ q K2, F_X12_shore 164 (nI x) (mm P I2 J) = some q ∧ (∀ a i, a ≠ 164 → a ≠ 168 → K2 a i = I2 a i) ∧ (∀ i, 13 ≤ i → K2 164 i = I2 164 i) ∧ K2 164 5 = 0 ∧ EndS P J b x (fun a i => if (a = 1 ∨ 3 ≤ a) ∧ a ≤ 13 then 0 else I a i) K2 I1 r q := fun I2 g1 g2 => by
      obtain ⟨r', I1', q, y1, y2, K2, y3, y4, y5, y6⟩ := reads_S hP (I := I) (K := I2) J (b := b) (n := nt) (x := x) t1 (by omega) (fun y hy => ⟨(tb y hy).1, (tb y hy).2.2⟩) (fun y hy => by rw [g1]; exact (tb y hy).2.1) (by rw [g2]; exact k5)
      have pe := Option.some.inj (e1.symm.trans y1)
      have p1 : r = r' := congrArg Prod.fst pe
      have p2 : I1 = I1' := mm_inj (congrArg Prod.snd pe)
      rw [← p1, ← p2] at y6
      exact ⟨q, K2, y2, y3, y4, y5, y6⟩
    rcases E1 with ⟨r0, E2⟩ | ⟨r1, E2⟩
    · -- a fault
      subst r0
      obtain ⟨I2, hI2⟩ : ∃ I2, I2 = xu I1 0 0 0 := ⟨_, rfl⟩
      have o2 : ∀ a i, ¬ (a = 0 ∧ i = 0) → I2 a i = I1 a i := fun a i z => by rw [hI2, xu_o z]
      obtain ⟨q, K2, y1, y2, y3, y4, K1, K', f1, f2, f3, f4⟩ := model I2 (fun i => by rw [o2 _ _ (by omega), w1 _ _ (by omega)]) (by rw [o2 _ _ (by omega), w1 _ _ (by omega)])
      rcases f4 with ⟨z0, bd, qe, ke⟩ | ⟨z, z0⟩
      · have e22 : I2 1 2 = I1 1 2 := o2 _ _ (by omega)
        have kk : ∀ a i, ¬ (a = 164 ∧ (i = 11 ∨ i = 12 ∨ i = 13 ∨ i = 14)) → K' a i = K1 a i := fun a i z => by rw [ke, xu_o (by omega), xu_o (by omega)]
        -- how the last memory stands to the first
        have all : ∀ a i, a ≠ 164 → a ≠ 168 → ¬ ((a = 1 ∨ 3 ≤ a) ∧ a ≤ 13) → ¬ (a = 0 ∧ i = 0) → K' a i = I a i := fun a i z1 z2 z3 z4 => by rw [kk a i (by omega), f2 a i (by omega) z2, y2 a i z1 z2, o2 a i z4, w1 a i z3]
        have rd : ∀ i, K' 1 i = I1 1 i := fun i => by rw [kk 1 i (by omega), f2 1 i (by omega) (by omega), y2 1 i (by omega) (by omega), o2 1 i (by omega)]
        refine ⟨(-30 : Int32) - I1 1 2, mm P I2 J, mm P K' J, ?_, ?_, ck11 I, ck12 I2, ?_⟩
        · unfold F_X11_shore
          simp only [c1, ↓reduceIte, ↓bOC hP, i01, c2, ↓bOR hP, ↓bs e1]
          rw [← hI2]
          simp only [↓bOC hP, ↓bOR hP, e22]
        · rw [y1, qe, bd.2.2.1]
        · refine INV_mono _ _ ⟨mm_G hP, ⟨?_, ?_⟩, ⟨0, by omega, ?_, ?_, fun k hk => by omega⟩, ⟨tt, Ishore_fr (M := mm P I J) (M' := mm P K' J) (fun k i h => all k i (by omega) (by omega) (by omega) (by omega)) ⟨now, past⟩⟩, Itray_fr (M := mm P I J) (M' := mm P K' J) (fun k i h => all k i (by omega) (by omega) (by omega) (by omega)) (fun k i h => rfl) hT, Iimg_fr (M := mm P I J) (M' := mm P K' J) (fun k i h => all k i (by omega) (by omega) (by omega) (by omega)) hM, Inim_fr (M := mm P I J) (M' := mm P K' J) (fun i => all 124 i (by omega) (by omega) (by omega) (by omega)) hN⟩
          · show K' 1 2 = K' 164 13
            rw [rd, ke, xu_o (by omega), xu_self]
            exact bd.2.2.1
          · show K' 1 3 = K' 164 14
            rw [rd, ke, xu_self]
            exact bd.2.2.2.1
          · show K' 0 0 = nI 0
            rw [kk 0 0 (by omega), f2 0 0 (by omega) (by omega), y2 0 0 (by omega) (by omega), hI2, xu_self]
            rfl
          · show K' 164 5 = nI 0
            rw [kk 164 5 (by omega), f2 164 5 (by omega) (by omega), y4]
            rfl
      · exact absurd z (by decide)
    · -- a shore
      subst r1
      obtain ⟨I2, hI2⟩ : ∃ I2, I2 = xu I1 0 0 0 := ⟨_, rfl⟩
      have o2 : ∀ a i, ¬ (a = 0 ∧ i = 0) → I2 a i = I1 a i := fun a i z => by rw [hI2, xu_o z]
      obtain ⟨I3, g1, g2, g3, g4, g5, g6, g7, g8, g9⟩ := takeL_C hP I2 J (a := 14) (b := 3) (n := m) (by decide) (by decide) (by omega) (by rw [o2 _ _ (by omega)]; exact m2) m1
      obtain ⟨I4, h1, h2, h3, h4, h5, h6, h7, h8, h9⟩ := take_C hP I3 J (a := 21) (b := 10) (by decide) (by decide) (by omega)
      obtain ⟨I5, hI5⟩ : ∃ I5, I5 = xu I4 35 0 0 := ⟨_, rfl⟩
      have o5 : ∀ a i, ¬ (a = 35 ∧ i = 0) → I5 a i = I4 a i := fun a i z => by rw [hI5, xu_o z]
      have far : ∀ a i, ¬ (14 ≤ a ∧ a ≤ 24) → ¬ (a = 35 ∧ i = 0) → ¬ (a = 0 ∧ i = 0) → I5 a i = I1 a i := fun a i z1 z2 z3 => by rw [o5 a i z2, h2 a i (by omega), g2 a i (by omega), o2 a i z3]
      obtain ⟨q, K2, y1, y2, y3, y4, K1, K', f1, f2, f3, f4⟩ := model I5 (fun i => by rw [far _ _ (by omega) (by omega) (by omega), w1 _ _ (by omega)]) (by rw [far _ _ (by omega) (by omega) (by omega), w1 _ _ (by omega)])
      rcases f4 with ⟨z, z0⟩ | ⟨z0, ⟨fo, eo, ko, t, c, L, st, lb⟩, qe, s1, s2, s3, s4, s5⟩
      · exact absurd z (by decide)
      obtain ⟨b1, b2, b3, b4, b5, b6, b7, b8, b9, b10', b11, b12⟩ := lb
      have wp := b1.2.2.2.2.1.1
      have kI5 : ∀ a i, a ≠ 164 → a ≠ 165 → a ≠ 168 → K' a i = I5 a i := fun a i z1 z2 z3 => by rw [s1 a i z2 (by omega), f2 a i (by omega) z3, y2 a i z1 z3]
      have k165 : ∀ i, 1420 ≤ i → K' 165 i = I 165 i := fun i hi => by rw [s5 i hi, f2 165 i (by omega) (by omega), y2 165 i (by omega) (by omega), far 165 i (by omega) (by omega) (by omega), w1 165 i (by omega)]
      have all : ∀ a i, a ≠ 164 → a ≠ 165 → a ≠ 168 → ¬ ((a = 1 ∨ 3 ≤ a) ∧ a ≤ 24) → ¬ (a = 35 ∧ i = 0) → ¬ (a = 0 ∧ i = 0) → K' a i = I a i := fun a i z1 z2 z3 z4 z5 z6 => by rw [kI5 a i z1 z2 z3, far a i (by omega) z5 z6, w1 a i (by omega)]
      have ln : I5 14 3 = K1 168 0 := by
        rw [o5 _ _ (by omega), h2 _ _ (by omega), g3 3 (by omega), o2 _ _ (by omega)]
        exact (show I1 3 3 = nI (tLines t) from b3.2.2.2.1).trans (show K1 168 0 = nI (tLines t) from b4.1).symm
      have e2 : F_X3_take 14 3 (mm P I2 J) = some (mm P I3 J) := g1
      have lC : LandC (mm P K' J) 14 t := by
        refine LandC_same (P := P) (I := I1) (I' := K') (J := J) (a := 14) (b := 3) (n := m) b1 m2 (by omega) (fun f hf => ?_) (fun i hi => ?_) (fun i hi => ?_) (fun i hi => ?_) (fun i hi => ?_) (fun i hi => ?_) (fun i hi => ?_) b3
        · rw [kI5 _ _ (by omega) (by omega) (by omega), o5 _ _ (by omega), h2 _ _ (by omega), g3 f hf, o2 _ _ (by omega)]
        · rw [kI5 _ _ (by omega) (by omega) (by omega), o5 _ _ (by omega), h2 _ _ (by omega), g4 i hi, o2 _ _ (by omega)]
        · rw [kI5 _ _ (by omega) (by omega) (by omega), o5 _ _ (by omega), h2 _ _ (by omega), g5 i hi, o2 _ _ (by omega)]
        · rw [kI5 _ _ (by omega) (by omega) (by omega), o5 _ _ (by omega), h2 _ _ (by omega), g6 i hi, o2 _ _ (by omega)]
        · rw [kI5 _ _ (by omega) (by omega) (by omega), o5 _ _ (by omega), h2 _ _ (by omega), g7 i hi, o2 _ _ (by omega)]
        · rw [kI5 _ _ (by omega) (by omega) (by omega), o5 _ _ (by omega), h2 _ _ (by omega), g8 i hi, o2 _ _ (by omega)]
        · rw [kI5 _ _ (by omega) (by omega) (by omega), o5 _ _ (by omega), h2 _ _ (by omega), g9 i hi, o2 _ _ (by omega)]
      have b10 : ∀ a i, 10 ≤ a → a ≤ 13 → I3 a i = I1 a i := fun a i z1 z2 => by rw [g2 a i (by omega), o2 a i (by omega)]
      have cC : CoastC (mm P K' J) 21 t c := by
        refine CoastC_same (M := mm P I1 J) (M' := mm P K' J) (a := 21) (b := 10) b1 b2 (fun i hi => ?_) (fun i hi => ?_) (fun i hi => ?_) ?_ ?_ ?_ ?_ b5
        · show K' 22 i = I1 11 i
          rw [kI5 _ _ (by omega) (by omega) (by omega), o5 _ _ (by omega), h3 i hi, b10 _ _ (by omega) (by omega)]
        · show K' 23 i = I1 12 i
          rw [kI5 _ _ (by omega) (by omega) (by omega), o5 _ _ (by omega), h4 i hi, b10 _ _ (by omega) (by omega)]
        · show K' 24 i = I1 13 i
          rw [kI5 _ _ (by omega) (by omega) (by omega), o5 _ _ (by omega), h5 i hi, b10 _ _ (by omega) (by omega)]
        · show K' 21 3 = I1 10 3
          rw [kI5 _ _ (by omega) (by omega) (by omega), o5 _ _ (by omega), h6, b10 _ _ (by omega) (by omega)]
        · show K' 21 4 = I1 10 4
          rw [kI5 _ _ (by omega) (by omega) (by omega), o5 _ _ (by omega), h7, b10 _ _ (by omega) (by omega)]
        · show K' 21 5 = I1 10 5
          rw [kI5 _ _ (by omega) (by omega) (by omega), o5 _ _ (by omega), h8, b10 _ _ (by omega) (by omega)]
        · show K' 21 6 = I1 10 6
          rw [kI5 _ _ (by omega) (by omega) (by omega), o5 _ _ (by omega), h9, b10 _ _ (by omega) (by omega)]
      have lA : LandA (K' 165) 0 t := LandA_cg (A := K1 168) (B := 0) b1 (fun i hi => s4 _ (by omega)) b4
      have cA : CoastA (K' 165) 67 t c := CoastA_cg (A := K1 168) (B := 67) b1 b2 (fun i hi => s4 _ (by omega)) b6
      obtain ⟨cs, nx, p1, p2, p3, p4, p5, p6⟩ := past
      refine ⟨I5 14 3, mm P I5 J, mm P K' J, ?_, ?_, ck11 I, ck12 I5, ?_⟩
      · unfold F_X11_shore F_X5_forget
        simp only [c1, ↓reduceIte, ↓bOC hP, i01, c2, ↓bOR hP, ↓bs e1, one_ne]
        rw [← hI2]
        simp only [↓bOC hP, ↓bOR hP, ↓bs e2, ↓bs h1]
        rw [← hI5]
        simp only [Option.bind_some, ↓bOC hP]
      · rw [y1, qe, ln]
      · refine ⟨mm_G hP, ⟨?_, ?_⟩, ⟨0, by omega, ?_, ?_, fun k hk => by omega⟩, ⟨t, ⟨b1, lC, lA, c, wfC_up b2, cC, cA⟩, [], nx, by simp, p2, ?_, ?_, ?_, fun j c0 hj => by simp at hj⟩, Itray_fr (M := mm P I J) (M' := mm P K' J) (fun k i h => all k i (by omega) (by omega) (by omega) (by omega) (by omega) (by omega)) (fun k i h => rfl) hT, Iimg_mono (Iimg_fr (M := mm P I J) (M' := mm P K' J) (fun k i h => ?_) hM), Inim_fr (M := mm P I J) (M' := mm P K' J) (fun i => all 124 i (by omega) (by omega) (by omega) (by omega) (by omega) (by omega)) hN⟩
        · show K' 1 2 = K' 164 13
          rw [s2, kI5 _ _ (by omega) (by omega) (by omega), far _ _ (by omega) (by omega) (by omega)]
          exact st.2.2.1
        · show K' 1 3 = K' 164 14
          obtain ⟨m', m1', m2', z⟩ := st.2.2.2.2
          rw [s3, kI5 _ _ (by omega) (by omega) (by omega), far _ _ (by omega) (by omega) (by omega)]
          exact z
        · show K' 0 0 = nI 0
          rw [kI5 _ _ (by omega) (by omega) (by omega), o5 _ _ (by omega), h2 _ _ (by omega), g2 _ _ (by omega), hI2, xu_self]
          rfl
        · show K' 164 5 = nI 0
          rw [s1 _ _ (by omega) (by omega), f2 _ _ (by omega) (by omega), y4]
          rfl
        · show K' 35 0 = nI 0
          rw [kI5 _ _ (by omega) (by omega) (by omega), hI5, xu_self]
          rfl
        · show K' 35 1 = nI nx
          rw [all _ _ (by omega) (by omega) (by omega) (by omega) (by omega) (by omega)]
          exact p4
        · show K' 165 108 = nI 0
          rw [s4 _ (by omega), b11 108 (by omega)]
          rfl
        · show K' k i = I k i
          by_cases e165 : k = 165
          · rw [e165]
            exact k165 i (by omega)
          · exact all k i (by omega) e165 (by omega) (by omega) (by omega) (by omega)
  · refine ⟨-3, mm P I J, thr (mm P I J), ?_, ?_, ck11 I, ck12 I, INV_mono _ _ (INV_Sc hI0 thr_Sc)⟩
    · unfold F_X11_shore
      by_cases c1 : a1 < 0
      · simp only [c1, ↓reduceIte]
      · have c2 : ¬ a1 ≤ nI nt := fun z => by
          have z1 := Int32.le_iff_toInt_le.mp z
          rw [nI_toInt (by omega)] at z1
          have := toInt_nneg c1
          omega
        simp only [c1, ↓reduceIte, ↓bOC hP, i01, c2]
    · have k5' : xu I 164 0 0 164 5 = nI nt := by rw [xu_o (by omega)]; exact k5
      have wi := within_lit a1 0 (nI nt).toInt64 (mm P (xu I 164 0 0) J)
      rw [Int32.toInt_toInt64, nI_toInt (by omega), show (0 : Int64).toInt = 0 by decide, if_neg hx] at wi
      unfold F_X12_shore
      simp only [↓bOM hP, k5', ↓bs wi, ↓reduceIte, thr_mm]
