/-! ===== a land takes another ===== -/
def landL : List Nat := [3, 14, 92, 103]
theorem land_sh1 : ∀ k ∈ landL, (SH[k]?).map Prod.fst = some 3 ∧ (k, 12, k + 1) ∈ PPl ∧ (k, 13, k + 2) ∈ PPl ∧ (k, 14, k + 3) ∈ PPl ∧ (k, 15, k + 4) ∈ PPl ∧ (k, 16, k + 5) ∈ PPl ∧ (k, 17, k + 6) ∈ PPl := by decide +kernel
theorem land_sh2 : ∀ k ∈ landL, SH[k + 1]? = some (20, 6) ∧ SH[k + 2]? = some (20, 6) ∧ SH[k + 3]? = some (20, 6) ∧ SH[k + 4]? = some (20, 6) ∧ SH[k + 5]? = some (20, 5) ∧ SH[k + 6]? = some (20, 900) := by decide +kernel
theorem land_sep : ∀ a ∈ landL, ∀ b ∈ landL, a ≠ b → b + 7 ≤ a ∨ a + 7 ≤ b := by decide +kernel
theorem bOL {P : Nat → Nat → Option Nat} (hP : GP P) {k : Nat} (hk : k ∈ landL) {β : Type} (I : Nat → Nat → Int32) (J : Nat → Nat → Int64) :
    (∀ f (g : Int32 → Option β), (xgI (mm P I J) k 3 f).bind g = g (I k f)) ∧ (∀ f v (g : xM → Option β), (xpI (mm P I J) k 3 f v).bind g = g (mm P (xu I k f v) J)) ∧ (∀ (g : Unit → Option β), (xck (mm P I J) k 3).bind g = g ()) ∧
    (∀ (g : Nat → Option β), (xgP (mm P I J) k 3 12).bind g = g (k + 1)) ∧ (∀ (g : Nat → Option β), (xgP (mm P I J) k 3 13).bind g = g (k + 2)) ∧ (∀ (g : Nat → Option β), (xgP (mm P I J) k 3 14).bind g = g (k + 3)) ∧
    (∀ (g : Nat → Option β), (xgP (mm P I J) k 3 15).bind g = g (k + 4)) ∧ (∀ (g : Nat → Option β), (xgP (mm P I J) k 3 16).bind g = g (k + 5)) ∧ (∀ (g : Nat → Option β), (xgP (mm P I J) k 3 17).bind g = g (k + 6)) := by
  obtain ⟨h0, h1, h2, h3, h4, h5, h6⟩ := land_sh1 k hk
  exact ⟨fun f g => bs (m_gI h0 I J f) g, fun f v g => bs (m_pI h0 I J f v) g, fun g => bs (m_ck h0 I J) g, fun g => bs (m_gP hP h0 h1 I J) g, fun g => bs (m_gP hP h0 h2 I J) g, fun g => bs (m_gP hP h0 h3 I J) g, fun g => bs (m_gP hP h0 h4 I J) g, fun g => bs (m_gP hP h0 h5 I J) g, fun g => bs (m_gP hP h0 h6 I J) g⟩
theorem takeL_C {P : Nat → Nat → Option Nat} (hP : GP P) (I : Nat → Nat → Int32) (J : Nat → Nat → Int64) {a b n : Nat} (ha : a ∈ landL) (hb : b ∈ landL) (hab : a ≠ b) (h7 : I b 7 = nI n) (hn : n ≤ 900) : ∃ I', F_X3_take a b (mm P I J) = some (mm P I' J) ∧ (∀ k i, ¬ (a ≤ k ∧ k ≤ a + 6) → I' k i = I k i) ∧ (∀ f, f < 12 → I' a f = I b f) ∧ (∀ i, i < 6 → I' (a + 1) i = I (b + 1) i) ∧ (∀ i, i < 6 → I' (a + 2) i = I (b + 2) i) ∧ (∀ i, i < 6 → I' (a + 3) i = I (b + 3) i) ∧ (∀ i, i < 6 → I' (a + 4) i = I (b + 4) i) ∧ (∀ i, i < 5 → I' (a + 5) i = I (b + 5) i) ∧ (∀ i, i < n → I' (a + 6) i = I (b + 6) i) := by
  have hd := land_sep a ha b hb hab
  obtain ⟨a1, a2, a3, a4, a5, a6⟩ := land_sh2 a ha
  obtain ⟨b1, b2, b3, b4, b5, b6⟩ := land_sh2 b hb
  have c1 : ∀ I, xcp (mm P I J) (b + 1) 0 (a + 1) 0 6 = some (mm P (xur I (a + 1) (fun i => if i < 6 then I (b + 1) i else I (a + 1) i)) J) := fun I => m_cp b1 a1 I J (n := 6) (by omega) (by omega) (by omega)
  have c2 : ∀ I, xcp (mm P I J) (b + 2) 0 (a + 2) 0 6 = some (mm P (xur I (a + 2) (fun i => if i < 6 then I (b + 2) i else I (a + 2) i)) J) := fun I => m_cp b2 a2 I J (n := 6) (by omega) (by omega) (by omega)
  have c3 : ∀ I, xcp (mm P I J) (b + 3) 0 (a + 3) 0 6 = some (mm P (xur I (a + 3) (fun i => if i < 6 then I (b + 3) i else I (a + 3) i)) J) := fun I => m_cp b3 a3 I J (n := 6) (by omega) (by omega) (by omega)
  have c4 : ∀ I, xcp (mm P I J) (b + 4) 0 (a + 4) 0 6 = some (mm P (xur I (a + 4) (fun i => if i < 6 then I (b + 4) i else I (a + 4) i)) J) := fun I => m_cp b4 a4 I J (n := 6) (by omega) (by omega) (by omega)
  have c5 : ∀ I, xcp (mm P I J) (b + 5) 0 (a + 5) 0 5 = some (mm P (xur I (a + 5) (fun i => if i < 5 then I (b + 5) i else I (a + 5) i)) J) := fun I => m_cp b5 a5 I J (n := 5) (by omega) (by omega) (by omega)
  have c6 : ∀ I, xcp (mm P I J) (b + 6) 0 (a + 6) 0 (nI n) = some (mm P (xur I (a + 6) (fun i => if i < n then I (b + 6) i else I (a + 6) i)) J) := fun I => m_cp b6 a6 I J (n := n) hn hn (by omega)
  -- the fields
  have F : ∀ (Z : Nat → Nat → Int32), (∀ f, Z b f = I b f) → ∀ f v, xu Z a f v b = Z b := fun Z _ f v => xu_ne (by omega)
  refine ⟨xur (xur (xur (xur (xur (xur (xu (xu (xu (xu (xu (xu (xu (xu (xu (xu (xu (xu I a 0 (I b 0)) a 1 (I b 1)) a 2 (I b 2)) a 3 (I b 3)) a 4 (I b 4)) a 5 (I b 5)) a 6 (I b 6)) a 7 (I b 7)) a 8 (I b 8)) a 9 (I b 9)) a 10 (I b 10)) a 11 (I b 11)) (a + 1) (fun i => if i < 6 then I (b + 1) i else I (a + 1) i)) (a + 2) (fun i => if i < 6 then I (b + 2) i else I (a + 2) i)) (a + 3) (fun i => if i < 6 then I (b + 3) i else I (a + 3) i)) (a + 4) (fun i => if i < 6 then I (b + 4) i else I (a + 4) i)) (a + 5) (fun i => if i < 5 then I (b + 5) i else I (a + 5) i)) (a + 6) (fun i => if i < n then I (b + 6) i else I (a + 6) i), ?_, ?_, ?_, ?_, ?_, ?_, ?_, ?_, ?_⟩
  · have n7 : ∀ v8 v9 v10 v11, xu (xu (xu (xu (xu (xu (xu (xu (xu (xu (xu (xu I a 0 (I b 0)) a 1 (I b 1)) a 2 (I b 2)) a 3 (I b 3)) a 4 (I b 4)) a 5 (I b 5)) a 6 (I b 6)) a 7 (I b 7)) a 8 v8) a 9 v9) a 10 v10) a 11 v11 a 7 = nI n := fun v8 v9 v10 v11 => by
      simp (disch := omega) only [xu_o, xu_self]
      exact h7
    unfold F_X3_take
    simp only [↓bOL hP ha, ↓bOL hP hb]
    simp (disch := omega) only [xu_o]
    simp only [↓bOL hP ha, ↓bOL hP hb, ↓bs (c1 _), ↓bs (c2 _), ↓bs (c3 _), ↓bs (c4 _), ↓bs (c5 _)]
    simp (disch := omega) only [xu_o, xur_o, xu_self, h7]
    rw [c6]
    simp (disch := omega) only [Option.bind_some, xu_o, xur_o]
  · intro k i h
    simp (disch := omega) only [xu_o, xur_o]
  · intro f hf
    have h : f = 0 ∨ f = 1 ∨ f = 2 ∨ f = 3 ∨ f = 4 ∨ f = 5 ∨ f = 6 ∨ f = 7 ∨ f = 8 ∨ f = 9 ∨ f = 10 ∨ f = 11 := by omega
    rcases h with rfl | rfl | rfl | rfl | rfl | rfl | rfl | rfl | rfl | rfl | rfl | rfl <;> simp (disch := omega) only [xu_o, xur_o, xu_self]
  · intro i h
    simp (disch := omega) only [xu_o, xur_o, xur_s, if_pos h]
  · intro i h
    simp (disch := omega) only [xu_o, xur_o, xur_s, if_pos h]
  · intro i h
    simp (disch := omega) only [xu_o, xur_o, xur_s, if_pos h]
  · intro i h
    simp (disch := omega) only [xu_o, xur_o, xur_s, if_pos h]
  · intro i h
    simp (disch := omega) only [xu_o, xur_o, xur_s, if_pos h]
  · intro i h
    simp (disch := omega) only [xu_o, xur_o, xur_s, if_pos h]
theorem LandC_same {P : Nat → Nat → Option Nat} {I I' : Nat → Nat → Int32} {J J' : Nat → Nat → Int64} {a b n : Nat} {t : Txt} (hw : wfT t) (hn : I b 7 = nI n) (hn2 : n < 2 ^ 31) (h0 : ∀ f, f < 12 → I' a f = I b f) (h1 : ∀ i, i < 6 → I' (a + 1) i = I (b + 1) i) (h2 : ∀ i, i < 6 → I' (a + 2) i = I (b + 2) i) (h3 : ∀ i, i < 6 → I' (a + 3) i = I (b + 3) i) (h4 : ∀ i, i < 6 → I' (a + 4) i = I (b + 4) i) (h5 : ∀ i, i < 5 → I' (a + 5) i = I (b + 5) i) (h6 : ∀ i, i < n → I' (a + 6) i = I (b + 6) i) (h : LandC (mm P I J) b t) : LandC (mm P I' J') a t := by
  obtain ⟨g0, g1, g2, g3, g4, g5, g6, g7, g8, g9, f1, e1, f2, e2, m, l7, lm, l8, l9, l10, l11, b1, b2, c1, c2⟩ := h
  have em : m = n := (nI_eqI (by omega) hn2).mp (l7.symm.trans hn)
  subst em
  have wp := hw.2.2.2.2.1.1
  have wq := hw.2.2.2.2.2.1.1
  refine ⟨(h0 0 (by omega)).trans g0, (h0 1 (by omega)).trans g1, (h0 2 (by omega)).trans g2, (h0 3 (by omega)).trans g3, (h0 4 (by omega)).trans g4, (h0 5 (by omega)).trans g5, (h0 6 (by omega)).trans g6, fun p q hq => ?_, fun p q hq => ?_, fun o ho => ?_, f1, e1, f2, e2, m, (h0 7 (by omega)).trans l7, lm, (h0 8 (by omega)).trans l8, (h0 9 (by omega)).trans l9, (h0 10 (by omega)).trans l10, (h0 11 (by omega)).trans l11, b1, b2, ?_, ?_⟩
  · have := getlt hq
    obtain ⟨x, y, z⟩ := g7 p q hq
    exact ⟨(h1 p (by omega)).trans x, (h2 p (by omega)).trans y, (h3 p (by omega)).trans z⟩
  · have := getlt hq
    obtain ⟨s, s1, s2, s3⟩ := g8 p q hq
    exact ⟨s, s1, (h4 p (by omega)).trans s2, s3⟩
  · show (I' (a + 5) o).toInt = _
    rw [h5 o ho]
    exact g9 o ho
  · exact codeAt_cg (A := I (b + 6)) (fun i hi => h6 i (by omega)) c1
  · exact codeAt_cg (A := I (b + 6)) (fun i hi => h6 i (by omega)) c2
theorem img_in : ∀ i, i < 2 → 92 + 11 * i ∈ landL ∧ 99 + 11 * i ∈ coastL ∧ (90, i, 92 + 11 * i) ∈ PPl ∧ (91, i, 99 + 11 * i) ∈ PPl := by decide +kernel
theorem isImageC (a : Int32) (M : xM) : F_X11_isImage a M = some (if 0 ≤ a.toInt ∧ a.toInt ≤ 1 then 1 else 0, M) := by
  have y : (2 : Int32).toInt = 2 := by decide
  unfold F_X11_isImage F_X11_isImage_13
  by_cases h0 : a < 0
  · have := toInt_neg h0
    rw [if_pos h0, if_neg (by omega), xz0]; rfl
  · have h1 := toInt_nneg h0
    rw [if_neg h0]
    by_cases h2 : (2 : Int32) ≤ a
    · have h3 := Int32.le_iff_toInt_le.mp h2
      rw [if_pos h2, if_neg (by omega), xz0]; rfl
    · have h3 : ¬ (2 : Int32).toInt ≤ a.toInt := fun z => h2 (Int32.le_iff_toInt_le.mpr z)
      rw [if_neg h2, if_pos (by omega), xz1]; rfl
theorem m_sZ {P : Nat → Nat → Option Nat} {I : Nat → Nat → Int32} {J : Nat → Nat → Int64} {i : Nat} (hi : i < 2) : xsZ (mm P I J) 166 (nI i) 1 = some (mm P (xu I 166 i 1) J) := by
  have hs : SH[166]? = some (22, 2) := by decide +kernel
  unfold xsZ xln
  rw [show (mm P I J).1 = SH from rfl, hs]
  dsimp only
  rw [if_pos rfl, Option.bind_some, if_pos (xin_nI hi (by omega)), nI_clamp (by omega)]
  rfl
theorem m_aZ {P : Nat → Nat → Option Nat} {I : Nat → Nat → Int32} {J : Nat → Nat → Int64} {i : Nat} (hi : i < 2) : xaI (mm P I J) 22 166 (nI i) = some (I 166 i) := m_aI (n := 2) (by decide +kernel) (by omega) I J i hi
theorem or_small : ∀ m, m < 4 → ∀ i, i < 2 → m ||| 2 ^ i < 4 ∧ ∀ j, j < 2 → (m ||| 2 ^ i).testBit j = (m.testBit j || decide (j = i)) := by decide +kernel
theorem sim_image (a1 : Int32) : xSim INV (F_X11_image 0 a1) (F_X12_image 164 a1) := by
  intro n M hn hI
  obtain ⟨P, I, J, rfl, hP⟩ := G_mm hI.1
  obtain ⟨t, c, cs, nx, hw, hL, hA, hc, hC, hD, hrest⟩ := INV_sh hI
  have z0 : (0 : Int64).toInt = 0 := by decide
  have z1 : (1 : Int64).toInt = 1 := by decide
  by_cases h : 0 ≤ a1.toInt ∧ a1.toInt ≤ 1
  · obtain ⟨i, hi, rfl⟩ := cell_of (a := a1) (n := 2) (by omega) (by omega)
    obtain ⟨m1, m2, m3, m4⟩ := img_in i hi
    have hLL := hL
    obtain ⟨-, -, -, -, -, -, -, -, -, -, -, -, -, -, nn, l7', lnn, -⟩ := hLL
    have l7 : I 14 7 = nI nn := l7'
    obtain ⟨I1, e1, k0, k1, k2, k3, k4, k5, k6, k7⟩ := takeL_C hP I J (a := 92 + 11 * i) (b := 14) m1 (by decide) (by omega) l7 lnn
    obtain ⟨I2, e2, j0, j1, j2, j3, j4, j5, j6, j7⟩ := take_C hP I1 J (a := 99 + 11 * i) (b := 21) m2 (by decide) (by omega)
    obtain ⟨mk, i1, i2', i3⟩ := hI.2.2.2.2.2.1
    have i2 : I 0 10 = nI mk := i2'
    obtain ⟨o1, o2⟩ := or_small mk i1 i hi
    have b11 : I2 0 10 = nI mk := by rw [j0 0 10 (by omega), k0 0 10 (by omega)]; exact i2
    have pi : 2 ^ i < 4 := by
      have : i = 0 ∨ i = 1 := by omega
      rcases this with rfl | rfl <;> decide
    have aP1 : ∀ I, xaP (mm P I J) 33 90 (nI i) = some (92 + 11 * i) := fun I => m_aP hP (n := 2) (by decide +kernel) hi (by omega) m3 I J
    have aP2 : ∀ I, xaP (mm P I J) 30 91 (nI i) = some (99 + 11 * i) := fun I => m_aP hP (n := 2) (by decide +kernel) hi (by omega) m4 I J
    have C : F_X11_image 0 (nI i) (mm P I J) = some (0, mm P (xu I2 0 10 (nI (mk ||| 2 ^ i))) J) := by
      unfold F_X11_image
      simp only [↓bs (isImageC _ _), h, and_self, ↓reduceIte, one_ne, ↓bOC hP, ↓bs (aP1 _), ↓bOL hP m1, ↓bs e1, ↓bs (aP2 _), ↓bOK hP m2, ↓bs e2, b11]
      rw [one_shl (by omega), orN (by omega) (by omega)]
    have D : F_X12_image 164 (nI i) (mm P (xu I2 0 10 (nI (mk ||| 2 ^ i))) J) = some (0, mm P (xu (cpx (xu (xu I2 0 10 (nI (mk ||| 2 ^ i))) 164 0 0) 165 (1420 * (i + 1)) 165 0 1420) 166 i 1) J) := by
      unfold F_X12_image F_X12_image_20
      simp only [↓bOM hP, within_lit, z0, z1, h, and_self, ↓reduceIte, ↓Option.bind_some, one_ne]
      refine cp_loop 165 (1420 * (i + 1)) 165 0 1420 (by omega) (fun j hj => ?_) ?_ (by omega)
      · have c1 : ¬ (1420 : Int32) ≤ nI j := nI_ge (b := 1420) hj (by omega)
        have ix : (1420 : Int32) * (nI i + 1) + nI j = nI (1420 * (i + 1) + j) := by rw [nI_1, show (1420 : Int32) = nI 1420 from rfl, pk_mul, nI_add]
        unfold F_X12_image_20b
        simp only [ix]
        simp (disch := omega) only [↓reduceIte, c1, ↓bOM hP, ↓bAM, nI_1, Nat.zero_add]
      · have c1 : (1420 : Int32) ≤ nI 1420 := by decide
        simp only [F_X12_image_20b, F_X12_image_53, ↓reduceIte, c1, ↓bOM hP, ↓bs (m_sZ hi), Option.map_some]
    refine ⟨_, _, _, C, D, m_ck (by decide +kernel) _ _, m_ck (by decide +kernel) _ _, INV_mono _ _ ?_⟩
    have fr : ∀ k x, ¬ (92 + 11 * i ≤ k ∧ k ≤ 92 + 11 * i + 10) → ¬ (k = 0 ∧ x = 10) → ¬ (k = 164 ∧ x = 0) → ¬ (k = 165 ∧ 1420 * (i + 1) ≤ x ∧ x < 1420 * (i + 1) + 1420) → ¬ (k = 166 ∧ x = i) → xu (cpx (xu (xu I2 0 10 (nI (mk ||| 2 ^ i))) 164 0 0) 165 (1420 * (i + 1)) 165 0 1420) 166 i 1 k x = I k x := fun k x h1 h2 h3 h4 h5 => by
      rw [xu_o h5, cpx_o (by omega), xu_o h3, xu_o h2, j0 k x (by omega), k0 k x (by omega)]
    obtain ⟨g, f1, f2, ⟨t', f3⟩, f4, -, f6⟩ := hI
    refine ⟨⟨g.1, g.2⟩, Ifault_fr (M := mm P I J) (fun k x hh => fr k x (by omega) (by omega) (by omega) (by omega) (by omega)) f1, Itape_fr (M := mm P I J) (fun k x hh => fr k x (by omega) (by omega) (by omega) (by omega) (by omega)) f2, ⟨t', Ishore_fr (M := mm P I J) (fun k x hh => fr k x (by omega) (by omega) (by omega) (by omega) (by omega)) f3⟩, Itray_fr (M := mm P I J) (fun k x hh => fr k x (by omega) (by omega) (by omega) (by omega) (by omega)) (fun _ _ _ => rfl) f4, ⟨mk ||| 2 ^ i, o1, ?_, fun j hj => ⟨?_, fun hb => ?_⟩⟩, Inim_fr (M := mm P I J) (fun x => fr 124 x (by omega) (by omega) (by omega) (by omega) (by omega)) f6⟩
    · rw [mm_I, xu_o (by omega), cpx_o (by omega), xu_o (by omega), xu_self]
    · rw [mm_I, o2 j hj]
      by_cases e : j = i
      · subst e; rw [xu_self]; simp
      · rw [fr 166 j (by omega) (by omega) (by omega) (by omega) (by omega), decide_eq_false e, Bool.or_false]
        exact (i3 j hj).1
    · by_cases e : j = i
      · subst e
        refine ⟨t, c, hw, hc, ?_, ?_, ?_, ?_⟩
        · have q : ∀ k x, 92 + 11 * j ≤ k → k ≤ 92 + 11 * j + 6 → xu (cpx (xu (xu I2 0 10 (nI (mk ||| 2 ^ j))) 164 0 0) 165 (1420 * (j + 1)) 165 0 1420) 166 j 1 k x = I1 k x := fun k x h1 h2 => by
            rw [xu_o (by omega), cpx_o (by omega), xu_o (by omega), xu_o (by omega), j0 k x (by omega)]
          exact LandC_same (I := I) (J := J) hw l7 (by omega) (fun f hf => by rw [q _ _ (by omega) (by omega)]; exact k1 f hf) (fun x hx => by rw [q _ _ (by omega) (by omega)]; exact k2 x hx) (fun x hx => by rw [q _ _ (by omega) (by omega)]; exact k3 x hx) (fun x hx => by rw [q _ _ (by omega) (by omega)]; exact k4 x hx) (fun x hx => by rw [q _ _ (by omega) (by omega)]; exact k5 x hx) (fun x hx => by rw [q _ _ (by omega) (by omega)]; exact k6 x hx) (fun x hx => by rw [q _ _ (by omega) (by omega)]; exact k7 x hx) hL
        · have q : ∀ k x, 99 + 11 * j ≤ k → k ≤ 99 + 11 * j + 3 → xu (cpx (xu (xu I2 0 10 (nI (mk ||| 2 ^ j))) 164 0 0) 165 (1420 * (j + 1)) 165 0 1420) 166 j 1 k x = I2 k x := fun k x h1 h2 => by
            rw [xu_o (by omega), cpx_o (by omega), xu_o (by omega), xu_o (by omega)]
          have p : ∀ k x, 21 ≤ k → k ≤ 24 → I1 k x = I k x := fun k x h1 h2 => k0 k x (by omega)
          refine CoastC_same (M := mm P I J) (b := 21) hw hc (fun x hx => ?_) (fun x hx => ?_) (fun x hx => ?_) ?_ ?_ ?_ ?_ hC
          · rw [mm_I, mm_I, q _ _ (by omega) (by omega), j1 x hx, p _ _ (by omega) (by omega)]
          · rw [mm_I, mm_I, q _ _ (by omega) (by omega), j2 x hx, p _ _ (by omega) (by omega)]
          · rw [mm_I, mm_I, q _ _ (by omega) (by omega), j3 x hx, p _ _ (by omega) (by omega)]
          · rw [mm_I, mm_I, q _ _ (by omega) (by omega), j4, p _ _ (by omega) (by omega)]
          · rw [mm_I, mm_I, q _ _ (by omega) (by omega), j5, p _ _ (by omega) (by omega)]
          · rw [mm_I, mm_I, q _ _ (by omega) (by omega), j6, p _ _ (by omega) (by omega)]
          · rw [mm_I, mm_I, q _ _ (by omega) (by omega), j7, p _ _ (by omega) (by omega)]
        · have q : ∀ x, x < 1420 → xu (cpx (xu (xu I2 0 10 (nI (mk ||| 2 ^ j))) 164 0 0) 165 (1420 * (j + 1)) 165 0 1420) 166 j 1 165 (1420 * (j + 1) + x) = I 165 x := fun x hx => by
            rw [xu_o (by omega), cpx_in hx, xu_o (by omega), xu_o (by omega), j0 _ _ (by omega), k0 _ _ (by omega), Nat.zero_add]
          exact LandA_cg (A := I 165) (B := 0) hw (fun x hx => by rw [mm_I, q x hx, Nat.zero_add]) hA
        · have q : ∀ x, x < 1420 → xu (cpx (xu (xu I2 0 10 (nI (mk ||| 2 ^ j))) 164 0 0) 165 (1420 * (j + 1)) 165 0 1420) 166 j 1 165 (1420 * (j + 1) + x) = I 165 x := fun x hx => by
            rw [xu_o (by omega), cpx_in hx, xu_o (by omega), xu_o (by omega), j0 _ _ (by omega), k0 _ _ (by omega), Nat.zero_add]
          exact CoastA_cg (A := I 165) (B := 67) hw hc (fun x hx => by rw [mm_I, Nat.add_assoc, q (67 + x) (by omega)]) hD
      · rw [o2 j hj, decide_eq_false e, Bool.or_false] at hb
        obtain ⟨t2, c2, a1, a2, a3, a4, a5, a6⟩ := (i3 j hj).2 hb
        refine ⟨t2, c2, a1, a2, LandC_cg (M := mm P I J) (fun x hx => funext fun y => fr _ y (by omega) (by omega) (by omega) (by omega) (by omega)) a3, CoastC_cg (M := mm P I J) (fun x hx => funext fun y => fr _ y (by omega) (by omega) (by omega) (by omega) (by omega)) a4, LandA_cg (A := I 165) a1 (fun x hx => fr 165 _ (by omega) (by omega) (by omega) (by omega) (by omega)) a5, CoastA_cg (A := I 165) a1 a2 (fun x hx => fr 165 _ (by omega) (by omega) (by omega) (by omega) (by omega)) a6⟩
  · refine ⟨-2, mm P I J, thr (mm P I J), ?_, ?_, m_ck (by decide +kernel) _ _, m_ck (by decide +kernel) _ _, INV_mono _ _ (INV_Sc hI thr_Sc)⟩
    · simp only [F_X11_image, ↓bs (isImageC _ _), if_neg h, ↓reduceIte]
    · simp only [F_X12_image, ↓bOM hP, within_lit, ↓Option.bind_some, z0, z1, if_neg h, ↓reduceIte, thr_mm]
