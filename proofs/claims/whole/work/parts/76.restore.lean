theorem sim_restore (a1 : Int32) : xSim INV (F_X11_restore 0 a1) (F_X12_restore 164 a1) := by
  intro n M hn hI
  obtain ⟨P, I, J, rfl, hP⟩ := G_mm hI.1
  obtain ⟨t, c, cs, nx, hw, hL, hA, hc, hC, hD, p1, p2, p3, p4, p5, p6⟩ := INV_sh hI
  have z0 : (0 : Int64).toInt = 0 := by decide
  have z1 : (1 : Int64).toInt = 1 := by decide
  by_cases h : 0 ≤ a1.toInt ∧ a1.toInt ≤ 1
  · obtain ⟨i, hi, rfl⟩ := cell_of (a := a1) (n := 2) (by omega) (by omega)
    obtain ⟨m1, m2, m3, m4⟩ := img_in i hi
    obtain ⟨mk, i1, i2', i3⟩ := hI.2.2.2.2.2.1
    have i2 : I 0 10 = nI mk := i2'
    have bt := bitN (s := mk) (c := i) (by omega) (by omega)
    have hz : I 166 i = if mk.testBit i then 1 else 0 := (i3 i hi).1
    by_cases hb : mk.testBit i = true
    · rw [if_pos hb] at bt
      obtain ⟨t2, c2, w1, w2, w3, w4, w5, w6⟩ := (i3 i hi).2 hb
      have hLL := w3
      obtain ⟨-, -, -, -, -, -, -, -, -, -, -, -, -, -, nn, l7', lnn, -⟩ := hLL
      have l7 : I (92 + 11 * i) 7 = nI nn := l7'
      obtain ⟨I1, e1, k0, k1, k2, k3, k4, k5, k6, k7⟩ := takeL_C hP I J (a := 14) (b := 92 + 11 * i) (by decide) m1 (by omega) l7 lnn
      obtain ⟨I2, e2, j0, j1, j2, j3, j4, j5, j6, j7⟩ := take_C hP I1 J (a := 21) (b := 99 + 11 * i) (by decide) m2 (by omega)
      have aP1 : ∀ I, xaP (mm P I J) 33 90 (nI i) = some (92 + 11 * i) := fun I => m_aP hP (n := 2) (by decide +kernel) hi (by omega) m3 I J
      have aP2 : ∀ I, xaP (mm P I J) 30 91 (nI i) = some (99 + 11 * i) := fun I => m_aP hP (n := 2) (by decide +kernel) hi (by omega) m4 I J
      have C : F_X11_restore 0 (nI i) (mm P I J) = some (0, mm P (xu I2 35 0 0) J) := by
        have fg : F_X5_forget 35 (mm P I2 J) = some (mm P (xu I2 35 0 0) J) := by
          unfold F_X5_forget
          simp only [↓bOC hP]
        unfold F_X11_restore
        simp only [↓bs (isImageC _ _), h, and_self, ↓reduceIte, one_ne, ↓bOC hP, i2, bt, ↓bs (aP1 _), ↓bs e1, ↓bs (aP2 _), ↓bs e2, ↓bs fg]
      have hz' : xu (xu I2 35 0 0) 164 0 0 166 i = 1 := by rw [xu_o (by omega), xu_o (by omega), j0 _ _ (by omega), k0 _ _ (by omega), hz, if_pos hb]
      have D : F_X12_restore 164 (nI i) (mm P (xu I2 35 0 0) J) = some (0, mm P (xu (cpx (xu (xu I2 35 0 0) 164 0 0) 165 0 165 (1420 * (i + 1)) 1420) 165 108 0) J) := by
        unfold F_X12_restore F_X12_restore_32
        simp only [↓bOM hP, within_lit, z0, z1, h, and_self, ↓reduceIte, ↓Option.bind_some, one_ne, ↓bs (m_aZ hi), hz']
        refine cp_loop 165 0 165 (1420 * (i + 1)) 1420 (by omega) (fun j hj => ?_) ?_ (by omega)
        · have c1 : ¬ (1420 : Int32) ≤ nI j := nI_ge (b := 1420) hj (by omega)
          have ix : (1420 : Int32) * (nI i + 1) + nI j = nI (1420 * (i + 1) + j) := by rw [nI_1, show (1420 : Int32) = nI 1420 from rfl, pk_mul, nI_add]
          unfold F_X12_restore_32b
          simp only [ix]
          simp (disch := omega) only [↓reduceIte, c1, ↓bOM hP, ↓bAM, nI_1, Nat.zero_add]
        · have c1 : (1420 : Int32) ≤ nI 1420 := by decide
          simp only [F_X12_restore_32b, F_X12_restore_65, ↓reduceIte, c1, ↓bOM hP, ↓bAM, Option.map_some]
      refine ⟨_, _, _, C, D, m_ck (by decide +kernel) _ _, m_ck (by decide +kernel) _ _, INV_mono _ _ ?_⟩
      have fr : ∀ k x, ¬ (14 ≤ k ∧ k ≤ 24) → ¬ (k = 35 ∧ x = 0) → ¬ (k = 164 ∧ x = 0) → ¬ (k = 165 ∧ x < 1420) → xu (cpx (xu (xu I2 35 0 0) 164 0 0) 165 0 165 (1420 * (i + 1)) 1420) 165 108 0 k x = I k x := fun k x h1 h2 h3 h4 => by
        rw [xu_o (by omega), cpx_o (by omega), xu_o h3, xu_o h2, j0 k x (by omega), k0 k x (by omega)]
      obtain ⟨g, f1, f2, f4, f5, f6⟩ := rest_fr hI (I' := xu (cpx (xu (xu I2 35 0 0) 164 0 0) 165 0 165 (1420 * (i + 1)) 1420) 165 108 0) (fun k x hh => by unfold scr at hh; exact fr k x (by omega) (by omega) (by omega) (by omega))
      have q14 : ∀ k x, 14 ≤ k → k ≤ 20 → xu (cpx (xu (xu I2 35 0 0) 164 0 0) 165 0 165 (1420 * (i + 1)) 1420) 165 108 0 k x = I1 k x := fun k x h1 h2 => by
        rw [xu_o (by omega), cpx_o (by omega), xu_o (by omega), xu_o (by omega), j0 k x (by omega)]
      have q21 : ∀ k x, 21 ≤ k → k ≤ 24 → xu (cpx (xu (xu I2 35 0 0) 164 0 0) 165 0 165 (1420 * (i + 1)) 1420) 165 108 0 k x = I2 k x := fun k x h1 h2 => by
        rw [xu_o (by omega), cpx_o (by omega), xu_o (by omega), xu_o (by omega)]
      have q165 : ∀ x, x < 1420 → x ≠ 108 → xu (cpx (xu (xu I2 35 0 0) 164 0 0) 165 0 165 (1420 * (i + 1)) 1420) 165 108 0 165 x = I 165 (1420 * (i + 1) + x) := fun x hx hne => by
        have e := cpx_in (I := xu (xu I2 35 0 0) 164 0 0) (b := 165) (j0 := 0) (a := 165) (i0 := 1420 * (i + 1)) hx
        rw [Nat.zero_add] at e
        rw [xu_o (by omega), e, xu_o (by omega), xu_o (by omega), j0 _ _ (by omega), k0 _ _ (by omega)]
      have pI : ∀ k x, 99 + 11 * i ≤ k → k ≤ 99 + 11 * i + 3 → I1 k x = I k x := fun k x h1 h2 => k0 k x (by omega)
      have p4' : xu (cpx (xu (xu I2 35 0 0) 164 0 0) 165 0 165 (1420 * (i + 1)) 1420) 165 108 0 35 1 = nI nx := by rw [fr 35 1 (by omega) (by omega) (by omega) (by omega)]; exact p4
      refine sh_INV (t := t2) (c := c2) (cs := []) (nx := nx) g f1 f2 ⟨w1, ?_, ?_, w2, ?_, ?_, by simp, p2, ?_, p4', ?_, fun j d hj => by simp at hj⟩ f4 f5 f6
      · exact LandC_same (I := I) (J := J) w1 l7 (by omega) (fun f hf => by rw [q14 _ _ (by omega) (by omega)]; exact k1 f hf) (fun x hx => by rw [q14 _ _ (by omega) (by omega)]; exact k2 x hx) (fun x hx => by rw [q14 _ _ (by omega) (by omega)]; exact k3 x hx) (fun x hx => by rw [q14 _ _ (by omega) (by omega)]; exact k4 x hx) (fun x hx => by rw [q14 _ _ (by omega) (by omega)]; exact k5 x hx) (fun x hx => by rw [q14 _ _ (by omega) (by omega)]; exact k6 x hx) (fun x hx => by rw [q14 _ _ (by omega) (by omega)]; exact k7 x hx) w3
      · exact LandA_cg2 (A := I 165) (B := 1420 * (i + 1)) w1 (fun x hx => by rw [mm_I, Nat.zero_add]; exact q165 x (by omega) (by omega)) w5
      · refine CoastC_same (M := mm P I J) (b := 99 + 11 * i) w1 w2 (fun x hx => ?_) (fun x hx => ?_) (fun x hx => ?_) ?_ ?_ ?_ ?_ w4
        · rw [mm_I, mm_I, q21 _ _ (by omega) (by omega), j1 x hx, pI _ _ (by omega) (by omega)]
        · rw [mm_I, mm_I, q21 _ _ (by omega) (by omega), j2 x hx, pI _ _ (by omega) (by omega)]
        · rw [mm_I, mm_I, q21 _ _ (by omega) (by omega), j3 x hx, pI _ _ (by omega) (by omega)]
        · rw [mm_I, mm_I, q21 _ _ (by omega) (by omega), j4, pI _ _ (by omega) (by omega)]
        · rw [mm_I, mm_I, q21 _ _ (by omega) (by omega), j5, pI _ _ (by omega) (by omega)]
        · rw [mm_I, mm_I, q21 _ _ (by omega) (by omega), j6, pI _ _ (by omega) (by omega)]
        · rw [mm_I, mm_I, q21 _ _ (by omega) (by omega), j7, pI _ _ (by omega) (by omega)]
      · refine CoastA_cg (A := I 165) (B := 1420 * (i + 1) + 67) w1 w2 (fun x hx => ?_) w6
        rw [mm_I, q165 (67 + x) (by omega) (by omega), Nat.add_assoc]
      · rw [mm_I, xu_o (by omega), cpx_o (by omega), xu_o (by omega), xu_self]
        rfl
      · rw [mm_I, xu_self]
        rfl
    · rw [if_neg hb] at bt
      have hz' : xu I 164 0 0 166 i = 0 := by rw [xu_o (by omega), hz, if_neg hb]
      refine ⟨-5, mm P I J, thr (mm P I J), ?_, ?_, m_ck (by decide +kernel) _ _, m_ck (by decide +kernel) _ _, INV_mono _ _ (INV_Sc hI thr_Sc)⟩
      · simp only [F_X11_restore, ↓bs (isImageC _ _), h, and_self, ↓reduceIte, one_ne, ↓bOC hP, i2, bt]
      · simp only [F_X12_restore, ↓bOM hP, within_lit, ↓Option.bind_some, z0, z1, h, and_self, ↓reduceIte, one_ne, ↓bs (m_aZ hi), hz', thr_mm]
  · refine ⟨-2, mm P I J, thr (mm P I J), ?_, ?_, m_ck (by decide +kernel) _ _, m_ck (by decide +kernel) _ _, INV_mono _ _ (INV_Sc hI thr_Sc)⟩
    · simp only [F_X11_restore, ↓bs (isImageC _ _), if_neg h, ↓reduceIte]
    · simp only [F_X12_restore, ↓bOM hP, within_lit, ↓Option.bind_some, z0, z1, if_neg h, ↓reduceIte, thr_mm]
/-! ===== feed ===== -/
def fdI (I : Nat → Nat → Int32) (row c f n : Nat) (w : Nat → Int32) (j : Nat) : Nat → Nat → Int32 := fun k i => if k = row ∧ n ≤ i ∧ i < n + j then w (i - n) else if k = c ∧ i = f then nI (n + j) else I k i
theorem fdI_s {I : Nat → Nat → Int32} {row c f n : Nat} {w : Nat → Int32} {j : Nat} (h : row ≠ c) : xu (xu (fdI I row c f n w j) row (n + j) (w j)) c f (nI (n + j + 1)) = fdI I row c f n w (j + 1) := by
  funext k i
  unfold fdI xu
  by_cases h1 : k = c ∧ i = f
  · rw [if_pos h1, if_neg (by omega), if_pos h1]
    rfl
  · rw [if_neg h1]
    dsimp only
    by_cases h2 : k = row ∧ i = n + j
    · rw [if_pos h2, if_pos (by omega), h2.2, show n + j - n = j by omega]
    · rw [if_neg h2]
      by_cases h3 : k = row ∧ n ≤ i ∧ i < n + j
      · rw [if_pos h3, if_pos (by omega)]
      · rw [if_neg h3, if_neg h1, if_neg (show ¬ (k = row ∧ n ≤ i ∧ i < n + (j + 1)) by omega), if_neg h1]
theorem fdI_c {I : Nat → Nat → Int32} {row c f n : Nat} {w : Nat → Int32} {j : Nat} (h : row ≠ c) : fdI I row c f n w j c f = nI (n + j) := by
  unfold fdI
  rw [if_neg (by omega), if_pos ⟨rfl, rfl⟩]
theorem fdI_0 {I : Nat → Nat → Int32} {row c f n : Nat} {w : Nat → Int32} (h : I c f = nI n) : fdI I row c f n w 0 = I := by
  funext k i
  unfold fdI
  rw [if_neg (by omega)]
  by_cases h1 : k = c ∧ i = f
  · rw [if_pos h1, h1.1, h1.2, h]
    rfl
  · rw [if_neg h1]
/-- the words' bytes, one behind another -/
def wordF (a b c d e : Int32) (j : Nat) : Int32 := if 4 ≤ j then (if 8 ≤ j then (if 12 ≤ j then (if 16 ≤ j then e else d) else c) else b) else a
def byteF (a b c d e : Int32) (j : Nat) : Int32 := wordF a b c d e j >>> (nI (24 - 8 * (j % 4)) &&& 31)
theorem m_sB {P : Nat → Nat → Option Nat} {I : Nat → Nat → Int32} {J : Nat → Nat → Int64} {i : Nat} (hi : i < 900) (v : Int32) : xsB (mm P I J) 2 (nI i) v = some (mm P (xu I 2 i v.toInt8.toInt32) J) := by
  have hs : SH[2]? = some (21, 900) := by decide +kernel
  unfold xsB xln
  rw [show (mm P I J).1 = SH from rfl, hs]
  dsimp only
  rw [if_pos rfl, Option.bind_some, if_pos (xin_nI hi (by omega)), nI_clamp (by omega)]
  rfl
theorem rd2 {P : Nat → Nat → Option Nat} (hP : GP P) (I : Nat → Nat → Int32) (J : Nat → Nat → Int64) : xgP (mm P I J) 1 7 4 = some 2 := m_gP hP (by decide +kernel) (by decide +kernel) I J
theorem put_C {P : Nat → Nat → Option Nat} (hP : GP P) {I : Nat → Nat → Int32} {J : Nat → Nat → Int64} {n q : Nat} {w : Nat → Int32} (x : Int32) (hq : q < 5) (hn : n + 20 ≤ 900) (hw : ∀ s, s < 4 → w (4 * q + s) = (x >>> (nI (24 - 8 * s) &&& 31)).toInt8.toInt32) : F_X11_putBytes 0 x (mm P (fdI I 2 0 0 n w (4 * q)) J) = some (mm P (fdI I 2 0 0 n w (4 * q + 4)) J) := by
  have id : ∀ y : Int32, y.toInt8.toInt32.toInt8.toInt32 = y.toInt8.toInt32 := fun y => by simp
  have step : ∀ s, s < 4 → ∀ sh sh' : Int32, ¬ sh < 0 → sh = nI (24 - 8 * s) → sh + (-8) = sh' → F_X11_putBytes_3b 0 x (sh, mm P (fdI I 2 0 0 n w (4 * q + s)) J) = some (.inl (sh', mm P (fdI I 2 0 0 n w (4 * q + (s + 1))) J)) := by
    intro s hs sh sh' h0 h1 h2
    have v1 : fdI I 2 0 0 n w (4 * q + s) 0 0 = nI (n + (4 * q + s)) := fdI_c (by omega)
    have c1 : ¬ (900 : Int32) ≤ nI (n + (4 * q + s)) := nI_ge (b := 900) (by omega) (by omega)
    have v2 : ∀ v, xu (fdI I 2 0 0 n w (4 * q + s)) 2 (n + (4 * q + s)) v 0 0 = nI (n + (4 * q + s)) := fun v => by rw [xu_o (by omega)]; exact v1
    have sb := fun v => m_sB (P := P) (I := fdI I 2 0 0 n w (4 * q + s)) (J := J) (i := n + (4 * q + s)) (by omega) v
    have e := fdI_s (I := I) (row := 2) (c := 0) (f := 0) (n := n) (w := w) (j := 4 * q + s) (by omega)
    rw [hw s hs] at e
    simp only [F_X11_putBytes_3b, ↓reduceIte, h0, ↓bOC hP, ↓bs (rd2 hP _ _), v1, c1, ↓bs (sb _), v2, id, nI_1, h2]
    rw [h1, e]
    rfl
  unfold F_X11_putBytes F_X11_putBytes_3
  refine xit_run (fun s => ((if s = 0 then 24 else if s = 1 then 16 else if s = 2 then 8 else if s = 3 then 0 else -8 : Int32), mm P (fdI I 2 0 0 n w (4 * q + s)) J)) 4 rfl (fun s hs => ?_) ?_ (by omega)
  · have h : s = 0 ∨ s = 1 ∨ s = 2 ∨ s = 3 := by omega
    rcases h with rfl | rfl | rfl | rfl
    · exact step 0 (by omega) 24 16 (by decide) (by decide) (by decide)
    · exact step 1 (by omega) 16 8 (by decide) (by decide) (by decide)
    · exact step 2 (by omega) 8 0 (by decide) (by decide) (by decide)
    · exact step 3 (by omega) 0 (-8) (by decide) (by decide) (by decide)
  · have c1 : (-8 : Int32) < 0 := by decide
    show F_X11_putBytes_3b 0 x ((-8 : Int32), _) = _
    simp only [F_X11_putBytes_3b, F_X11_putBytes_49, ↓reduceIte, c1, Option.map_some]
theorem and255 (y : Int32) : (y &&& 255).toInt8 = y.toInt8 := by
  apply Int8.toBitVec_inj.mp
  show ((y &&& 255).toBitVec.signExtend 8) = y.toBitVec.signExtend 8
  apply BitVec.eq_of_getLsbD_eq
  intro i hi
  rw [Int32.toBitVec_and, show (255 : Int32).toBitVec = BitVec.ofNat 32 255 by decide]
  rw [BitVec.getLsbD_signExtend, BitVec.getLsbD_signExtend]
  rw [if_pos (show i < 32 by omega), if_pos (show i < 32 by omega), BitVec.getLsbD_and, BitVec.getLsbD_ofNat]
  have : (255 : Nat).testBit i = true := by
    have h : i = 0 ∨ i = 1 ∨ i = 2 ∨ i = 3 ∨ i = 4 ∨ i = 5 ∨ i = 6 ∨ i = 7 := by omega
    rcases h with rfl | rfl | rfl | rfl | rfl | rfl | rfl | rfl <;> decide
  rw [this]
  simp [show i < 32 by omega]
theorem shift20 : ∀ j, j < 20 → ((24 : Int32) - (8 : Int32) * (nI j - nI j / 4 * 4)) = nI (24 - 8 * (j % 4)) := by decide +kernel
theorem sim_feed (a1 a2 a3 a4 a5 : Int32) : xSim INV (F_X11_feed 0 a1 a2 a3 a4 a5) (F_X12_feed 164 a1 a2 a3 a4 a5) := by
  intro m M hm hI
  obtain ⟨P, I, J, rfl, hP⟩ := G_mm hI.1
  obtain ⟨n, n9, t2', t3', t4⟩ := hI.2.2.1
  have t2 : I 0 0 = nI n := t2'
  have t3 : I 164 5 = nI n := t3'
  have le : nI (n + 20) ≤ (900 : Int32) ↔ n + 20 ≤ 900 := nI_leI (b := 900) (by omega) (by omega)
  have e20 : nI n + (20 : Int32) = nI (n + 20) := nI_add n 20
  by_cases h : n + 20 ≤ 900
  · have c1 : nI (n + 20) ≤ (900 : Int32) := le.mpr h
    have w : ∀ q, q < 5 → ∀ s, s < 4 → (fun j => (byteF a1 a2 a3 a4 a5 j).toInt8.toInt32) (4 * q + s) = (wordF a1 a2 a3 a4 a5 (4 * q) >>> (nI (24 - 8 * s) &&& 31)).toInt8.toInt32 := by
      intro q hq s hs
      show (wordF a1 a2 a3 a4 a5 (4 * q + s) >>> (nI (24 - 8 * ((4 * q + s) % 4)) &&& 31)).toInt8.toInt32 = _
      rw [show (4 * q + s) % 4 = s by omega]
      have : wordF a1 a2 a3 a4 a5 (4 * q + s) = wordF a1 a2 a3 a4 a5 (4 * q) := by
        unfold wordF
        have h : q = 0 ∨ q = 1 ∨ q = 2 ∨ q = 3 ∨ q = 4 := by omega
        rcases h with rfl | rfl | rfl | rfl | rfl <;> (repeat' split) <;> first | rfl | omega
      rw [this]
    have b0 := fdI_0 (I := I) (row := 2) (c := 0) (f := 0) (n := n) (w := fun j => (byteF a1 a2 a3 a4 a5 j).toInt8.toInt32) t2
    have q0 := put_C hP (I := I) (J := J) (n := n) (q := 0) (w := fun j => (byteF a1 a2 a3 a4 a5 j).toInt8.toInt32) a1 (by omega) h (w 0 (by omega))
    have q1 := put_C hP (I := I) (J := J) (n := n) (q := 1) (w := fun j => (byteF a1 a2 a3 a4 a5 j).toInt8.toInt32) a2 (by omega) h (w 1 (by omega))
    have q2 := put_C hP (I := I) (J := J) (n := n) (q := 2) (w := fun j => (byteF a1 a2 a3 a4 a5 j).toInt8.toInt32) a3 (by omega) h (w 2 (by omega))
    have q3 := put_C hP (I := I) (J := J) (n := n) (q := 3) (w := fun j => (byteF a1 a2 a3 a4 a5 j).toInt8.toInt32) a4 (by omega) h (w 3 (by omega))
    have q4 := put_C hP (I := I) (J := J) (n := n) (q := 4) (w := fun j => (byteF a1 a2 a3 a4 a5 j).toInt8.toInt32) a5 (by omega) h (w 4 (by omega))
    simp only [Nat.mul_zero, Nat.zero_add, Nat.reduceMul, Nat.reduceAdd] at q0 q1 q2 q3 q4
    rw [b0] at q0
    have v20 : fdI I 2 0 0 n (fun j => (byteF a1 a2 a3 a4 a5 j).toInt8.toInt32) 20 0 0 = nI (n + 20) := fdI_c (by omega)
    have C : F_X11_feed 0 a1 a2 a3 a4 a5 (mm P I J) = some (nI (n + 20), mm P (fdI I 2 0 0 n (fun j => (byteF a1 a2 a3 a4 a5 j).toInt8.toInt32) 20) J) := by
      unfold F_X11_feed
      simp only [↓bOC hP, t2]
      simp only [e20, ↓reduceIte, c1, ↓bOC hP, ↓bs q0, ↓bs q1, ↓bs q2, ↓bs q3, ↓bs q4, v20]
    have hD5 : xu (fdI I 2 0 0 n (fun j => (byteF a1 a2 a3 a4 a5 j).toInt8.toInt32) 20) 164 0 0 164 5 = nI n := by
      rw [xu_o (by omega)]
      unfold fdI
      rw [if_neg (by omega), if_neg (by omega)]
      exact t3
    have D : F_X12_feed 164 a1 a2 a3 a4 a5 (mm P (fdI I 2 0 0 n (fun j => (byteF a1 a2 a3 a4 a5 j).toInt8.toInt32) 20) J) = some (nI (n + 20), mm P (fdI (xu (fdI I 2 0 0 n (fun j => (byteF a1 a2 a3 a4 a5 j).toInt8.toInt32) 20) 164 0 0) 167 164 5 n (fun j => byteF a1 a2 a3 a4 a5 j &&& 255) 20) J) := by
      unfold F_X12_feed F_X12_feed_24
      simp only [↓bOM hP, hD5]
      simp only [e20, ↓reduceIte, c1]
      refine xit_run (fun j => (nI j, mm P (fdI (xu (fdI I 2 0 0 n (fun j => (byteF a1 a2 a3 a4 a5 j).toInt8.toInt32) 20) 164 0 0) 167 164 5 n (fun j => byteF a1 a2 a3 a4 a5 j &&& 255) j) J)) 20 (by rw [fdI_0 hD5]; rfl) (fun j hj => ?_) ?_ (by omega)
      · have d1 : ¬ (20 : Int32) ≤ nI j := nI_ge (b := 20) hj (by omega)
        have l4 : (4 : Int32) ≤ nI j ↔ 4 ≤ j := nI_leI (a := 4) (by omega) (by omega)
        have l8 : (8 : Int32) ≤ nI j ↔ 8 ≤ j := nI_leI (a := 8) (by omega) (by omega)
        have l12 : (12 : Int32) ≤ nI j ↔ 12 ≤ j := nI_leI (a := 12) (by omega) (by omega)
        have l16 : (16 : Int32) ≤ nI j ↔ 16 ≤ j := nI_leI (a := 16) (by omega) (by omega)
        have v1 : fdI (xu (fdI I 2 0 0 n (fun j => (byteF a1 a2 a3 a4 a5 j).toInt8.toInt32) 20) 164 0 0) 167 164 5 n (fun j => byteF a1 a2 a3 a4 a5 j &&& 255) j 164 5 = nI (n + j) := fdI_c (by omega)
        have v2 : ∀ v, xu (fdI (xu (fdI I 2 0 0 n (fun j => (byteF a1 a2 a3 a4 a5 j).toInt8.toInt32) 20) 164 0 0) 167 164 5 n (fun j => byteF a1 a2 a3 a4 a5 j &&& 255) j) 167 (n + j) v 164 5 = nI (n + j) := fun v => by rw [xu_o (by omega)]; exact v1
        have e := fdI_s (I := xu (fdI I 2 0 0 n (fun j => (byteF a1 a2 a3 a4 a5 j).toInt8.toInt32) 20) 164 0 0) (row := 167) (c := 164) (f := 5) (n := n) (w := fun j => byteF a1 a2 a3 a4 a5 j &&& 255) (j := j) (by omega)
        have st : ∀ s0, s0 = wordF a1 a2 a3 a4 a5 j → F_X12_feed_77 164 a1 a2 a3 a4 a5 (nI j) s0 (mm P (fdI (xu (fdI I 2 0 0 n (fun j => (byteF a1 a2 a3 a4 a5 j).toInt8.toInt32) 20) 164 0 0) 167 164 5 n (fun j => byteF a1 a2 a3 a4 a5 j &&& 255) j) J) = some (.inl (nI (j + 1), mm P (fdI (xu (fdI I 2 0 0 n (fun j => (byteF a1 a2 a3 a4 a5 j).toInt8.toInt32) 20) 164 0 0) 167 164 5 n (fun j => byteF a1 a2 a3 a4 a5 j &&& 255) (j + 1)) J)) := by
          intro s0 hs0
          unfold F_X12_feed_77
          simp only [shift20 j hj]
          simp only [↓bOM hP, v1]
          simp (disch := omega) only [↓bAM, ↓bOM hP, v2, nI_1]
          rw [← e, hs0]
          rfl
        simp only [F_X12_feed_24b, ↓reduceIte, d1, l4, l8, l12, l16]
        unfold wordF at st
        by_cases h4 : 4 ≤ j
        · by_cases h8 : 8 ≤ j
          · by_cases h12 : 12 ≤ j
            · by_cases h16 : 16 ≤ j
              · rw [if_pos h4, if_pos h8, if_pos h12, if_pos h16]
                exact st _ (by rw [if_pos h4, if_pos h8, if_pos h12, if_pos h16])
              · rw [if_pos h4, if_pos h8, if_pos h12, if_neg h16]
                exact st _ (by rw [if_pos h4, if_pos h8, if_pos h12, if_neg h16])
            · rw [if_pos h4, if_pos h8, if_neg h12]
              exact st _ (by rw [if_pos h4, if_pos h8, if_neg h12])
          · rw [if_pos h4, if_neg h8]
            exact st _ (by rw [if_pos h4, if_neg h8])
        · rw [if_neg h4]
          exact st _ (by rw [if_neg h4])
      · have d1 : (20 : Int32) ≤ nI 20 := by decide
        have v1 : fdI (xu (fdI I 2 0 0 n (fun j => (byteF a1 a2 a3 a4 a5 j).toInt8.toInt32) 20) 164 0 0) 167 164 5 n (fun j => byteF a1 a2 a3 a4 a5 j &&& 255) 20 164 5 = nI (n + 20) := fdI_c (by omega)
        simp only [F_X12_feed_24b, F_X12_feed_121, ↓reduceIte, d1, ↓bOM hP, v1, Option.map_some]
    refine ⟨_, _, _, C, D, m_ck (by decide +kernel) _ _, m_ck (by decide +kernel) _ _, INV_mono _ _ ?_⟩
    have fr : ∀ k i, ¬ (k = 2 ∧ n ≤ i) → ¬ (k = 0 ∧ i = 0) → ¬ (k = 164 ∧ (i = 0 ∨ i = 5)) → ¬ (k = 167 ∧ n ≤ i) → fdI (xu (fdI I 2 0 0 n (fun j => (byteF a1 a2 a3 a4 a5 j).toInt8.toInt32) 20) 164 0 0) 167 164 5 n (fun j => byteF a1 a2 a3 a4 a5 j &&& 255) 20 k i = I k i := fun k i h1 h2 h3 h4 => by
      unfold fdI
      rw [if_neg (by omega), if_neg (by omega), xu_o (by omega), if_neg (by omega), if_neg (by omega)]
    obtain ⟨g, f1, -, ⟨t', f3⟩, f4, f5, f6⟩ := hI
    refine ⟨⟨g.1, g.2⟩, Ifault_fr (M := mm P I J) (fun k i hh => fr k i (by omega) (by omega) (by omega) (by omega)) f1, ⟨n + 20, by omega, ?_, ?_, fun k hk => ?_⟩, ⟨t', Ishore_fr (M := mm P I J) (fun k i hh => fr k i (by omega) (by omega) (by omega) (by omega)) f3⟩, Itray_fr (M := mm P I J) (fun k i hh => fr k i (by omega) (by omega) (by omega) (by omega)) (fun _ _ _ => rfl) f4, Iimg_fr (M := mm P I J) (fun k i hh => fr k i (by omega) (by omega) (by omega) (by omega)) f5, Inim_fr (M := mm P I J) (fun i => fr 124 i (by omega) (by omega) (by omega) (by omega)) f6⟩
    · rw [mm_I]
      unfold fdI
      rw [if_neg (by omega), if_neg (by omega), xu_o (by omega), if_neg (by omega), if_pos ⟨rfl, rfl⟩]
    · rw [mm_I]
      exact fdI_c (by omega)
    · by_cases hkn : k < n
      · obtain ⟨b, b1, b2, b3⟩ := t4 k hkn
        exact ⟨b, b1, by rw [mm_I, fr 167 k (by omega) (by omega) (by omega) (by omega)]; exact b2, by rw [mm_I, fr 2 k (by omega) (by omega) (by omega) (by omega)]; exact b3⟩
      · obtain ⟨b, b1, b2⟩ := pk_andE (byteF a1 a2 a3 a4 a5 (k - n)) (m := 255) 8 (by decide)
        refine ⟨b, by omega, ?_, ?_⟩
        · rw [mm_I]
          unfold fdI
          rw [if_pos (by omega)]
          exact b2
        · rw [mm_I, ← b2, and255]
          unfold fdI
          rw [if_neg (by omega), if_neg (by omega), xu_o (by omega), if_pos (by omega)]
  · have c1 : ¬ nI (n + 20) ≤ (900 : Int32) := fun z => h (le.mp z)
    have v : xu I 164 0 0 164 5 = nI n := by rw [xu_o (by omega)]; exact t3
    refine ⟨-5, mm P I J, thr (mm P I J), ?_, ?_, m_ck (by decide +kernel) _ _, m_ck (by decide +kernel) _ _, INV_mono _ _ (INV_Sc hI thr_Sc)⟩
    · unfold F_X11_feed
      simp only [↓bOC hP, t2]
      simp only [e20, ↓reduceIte, c1]
    · unfold F_X12_feed
      simp only [↓bOM hP, v]
      simp only [e20, ↓reduceIte, c1, thr_mm]
