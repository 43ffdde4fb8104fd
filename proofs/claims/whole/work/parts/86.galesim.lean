/-! ===== gales weighed, both sides ===== -/
theorem min8 {m : Nat} (h : m ≤ 8) (M : xM) : F_J9_min_7cf53 (nI m) (8 : Int32) M = some (nI m, M) := by
  have c1 : ¬ (8 : Int32) < nI m := nI_nlt (a := 8) (by omega) (by omega)
  simp only [F_J9_min_7cf53, ↓reduceIte, c1]
theorem fill126 {P : Nat → Nat → Option Nat} {I : Nat → Nat → Int32} {J : Nat → Nat → Int64} : ∃ J', F_J7_fill_d0a16 126 (0 : Int64) (mm P I J) = some (mm P I J') ∧ (∀ a i, a ≠ 126 → J' a i = J a i) ∧ ∀ h, h < 6 → J' 126 h = 0 := by
  have key : ∃ r : xM, xit (F_J7_fill_d0a16_6b 126 (0 : Int64) (nI 6)) xFU (nI 0, mm P I J) = some r ∧ (∃ J', r = mm P I J' ∧ (∀ a i, a ≠ 126 → J' a i = J a i) ∧ ∀ h, h < 6 → J' 126 h = 0) := by
    refine xit_inv (fun j z => ∃ J', z = (nI j, mm P I J') ∧ (∀ a i, a ≠ 126 → J' a i = J a i) ∧ ∀ h, h < j → J' 126 h = 0) _ 6 ⟨J, rfl, fun _ _ _ => rfl, fun h hh => by omega⟩ (fun j z hj hq => ?_) (fun z hq => ?_) (by omega)
    · obtain ⟨J1, rfl, q1, q2⟩ := hq
      left
      have c1 : ¬ nI 6 ≤ nI j := nI_ge hj (by omega)
      refine ⟨(nI (j + 1), mm P I (xu J1 126 j 0)), ?_, _, rfl, fun a i h => by rw [xu_o (by omega), q1 a i h], fun h hh => ?_⟩
      · simp (disch := omega) only [F_J7_fill_d0a16_6b, ↓reduceIte, c1, ↓bAX, nI_1]
      · by_cases e : h = j
        · rw [e, xu_self]
        · rw [xu_o (by omega)]; exact q2 h (by omega)
    · obtain ⟨J1, rfl, q1, q2⟩ := hq
      have c1 : nI 6 ≤ nI 6 := by decide
      exact ⟨mm P I J1, by simp only [F_J7_fill_d0a16_6b, F_J7_fill_d0a16_22, ↓reduceIte, c1, Option.map_some], J1, rfl, q1, q2⟩
  obtain ⟨r, h1, J', rfl, h2, h3⟩ := key
  refine ⟨J', ?_, h2, h3⟩
  simp only [F_J7_fill_d0a16, F_J7_fill_d0a16_6, ↓bs (m_al (n := 6) (show SH[126]? = some (24, 6) by decide +kernel) I J)]
  exact h1
theorem weigh_C {P : Nat → Nat → Option Nat} (hP : GP P) {I : Nat → Nat → Int32} {J : Nat → Nat → Int64} {t : Txt} {c : Cst} {n m : Nat} (hw : wfT t) (hc : wfC t c n) (hn : n < 512) (hL : LandC (mm P I J) 14 t) (hC : CoI I 21 t c) (hm : m ≤ 8) :
    ∃ I' J', F_X2_weigh 125 14 21 29 (nI m) (mm P I J) = some (mm P I' J') ∧ (∀ a i, ¬ (128 ≤ a ∧ a ≤ 163) → a ≠ 31 → a ≠ 32 → a ≠ 33 → I' a i = I a i) ∧ (∀ a i, a ≠ 126 → J' a i = J a i) ∧ ∀ h, h < 6 → J' 126 h = nJ (stW t m c h) := by
  obtain ⟨J0, e1, e2, e3⟩ := fill126 (P := P) (I := I) (J := J)
  obtain ⟨I1, t1, g0, g1, g2, g3, g4, g5, g6, g7⟩ := take_C hP I J0 (a := 128) (b := 21) (by decide) (by decide) (by decide)
  have hC1 : CoI I1 128 t c := CoI_iff.mp (CoastC_same (M := mm P I J0) (M' := mm P I1 J0) hw hc g1 g2 g3 g4 g5 g6 g7 (CoI_iff.mpr hC))
  have hmi : cMinute c ≤ 99 * n := hc.2.2.2.2
  have hL1 : LandC (mm P I1 J0) 14 t := LandC_I (J := J) (fun a i _ _ => g0 a i (by omega)) hL
  obtain ⟨I2, J2, r1, r2, r3, r4⟩ := blow_C hP (n := n + 1) (m := m) hw (by omega) hm 10 m 0 c 1 I1 J0 (by omega) (by omega) hL1 hC1 (wfC_mono hc) (by omega)
  refine ⟨I2, J2, ?_, fun a i h1 h2 h3 h4 => by rw [r2 a i (by omega) h2 h3 h4, g0 a i (by omega)], fun a i h => by rw [r3 a i h, e2 a i h], fun h hh => ?_⟩
  · have r1' : Fx_X2_blow 125 14 29 (0 : Int32) (nI m) (1 : Int64) (mm P I1 J0) = some (mm P I2 J2) := r1
    have sp : xaP (mm P I J0) 30 127 (0 : Int32) = some 128 := stepP hP (s := 0) (by omega) I J0
    have ki : 128 ∈ coastL := by decide
    simp only [F_X2_weigh, ↓bOX hP, ↓bs e1, ↓bs sp, ↓bOK hP ki, ↓bs t1, ↓bs (min8 hm _), ↓bs r1']
  · rw [r4 h hh, e3 h hh, Nat.one_mul, Int64.zero_add]
theorem lays_M {P : Nat → Nat → Option Nat} (hP : GP P) {I : Nat → Nat → Int32} {J : Nat → Nat → Int64} {t : Txt} {c : Cst} {n m : Nat} (hw : wfT t) (hc : wfC t c n) (hn : n < 512) (hA : LandA (I 165) 0 t) (hD : CoastA (I 165) 67 t c) (hm : m ≤ 8) :
    ∃ I' J', F_X12_laysGale 164 (nI m) (mm P I J) = some (mm P I' J') ∧ (∀ a i, ¬ (a = 164 ∧ (i = 20 ∨ i = 21)) → a ≠ 169 → a ≠ 170 → a ≠ 171 → a ≠ 172 → a ≠ 180 → I' a i = I a i) ∧ (∀ a i, a ≠ 181 → J' a i = J a i) ∧ ∀ h, h < 6 → J' 181 h = nJ (stW t m c h) := by
  have hmi : cMinute c ≤ 99 * n := hc.2.2.2.2
  have key : ∃ r : xM, xit (F_X12_laysGale_2b 164 (nI m)) xFU (nI 0, mm P I J) = some r ∧ (∃ I' J', r = mm P I' J' ∧ (∀ a i, ¬ (a = 164 ∧ (i = 20 ∨ i = 21)) → a ≠ 169 → a ≠ 170 → a ≠ 171 → a ≠ 172 → a ≠ 180 → I' a i = I a i) ∧ (∀ a i, a ≠ 181 → J' a i = J a i) ∧ ∀ h, h < 6 → J' 181 h = nJ (stW t m c h)) := by
    refine xit_inv (fun j z => ∃ J', z = (nI j, mm P I J') ∧ (∀ a i, a ≠ 181 → J' a i = J a i) ∧ ∀ h, h < j → J' 181 h = 0) _ 6 ⟨J, rfl, fun _ _ _ => rfl, fun h hh => by omega⟩ (fun j z hj hq => ?_) (fun z hq => ?_) (by omega)
    · obtain ⟨J1, rfl, q1, q2⟩ := hq
      left
      have c1 : ¬ (6 : Int32) ≤ nI j := nI_ge (b := 6) hj (by omega)
      refine ⟨(nI (j + 1), mm P I (xu J1 181 j 0)), ?_, _, rfl, fun a i h => by rw [xu_o (by omega), q1 a i h], fun h hh => ?_⟩
      · simp (disch := omega) only [F_X12_laysGale_2b, ↓reduceIte, c1, ↓bOM hP, ↓bAM, nI_1]
      · by_cases e : h = j
        · rw [e, xu_self]
        · rw [xu_o (by omega)]; exact q2 h (by omega)
    · obtain ⟨J1, rfl, q1, q2⟩ := hq
      have c1 : (6 : Int32) ≤ nI 6 := by decide
      obtain ⟨I1, b1, b2, b3⟩ := begins_M hP (J := J1) hw hD
      have e165 : ∀ i, I1 165 i = I 165 i := fun i => b2 _ _ (by omega) (by omega) (by omega) (by omega) (by omega)
      obtain ⟨I2, J2, r1, ⟨r2, -, -⟩, r5, r6⟩ := goesGale_M hP (n := n + 1) hw (by omega) 10 m c 1 I1 J1 (by omega) hm (wfC_mono hc) (by omega) (LandA_cg (A := I 165) hw (fun x _ => e165 _) hA) (HsM_fr e165 (HsM_of hD)) b3
      have r1' : Fx_X12_goesGale 164 (nI m) (1 : Int64) (mm P I1 J1) = some (mm P I2 J2) := r1
      refine ⟨mm P I2 J2, by simp only [F_X12_laysGale_2b, F_X12_laysGale_21, ↓reduceIte, c1, ↓bOM hP, ↓bs b1, ↓bs r1', Option.map_some], I2, J2, rfl, fun a i h1 h2 h3 h4 h5 h6 => ?_, fun a i h => by rw [r5 a i h, q1 a i h], fun h hh => ?_⟩
      · rw [r2 a i h1 h2 h3 h4 h5 (by omega), b2 a i h1 h2 h3 h4 h5]
      · rw [r6 h hh, q2 h hh, Nat.one_mul, Int64.zero_add]
  obtain ⟨r, h1, I', J', rfl, h2, h3, h4⟩ := key
  exact ⟨I', J', h1, h2, h3, h4⟩
theorem in01 (a : Int32) : (a < 0 ∨ ¬ a ≤ 1) ∧ ¬ (0 ≤ a.toInt ∧ a.toInt ≤ 1) ∨ (¬ a < 0 ∧ a ≤ 1) ∧ (0 ≤ a.toInt ∧ a.toInt ≤ 1) := by
  have y : (1 : Int32).toInt = 1 := by decide
  by_cases h0 : a < 0
  · have := toInt_neg h0
    exact Or.inl ⟨Or.inl h0, by omega⟩
  · have h1 := toInt_nneg h0
    by_cases h2 : a ≤ 1
    · have h3 := Int32.le_iff_toInt_le.mp h2
      exact Or.inr ⟨⟨h0, h2⟩, by omega, by omega⟩
    · have h3 : ¬ a.toInt ≤ (1 : Int32).toInt := fun z => h2 (Int32.le_iff_toInt_le.mpr z)
      exact Or.inl ⟨Or.inr h2, by omega⟩
theorem in08 (a : Int32) : (a < 0 ∨ ¬ a ≤ 8) ∧ ¬ (0 ≤ a.toInt ∧ a.toInt ≤ 8) ∨ (¬ a < 0 ∧ a ≤ 8) ∧ ∃ m, m ≤ 8 ∧ a = nI m := by
  have y : (8 : Int32).toInt = 8 := by decide
  by_cases h0 : a < 0
  · have := toInt_neg h0
    exact Or.inl ⟨Or.inl h0, by omega⟩
  · have h1 := toInt_nneg h0
    by_cases h2 : a ≤ 8
    · have h3 := Int32.le_iff_toInt_le.mp h2
      obtain ⟨m, hm, rfl⟩ := cell_of (a := a) (n := 9) (by omega) (by omega)
      exact Or.inr ⟨⟨h0, h2⟩, m, by omega, rfl⟩
    · have h3 : ¬ a.toInt ≤ (8 : Int32).toInt := fun z => h2 (Int32.le_iff_toInt_le.mpr z)
      exact Or.inl ⟨Or.inr h2, by omega⟩
theorem gaC_Sc {P : Nat → Nat → Option Nat} {I I' : Nat → Nat → Int32} {J J' : Nat → Nat → Int64} (h : ∀ a i, ¬ (128 ≤ a ∧ a ≤ 163) → a ≠ 31 → a ≠ 32 → a ≠ 33 → I' a i = I a i) (hJ : ∀ a i, a ≠ 126 → J' a i = J a i) : Sc (mm P I J) (mm P I' J') := Sc_mm (fun k i g => by
  unfold scr at g
  exact h k i (by omega) (by omega) (by omega) (by omega)) (fun k i g => by
  unfold scr at g
  exact hJ k i (by omega))
theorem gaM_Sc {P : Nat → Nat → Option Nat} {I I' : Nat → Nat → Int32} {J J' : Nat → Nat → Int64} (h : ∀ a i, ¬ (a = 164 ∧ (i = 20 ∨ i = 21)) → a ≠ 169 → a ≠ 170 → a ≠ 171 → a ≠ 172 → a ≠ 180 → I' a i = xu I 164 0 0 a i) (hJ : ∀ a i, a ≠ 181 → J' a i = J a i) : Sc (mm P I J) (mm P I' J') := Sc_mm (fun k i g => by
  unfold scr at g
  rw [h k i (by omega) (by omega) (by omega) (by omega) (by omega) (by omega), xu_o (by omega)]) (fun k i g => by
  unfold scr at g
  exact hJ k i (by omega))
theorem sim_chance (a1 a2 a3 : Int32) : xSim INV (F_X11_chance 0 a1 a2 a3) (F_X12_chance 164 a1 a2 a3) := by
  refine xSim_qn fun n M hn hI => ?_
  obtain ⟨P, I, J, rfl, hP⟩ := G_mm hI.1
  obtain ⟨t, c, cs, nx, hw, hL, hA, hc, hC, hD, -⟩ := INV_sh hI
  have z0 : (0 : Int64).toInt = 0 := by decide
  have z1 : (1 : Int64).toInt = 1 := by decide
  have z8 : (8 : Int64).toInt = 8 := by decide
  have hg : tGale t ≤ 10 := hw.2.2.2.1
  have hl := hc.2.1.1
  have ihC := isHouseC (mm_G (I := I) (J := J) hP) hc hC a1
  have ihM : ∀ I' J', (∀ i, I' 165 i = I 165 i) → F_X12_isHouse 164 a1.toInt64 (mm P I' J') = some (if 0 ≤ a1.toInt ∧ a1.toInt < (cHouses c).length then 1 else 0, mm P I' J') := fun I' J' e => isHouseM (mm_G (I := I') (J := J') hP) hc (show CoastA (I' 165) 67 t c from CoastA_cg (A := I 165) hw hc (fun x _ => e _) hD) a1
  by_cases hh : 0 ≤ a1.toInt ∧ a1.toInt < (cHouses c).length
  · rw [if_pos hh] at ihC
    have ihM1 : ∀ I' J', (∀ i, I' 165 i = I 165 i) → F_X12_isHouse 164 a1.toInt64 (mm P I' J') = some (1, mm P I' J') := fun I' J' e => by rw [ihM I' J' e, if_pos hh]
    have i0 := ihM1 (xu I 164 0 0) J (fun i => xu_o (by omega))
    rcases in01 a3 with ⟨h1, h2⟩ | ⟨⟨h1, h1'⟩, h2⟩
    · refine ⟨-2, mm P I J, mm P (xu I 164 0 0) J, ?_, Sc.rf, ?_, thr_Sc⟩
      · rcases h1 with h1 | h1
        · simp only [F_X11_chance, ↓bOC hP, ↓bs ihC, one_ne, ↓reduceIte, h1]
        · simp only [F_X11_chance, ↓bOC hP, ↓bs ihC, one_ne, ↓reduceIte, h1, ite_self]
      · simp only [F_X12_chance, ↓bOM hP, ↓bs i0, one_ne, ↓reduceIte, within_lit, ↓Option.bind_some, z0, z1, if_neg h2]
    · rcases in08 a2 with ⟨g1, g2⟩ | ⟨⟨g1, g1'⟩, m, hm, rfl⟩
      · refine ⟨-3, mm P I J, mm P (xu I 164 0 0) J, ?_, Sc.rf, ?_, thr_Sc⟩
        · rcases g1 with g1 | g1
          · simp only [F_X11_chance, ↓bOC hP, ↓bs ihC, one_ne, ↓reduceIte, h1, h1', g1]
          · simp only [F_X11_chance, ↓bOC hP, ↓bs ihC, one_ne, ↓reduceIte, h1, h1', g1, ite_self]
        · simp only [F_X12_chance, ↓bOM hP, ↓bs i0, one_ne, ↓reduceIte, within_lit, ↓Option.bind_some, z0, z1, z8, if_pos h2, if_neg g2]
      · obtain ⟨h, hh6, rfl⟩ := cell_of (a := a1) (n := 6) (by omega) (by omega)
        obtain ⟨I1, J1, e1, e2, e3, e4⟩ := weigh_C hP (I := I) (J := J) hw hc hn hL hC hm
        have e165 : ∀ i, xu I1 164 0 0 165 i = I 165 i := fun i => by rw [xu_o (by omega), e2 _ _ (by omega) (by omega) (by omega) (by omega)]
        obtain ⟨I2, J2, r1, r2, r3, r4⟩ := lays_M hP (I := xu I1 164 0 0) (J := J1) (m := m) hw hc hn (LandA_cg (A := I 165) hw (fun x _ => e165 _) hA) (CoastA_cg (A := I 165) hw hc (fun x _ => e165 _) hD) hm
        have g2 : 0 ≤ (nI m).toInt ∧ (nI m).toInt ≤ 8 := by rw [nI_toInt (by omega)]; omega
        have sl := stW_le t hg m c h
        have p8 := (pow8 hm).2
        have i1 := ihM1 (xu I1 164 0 0) J1 e165
        refine ⟨lowS (stW t m c h) m a3, mm P I1 J1, mm P I2 J2, ?_, gaC_Sc e2 e3, ?_, gaM_Sc r2 r3⟩
        · simp (disch := omega) only [F_X11_chance, ↓bOC hP, ↓bs ihC, one_ne, ↓reduceIte, h1, h1', g1, g1', ↓bOX hP, ↓bs e1, ↓bAX, e4 h hh6, ↓bs (lowest_C (v := stW t m c h) (show stW t m c h < 2 ^ 31 by omega) hm a3 _)]
        · simp (disch := omega) only [F_X12_chance, ↓bOM hP, ↓bs i1, one_ne, ↓reduceIte, within_lit, ↓Option.bind_some, z0, z1, z8, if_pos h2, if_pos g2, ↓bs r1, ↓bAM, r4 h hh6, ↓bs (wholeOf_M hm _), ↓bs (part_M (v := stW t m c h) (show stW t m c h < 2 ^ 31 by omega) hm a3 _)]
  · rw [if_neg hh] at ihC
    have i0 := ihM (xu I 164 0 0) J (fun i => xu_o (by omega))
    rw [if_neg hh] at i0
    refine ⟨-2, mm P I J, mm P (xu I 164 0 0) J, ?_, Sc.rf, ?_, thr_Sc⟩
    · simp only [F_X11_chance, ↓bOC hP, ↓bs ihC, ↓reduceIte]
    · simp only [F_X12_chance, ↓bOM hP, ↓bs i0, ↓reduceIte]
def sumN (f : Nat → Nat) : Nat → Nat
  | 0 => 0
  | n + 1 => sumN f n + f n
theorem sumN_le {f : Nat → Nat} {B : Nat} (h : ∀ i, f i ≤ B) : ∀ n, sumN f n ≤ n * B
  | 0 => Nat.zero_le _
  | n + 1 => by
    have := sumN_le h n
    have := h n
    show sumN f n + f n ≤ (n + 1) * B
    rw [Nat.succ_mul]
    omega
theorem sim_mean (a1 a2 : Int32) : xSim INV (F_X11_mean 0 a1 a2) (F_X12_mean 164 a1 a2) := by
  refine xSim_qn fun n M hn hI => ?_
  obtain ⟨P, I, J, rfl, hP⟩ := G_mm hI.1
  obtain ⟨t, c, cs, nx, hw, hL, hA, hc, hC, hD, -⟩ := INV_sh hI
  have z0 : (0 : Int64).toInt = 0 := by decide
  have z1 : (1 : Int64).toInt = 1 := by decide
  have z8 : (8 : Int64).toInt = 8 := by decide
  have hg : tGale t ≤ 10 := hw.2.2.2.1
  rcases in01 a2 with ⟨h1, h2⟩ | ⟨⟨h1, h1'⟩, h2⟩
  · refine ⟨-2, mm P I J, mm P (xu I 164 0 0) J, ?_, Sc.rf, ?_, thr_Sc⟩
    · rcases h1 with h1 | h1
      · simp only [F_X11_mean, ↓reduceIte, h1]
      · simp only [F_X11_mean, ↓reduceIte, h1, ite_self]
    · simp only [F_X12_mean, ↓bOM hP, ↓reduceIte, within_lit, ↓Option.bind_some, z0, z1, if_neg h2]
  · rcases in08 a1 with ⟨g1, g2⟩ | ⟨⟨g1, g1'⟩, m, hm, rfl⟩
    · refine ⟨-3, mm P I J, mm P (xu I 164 0 0) J, ?_, Sc.rf, ?_, thr_Sc⟩
      · rcases g1 with g1 | g1
        · simp only [F_X11_mean, ↓reduceIte, h1, h1', g1]
        · simp only [F_X11_mean, ↓reduceIte, h1, h1', g1, ite_self]
      · simp only [F_X12_mean, ↓bOM hP, one_ne, ↓reduceIte, within_lit, ↓Option.bind_some, z0, z1, z8, if_pos h2, if_neg g2]
    · obtain ⟨I1, J1, e1, e2, e3, e4⟩ := weigh_C hP (I := I) (J := J) hw hc hn hL hC hm
      have e165 : ∀ i, xu I1 164 0 0 165 i = I 165 i := fun i => by rw [xu_o (by omega), e2 _ _ (by omega) (by omega) (by omega) (by omega)]
      obtain ⟨I2, J2, r1, r2, r3, r4⟩ := lays_M hP (I := xu I1 164 0 0) (J := J1) (m := m) hw hc hn (LandA_cg (A := I 165) hw (fun x _ => e165 _) hA) (CoastA_cg (A := I 165) hw hc (fun x _ => e165 _) hD) hm
      have g2 : 0 ≤ (nI m).toInt ∧ (nI m).toInt ≤ 8 := by rw [nI_toInt (by omega)]; omega
      have sl := sumN_le (fun i => stW_le t hg m c i) 6
      have p8 := (pow8 hm).2
      have sv : sumN (stW t m c) 6 < 2 ^ 31 := by
        have : 6 * 10 ^ m ≤ 6 * 100000000 := Nat.mul_le_mul_left _ p8
        omega
      have lC : F_X11_mean_50 0 (nI m) a2 0 0 (mm P I1 J1) = some (lowS (sumN (stW t m c) 6) m a2, mm P I1 J1) := by
        unfold F_X11_mean_50
        refine xit_run (fun j => (nJ (sumN (stW t m c) j), nI j, mm P I1 J1)) 6 rfl (fun j hj => ?_) ?_ (by omega)
        · have c1 : ¬ (6 : Int32) ≤ nI j := nI_ge (b := 6) hj (by omega)
          have e : sumN (stW t m c) (j + 1) = sumN (stW t m c) j + stW t m c j := rfl
          rw [e]
          simp (disch := omega) only [F_X11_mean_50b, ↓reduceIte, c1, ↓bOC hP, ↓bOX hP, ↓bAX, e4 j hj, ↓Option.bind_some, nJ_add, nI_1]
        · have c1 : (6 : Int32) ≤ nI 6 := by decide
          simp only [F_X11_mean_50b, F_X11_mean_76, ↓reduceIte, c1, ↓bs (lowest_C sv hm a2 _)]
      have lM : F_X12_mean_43 164 (nI m) a2 0 0 (mm P I2 J2) = some (lowS (sumN (stW t m c) 6) m a2, mm P I2 J2) := by
        unfold F_X12_mean_43
        refine xit_run (fun j => (nJ (sumN (stW t m c) j), nI j, mm P I2 J2)) 6 rfl (fun j hj => ?_) ?_ (by omega)
        · have c1 : ¬ (6 : Int32) ≤ nI j := nI_ge (b := 6) hj (by omega)
          have e : sumN (stW t m c) (j + 1) = sumN (stW t m c) j + stW t m c j := rfl
          rw [e]
          simp (disch := omega) only [F_X12_mean_43b, ↓reduceIte, c1, ↓bOM hP, ↓bAM, r4 j hj, ↓Option.bind_some, nJ_add, nI_1]
        · have c1 : (6 : Int32) ≤ nI 6 := by decide
          simp only [F_X12_mean_43b, F_X12_mean_66, ↓reduceIte, c1, ↓bs (wholeOf_M hm _), ↓bs (part_M sv hm a2 _)]
      refine ⟨lowS (sumN (stW t m c) 6) m a2, mm P I1 J1, mm P I2 J2, ?_, gaC_Sc e2 e3, ?_, gaM_Sc r2 r3⟩
      · simp only [F_X11_mean, ↓reduceIte, h1, h1', g1, g1', ↓bOC hP, ↓bOX hP, ↓bs e1, lC]
      · simp only [F_X12_mean, ↓bOM hP, one_ne, ↓reduceIte, within_lit, ↓Option.bind_some, z0, z1, z8, if_pos h2, if_pos g2, ↓bs r1, lM]
