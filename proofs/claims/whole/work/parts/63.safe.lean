/-! ===== wet, safe, worst ===== -/
theorem isLevelC (a : Int32) (M : xM) : F_X11_isLevel a.toInt64 M = some (if 0 ≤ a.toInt ∧ a.toInt ≤ 10 then 1 else 0, M) := by
  have z0 : (0 : Int64).toInt = 0 := by decide
  have z10 : (10 : Int64).toInt = 10 := by decide
  unfold F_X11_isLevel F_X11_isLevel_18
  simp only [lg_cmp_lt, lg_cmp_gt, Int64.lt_iff_toInt_lt, Int32.toInt_toInt64, z0, z10, xz0, xz1, Option.bind_some]
  by_cases h1 : a.toInt < 0
  · rw [if_pos h1, if_neg (by omega)]
  · rw [if_neg h1]
    by_cases h2 : 10 < a.toInt
    · rw [if_pos h2, if_neg (by omega)]
    · rw [if_neg h2, if_pos (by omega)]
theorem sim_wet (a1 : Int32) : xSim INV (F_X11_wet 0 a1) (F_X12_wet 164 a1) := by
  refine xSim_qn fun n M hn hI => ?_
  obtain ⟨P, I, J, rfl, hP⟩ := G_mm hI.1
  obtain ⟨t, c, cs, nx, hw, hL, hA, hc, hC, hD, -⟩ := INV_sh hI
  have z0 : (0 : Int64).toInt = 0 := by decide
  have z10 : (10 : Int64).toInt = 10 := by decide
  by_cases h : 0 ≤ a1.toInt ∧ a1.toInt ≤ 10
  · obtain ⟨lv, hlv, rfl⟩ := cell_of (a := a1) (n := 11) (by omega) (by omega)
    have wc := (wet_C hP (I := I) (J := J) (k := 21) (by decide) hw hc hL hC (lv := lv) (by omega)).1
    have hA1 : LandA (xu I 164 0 0 165) 0 t := LandA_cg (A := I 165) hw (fun x _ => xu_o (by omega)) hA
    have hD1 : CoastA (xu I 164 0 0 165) 67 t c := CoastA_cg (A := I 165) hw hc (fun x _ => xu_o (by omega)) hD
    obtain ⟨I2, b1, b2⟩ := begins_M hP (I := xu I 164 0 0) (J := J) hw hD1
    have hA2 : LandA (I2 165) 0 t := LandA_cg (A := xu I 164 0 0 165) hw (fun x _ => b2.1 _ _ (by omega) (by omega) (by omega) (by omega) (by omega)) hA1
    have wm := (wet_M hP (I := I2) (J := J) (s := cSand c) hw hA2 (fun i hi => ⟨b2.2.1 i hi, hc.1 i hi⟩) (lv := lv) (by omega)).1
    refine ⟨nI (wetS t (cSand c) lv), mm P I J, mm P I2 J, ?_, Sc.rf, ?_, ahM_Sc b2⟩
    · simp only [F_X11_wet, ↓bs (isLevelC _ _), h, and_self, ↓reduceIte, one_ne, ↓bOC hP, ↓bs wc]
    · simp only [F_X12_wet, ↓bOM hP, within_lit, ↓Option.bind_some, z0, z10, h, and_self, ↓reduceIte, one_ne, ↓bs b1, ↓bs wm]
  · refine ⟨-3, mm P I J, thr (mm P I J), ?_, Sc.rf, ?_, thr_Sc⟩
    · simp only [F_X11_wet, ↓bs (isLevelC _ _), if_neg h, ↓reduceIte]
    · simp only [F_X12_wet, ↓bOM hP, within_lit, ↓Option.bind_some, z0, z10, if_neg h, ↓reduceIte, thr_mm]
/-- more is wet if the sea is higher -/
theorem wet_mono {t : Txt} {s : Nat → Nat} {lv lv' m m' : Nat} (h : lv ≤ lv') (hm : wetP t s lv m) (hm' : wetP t s lv' m') : ∀ b, m.testBit b = true → m'.testBit b = true := by
  have lo : ∀ b, lowB t s lv b = true → lowB t s lv' b = true := fun b hb => by
    have := lowB_iff.mp hb
    exact lowB_iff.mpr ⟨this.1, by omega⟩
  exact hm.1.2 (fun b => m'.testBit b = true) (fun b h1 h2 => hm'.2.1 b h1 (lo b h2)) (fun a b h1 h2 h3 => hm'.2.2 a b h1 h2 (lo b h3))
theorem wet_0 {t : Txt} {s : Nat → Nat} {m b : Nat} (hm : wetP t s 0 m) : m.testBit b = false := by
  cases hb : m.testBit b with
  | false => rfl
  | true =>
    have := lowB_iff.mp (hm.1.1 b hb)
    omega
/-- the highest level that leaves it dry, up to j -/
def safeN (p : Nat → Bool) : Nat → Nat
  | 0 => 0
  | j + 1 => if p (j + 1) then safeN p j else j + 1
theorem safeN_up {p : Nat → Bool} (h : ∀ a b, a ≤ b → p a = true → p b = true) : ∀ j k, j ≤ k → (∀ i, j < i → i ≤ k → p i = true) → safeN p k = safeN p j
  | j, 0, hj, _ => by rw [show j = 0 by omega]
  | j, k + 1, hj, hp => by
    by_cases e : j = k + 1
    · rw [e]
    · show (if p (k + 1) then safeN p k else k + 1) = _
      rw [if_pos (hp (k + 1) (by omega) (Nat.le_refl _))]
      exact safeN_up h j k (by omega) (fun i h1 h2 => hp i h1 (by omega))
theorem sim_safe (a1 : Int32) : xSim INV (F_X11_safe 0 a1) (F_X12_safe 164 a1) := by
  refine xSim_qn fun n M hn hI => ?_
  obtain ⟨P, I, J, rfl, hP⟩ := G_mm hI.1
  obtain ⟨t, c, cs, nx, hw, hL, hA, hc, hC, hD, -⟩ := INV_sh hI
  have hN := tN_le hw
  have ic := isCellC (mm_G (I := I) (J := J) hP) hw hL a1
  have hA1 : LandA (xu I 164 0 0 165) 0 t := LandA_cg (A := I 165) hw (fun x _ => xu_o (by omega)) hA
  have hD1 : CoastA (xu I 164 0 0 165) 67 t c := CoastA_cg (A := I 165) hw hc (fun x _ => xu_o (by omega)) hD
  have im := isCellM (mm_G (I := xu I 164 0 0) (J := J) hP) hw (show LandA ((mm P (xu I 164 0 0) J).2.1 165) 0 t from hA1) a1
  by_cases h : 0 ≤ a1.toInt ∧ a1.toInt < tN t
  · rw [if_pos h] at ic im
    obtain ⟨x, hx, rfl⟩ := cell_of h (by omega)
    obtain ⟨I2, b1, b2⟩ := begins_M hP (I := xu I 164 0 0) (J := J) hw hD1
    have hA2 : LandA (I2 165) 0 t := LandA_cg (A := xu I 164 0 0 165) hw (fun x _ => b2.1 _ _ (by omega) (by omega) (by omega) (by omega) (by omega)) hA1
    have wP : ∀ lv, lv < 2 ^ 31 → wetP t (cSand c) lv (wetS t (cSand c) lv) := fun lv hlv => wetP_all hw (cSand c) hc.1 lv hlv
    have wl : ∀ lv, lv < 2 ^ 31 → wetS t (cSand c) lv < 2 ^ 25 := fun lv hlv => wetI_lt hw (wP lv hlv).1
    have K : ∃ p : Nat → Bool, (∀ lv, lv ≤ 10 → p lv = (wetS t (cSand c) lv).testBit x) ∧ (∀ a b, a ≤ b → p a = true → p b = true) ∧ p 0 = false := by
      refine ⟨fun lv => if lv ≤ 10 then (wetS t (cSand c) lv).testBit x else true, fun lv hlv => if_pos hlv, fun a b hab hp => ?_, ?_⟩
      · show (if b ≤ 10 then _ else true) = true
        by_cases hb : b ≤ 10
        · rw [if_pos hb]
          have hp' : (if a ≤ 10 then (wetS t (cSand c) a).testBit x else true) = true := hp
          rw [if_pos (by omega)] at hp'
          exact wet_mono hab (wP a (by omega)) (wP b (by omega)) x hp'
        · rw [if_neg hb]
      · show (if 0 ≤ 10 then (wetS t (cSand c) 0).testBit x else true) = false
        rw [if_pos (by omega)]
        exact wet_0 (wP 0 (by omega))
    obtain ⟨p, p1, p2, p3⟩ := K
    have C : F_X11_safe_15 0 (nI x) 0 1 (mm P I J) = some (nI (safeN p 10), mm P I J) := by
      unfold F_X11_safe_15
      refine xit_run (fun j => (nI (safeN p j), nI (j + 1), mm P I J)) 10 rfl (fun j hj => ?_) ?_ (by omega)
      · have wc := (wet_C hP (I := I) (J := J) (k := 21) (by decide) hw hc hL hC (lv := j + 1) (by omega)).1
        have bt := bitN (s := wetS t (cSand c) (j + 1)) (c := x) (by have := wl (j + 1) (by omega); omega) (by omega)
        rw [← p1 (j + 1) (by omega)] at bt
        have c1 : ¬ (10 : Int32) < nI (j + 1) := nI_nlt (a := 10) (by omega) (by omega)
        simp only [F_X11_safe_15b, F_X11_safe_45, ↓reduceIte, c1, ↓bOC hP, ↓bs wc, bt, nI_1, safeN]
        cases p (j + 1) <;> rfl
      · have c1 : (10 : Int32) < nI (10 + 1) := by decide
        simp only [F_X11_safe_15b, F_X11_safe_51, ↓reduceIte, c1, Option.map_some]
    have D : F_X12_safe_24 164 (nI x) 10 (mm P I2 J) = some (nI (safeN p 10), mm P I2 J) := by
      have key : ∃ r : Int32 × xM, xit (F_X12_safe_24b 164 (nI x)) xFU (nI 10, mm P I2 J) = some r ∧ r = (nI (safeN p 10), mm P I2 J) := by
        refine xit_inv (fun j z => z = (nI (10 - j), mm P I2 J) ∧ ∀ i, 10 - j < i → i ≤ 10 → p i = true) _ 10 ⟨rfl, fun i h1 h2 => by omega⟩ (fun j z hj hq => ?_) (fun z hq => ?_) (by omega)
        · obtain ⟨rfl, q1⟩ := hq
          have wm := (wet_M hP (I := I2) (J := J) (s := cSand c) hw hA2 (fun i hi => ⟨b2.2.1 i hi, hc.1 i hi⟩) (lv := 10 - j) (by omega)).1
          have ii := isInM (m := wetS t (cSand c) (10 - j)) (c := x) (by have := wl (10 - j) (by omega); omega) (by omega) (mm P I2 J)
          rw [← p1 (10 - j) (by omega)] at ii
          cases hp : p (10 - j) with
          | true =>
            rw [hp] at ii
            left
            refine ⟨(nI (10 - (j + 1)), mm P I2 J), ?_, rfl, fun i h1 h2 => ?_⟩
            · have e : nI (10 - j) + (-1) = nI (10 - (j + 1)) := by rw [show 10 - j = (10 - (j + 1)) + 1 by omega, nI_m1]
              simp only [F_X12_safe_24b, ↓bOM hP, ↓bs wm, ↓bs ii, ↓reduceIte, one_ne, e]
            · by_cases e : i = 10 - j
              · rw [e]; exact hp
              · exact q1 i (by omega) h2
          | false =>
            rw [hp] at ii
            right
            refine ⟨(nI (10 - j), mm P I2 J), ?_, ?_⟩
            · simp only [F_X12_safe_24b, F_X12_safe_43, ↓bOM hP, ↓bs wm, ↓bs ii, Bool.false_eq_true, ↓reduceIte, Option.map_some]
            · rw [safeN_up p2 (10 - j) 10 (by omega) q1]
              obtain ⟨y, hy⟩ : ∃ y, 10 - j = y + 1 := ⟨9 - j, by omega⟩
              rw [hy] at hp ⊢
              show _ = (nI (if p (y + 1) then _ else _), _)
              rw [hp]
              rfl
        · obtain ⟨rfl, q1⟩ := hq
          have wm := (wet_M hP (I := I2) (J := J) (s := cSand c) hw hA2 (fun i hi => ⟨b2.2.1 i hi, hc.1 i hi⟩) (lv := 10 - 10) (by omega)).1
          have ii := isInM (m := wetS t (cSand c) (10 - 10)) (c := x) (by have := wl (10 - 10) (by omega); omega) (by omega) (mm P I2 J)
          rw [← p1 (10 - 10) (by omega), show 10 - 10 = 0 from rfl, p3] at ii
          refine ⟨(nI (10 - 10), mm P I2 J), ?_, ?_⟩
          · simp only [F_X12_safe_24b, F_X12_safe_43, ↓bOM hP, ↓bs wm, ↓bs ii, Bool.false_eq_true, ↓reduceIte, Option.map_some]
          · rw [safeN_up p2 (10 - 10) 10 (by omega) q1]
            rfl
      obtain ⟨r, h1, rfl⟩ := key
      exact h1
    refine ⟨nI (safeN p 10), mm P I J, mm P I2 J, ?_, Sc.rf, ?_, ahM_Sc b2⟩
    · simp only [F_X11_safe, ↓bOC hP, ↓bs ic, ↓reduceIte, one_ne, C]
    · simp only [F_X12_safe, ↓bOM hP, ↓bs im, ↓reduceIte, one_ne, ↓bs b1, D]
  · rw [if_neg h] at ic im
    refine ⟨-2, mm P I J, thr (mm P I J), ?_, Sc.rf, ?_, thr_Sc⟩
    · simp only [F_X11_safe, ↓bOC hP, ↓bs ic, ↓reduceIte]
    · simp only [F_X12_safe, ↓bOM hP, ↓bs im, ↓reduceIte, thr_mm]
/-- where the most more is wet -/
def worstN (q : Nat → Nat) : Nat → Int32 × Int32
  | 0 => (1, -1)
  | j + 1 => if nI (q (j + 1)) - nI (q j) ≤ (worstN q j).2 then worstN q j else (nI (j + 1), nI (q (j + 1)) - nI (q j))
theorem sim_worst : xSim INV (F_X11_worst 0) (F_X12_worst 164) := by
  refine xSim_qn fun n M hn hI => ?_
  obtain ⟨P, I, J, rfl, hP⟩ := G_mm hI.1
  obtain ⟨t, c, cs, nx, hw, hL, hA, hc, hC, hD, -⟩ := INV_sh hI
  have hN := tN_le hw
  have hA1 : LandA (xu I 164 0 0 165) 0 t := LandA_cg (A := I 165) hw (fun x _ => xu_o (by omega)) hA
  have hD1 : CoastA (xu I 164 0 0 165) 67 t c := CoastA_cg (A := I 165) hw hc (fun x _ => xu_o (by omega)) hD
  obtain ⟨I2, b1, b2⟩ := begins_M hP (I := xu I 164 0 0) (J := J) hw hD1
  have hA2 : LandA (I2 165) 0 t := LandA_cg (A := xu I 164 0 0 165) hw (fun x _ => b2.1 _ _ (by omega) (by omega) (by omega) (by omega) (by omega)) hA1
  have wl : ∀ lv, lv < 2 ^ 31 → wetS t (cSand c) lv < 2 ^ 25 := fun lv hlv => wetI_lt hw (wetP_all hw (cSand c) hc.1 lv hlv).1
  have wc : ∀ lv, lv < 2 ^ 31 → F_X8_wetAt 14 22 (nI lv) (mm P I J) = some (nI (wetS t (cSand c) lv), mm P I J) := fun lv hlv => (wet_C hP (I := I) (J := J) (k := 21) (by decide) hw hc hL hC (lv := lv) hlv).1
  have wm : ∀ lv, lv < 2 ^ 31 → F_X12_wetOf 164 (nI lv) (mm P I2 J) = some (nI (wetS t (cSand c) lv), mm P I2 J) := fun lv hlv => (wet_M hP (I := I2) (J := J) (s := cSand c) hw hA2 (fun i hi => ⟨b2.2.1 i hi, hc.1 i hi⟩) (lv := lv) hlv).1
  have C : F_X11_worst_26 0 1 (-1) (nI (cntN (wetS t (cSand c) 0) 25)) 1 (mm P I J) = some ((worstN (fun lv => cntN (wetS t (cSand c) lv) 25) 10).1, mm P I J) := by
    unfold F_X11_worst_26
    refine xit_run (fun j => ((worstN (fun lv => cntN (wetS t (cSand c) lv) 25) j).1, (worstN (fun lv => cntN (wetS t (cSand c) lv) 25) j).2, nI (cntN (wetS t (cSand c) j) 25), nI (j + 1), mm P I J)) 10 rfl (fun j hj => ?_) ?_ (by omega)
    · have c1 : ¬ (10 : Int32) < nI (j + 1) := nI_nlt (a := 10) (by omega) (by omega)
      have bc := bitCount_C (wl (j + 1) (by omega)) (mm P I J)
      simp only [F_X11_worst_26b, F_X11_worst_70, ↓reduceIte, c1, ↓bOC hP, ↓bs (wc (j + 1) (by omega)), ↓bs bc, nI_1, ↓Option.bind_some, worstN]
      split <;> rfl
    · have c1 : (10 : Int32) < nI (10 + 1) := by decide
      simp only [F_X11_worst_26b, F_X11_worst_79, ↓reduceIte, c1, Option.map_some]
  have D : F_X12_worst_15 164 1 (-1) 1 (mm P I2 J) = some ((worstN (fun lv => cntN (wetS t (cSand c) lv) 25) 10).1, mm P I2 J) := by
    unfold F_X12_worst_15
    refine xit_run (fun j => ((worstN (fun lv => cntN (wetS t (cSand c) lv) 25) j).1, (worstN (fun lv => cntN (wetS t (cSand c) lv) 25) j).2, nI (j + 1), mm P I2 J)) 10 rfl (fun j hj => ?_) ?_ (by omega)
    · have c1 : ¬ (10 : Int32) < nI (j + 1) := nI_nlt (a := 10) (by omega) (by omega)
      have bc := bitsOf_M (m := wetS t (cSand c) (j + 1)) (by have := wl (j + 1) (by omega); omega) (mm P I2 J)
      have bc0 := bitsOf_M (m := wetS t (cSand c) j) (by have := wl j (by omega); omega) (mm P I2 J)
      unfold F_X12_worst_15b F_X12_worst_56
      simp only [nI_dn1]
      simp only [↓reduceIte, c1, ↓bOM hP, ↓bs (wm (j + 1) (by omega)), ↓bs bc, ↓bs (wm j (by omega)), ↓bs bc0, nI_1, ↓Option.bind_some, worstN]
      by_cases h : nI (cntN (wetS t (cSand c) (j + 1)) 25) - nI (cntN (wetS t (cSand c) j) 25) ≤ (worstN (fun lv => cntN (wetS t (cSand c) lv) 25) j).2
      · rw [if_neg (Int32.not_lt.mpr h), if_pos h]
      · rw [if_pos (Int32.not_le.mp h), if_neg h]
    · have c1 : (10 : Int32) < nI (10 + 1) := by decide
      simp only [F_X12_worst_15b, F_X12_worst_62, ↓reduceIte, c1, Option.map_some]
  have w0 : F_X8_wetAt 14 22 (0 : Int32) (mm P I J) = some (nI (wetS t (cSand c) 0), mm P I J) := wc 0 (by omega)
  have bc0 := bitCount_C (wl 0 (by omega)) (mm P I J)
  refine ⟨(worstN (fun lv => cntN (wetS t (cSand c) lv) 25) 10).1, mm P I J, mm P I2 J, ?_, Sc.rf, ?_, ahM_Sc b2⟩
  · simp only [F_X11_worst, ↓bOC hP, ↓bs w0, ↓bs bc0, C]
  · simp only [F_X12_worst, ↓bOM hP, ↓bs b1, D]
