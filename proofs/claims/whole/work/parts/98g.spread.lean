/-! ===== from one side to those beside it ===== -/
/-- rooms as they may be after some were sent -/
def RoC (t : Txt) (s : Nat → Nat) (lv : Nat) (r : Nat → Nat → Int) : Prop := okR r (r0D t s lv) ∧ ∀ i j, i < 51 → j < 51 → r0D t s lv i j - 500 ≤ r i j
theorem le0_iff {x : Int32} : x ≤ 0 ↔ x.toInt ≤ 0 := by
  rw [Int32.le_iff_toInt_le]
  exact Iff.rfl
theorem LandC_14 {P : Nat → Nat → Option Nat} {I I' : Nat → Nat → Int32} {J : Nat → Nat → Int64} {t : Txt} (hL : LandC (mm P I J) 14 t) (e : ∀ k i, 14 ≤ k → k ≤ 20 → I' k i = I k i) : LandC (mm P I' J) 14 t :=
  LandC_cg (M := mm P I J) (fun j hj => funext fun i => e (14 + j) i (by omega) (by omega)) hL
theorem two_bit {c a : Nat} : (2 ^ c).testBit a = true ↔ c = a := by
  rw [Nat.testBit_two_pow, decide_eq_true_iff]
theorem bes_1c {t : Txt} {c b : Nat} (hw : wfT t) (hc : c < tN t) (hb : b < tN t) : (besM (tR t) (tW t) (2 ^ c)).testBit b = adjB (tW t) c b := by
  rw [Bool.eq_iff_iff]
  refine (bes_bit hw.1.2 hw.2.1.1 hw.2.1.2 (fun a ha => ?_) hb).trans ⟨?_, fun h => ⟨c, two_bit.mpr rfl, h⟩⟩
  · rw [← two_bit.mp ha]; exact hc
  · rintro ⟨a, h1, h2⟩
    rw [two_bit.mp h1]; exact h2
theorem spreadIn_C {P : Nat → Nat → Option Nat} (hP : GP P) {I : Nat → Nat → Int32} {J : Nat → Nat → Int64} {t : Txt} {s : Nat → Nat} {lv : Nat} {r : Nat → Nat → Int} {q : Nat → Nat} {len h c : Nat} (hw : wfT t) (hL : LandC (mm P I J) 14 t) (hg : GhC I t s lv r) (hr : RoC t s lv r) (hlv : lv ≤ 10) (hq : QuC r I q len) (h0 : 0 < h) (hh : h < len) (hc : c < tN t) (hqc : q h = 2 * c) :
    ∃ I' q' len', F_X1_spreadIn 114 14 (nI c) (mm P I J) = some (mm P I' J) ∧ QuC r I' q' len' ∧ len ≤ len' ∧ (∀ i, i < len → q' i = q i) ∧ frC I I' ∧ ∀ w, w < 50 → 0 < r (q h) w → ¬ I' 118 w = -1 := by
  have hN := tN_le hw
  have ix3 : ∀ d, (2 : Int32) * nI d = nI (2 * d) := fun d => pk_mul 2 d
  have pc : 2 ^ c < 2 ^ 25 := Nat.pow_lt_pow_right (by omega) (by omega)
  -- the cell itself
  have first : ∃ I' q' len', F_X1_spreadIn 114 14 (nI c) (mm P I J) = F_X1_spreadIn_27 114 14 (nI c) (mm P I' J) ∧ QuC r I' q' len' ∧ len ≤ len' ∧ (∀ i, i < len → q' i = q i) ∧ frC I I' ∧ (0 < r (2 * c) (2 * c + 1) → ¬ I' 118 (2 * c + 1) = -1) := by
    have e1 := hg.1 c hc
    have e2 := hg.2.1 c hc
    have e3 := (hr.1 (2 * c) (2 * c + 1) (by omega) (by omega)).2
    rw [r2_in hw hc] at e3
    have rm : (nI (lv - s c)).toInt = ((lv - s c : Nat) : Int) := nI_toInt (by omega)
    by_cases hx : I 115 c ≤ I 116 c
    · refine ⟨I, q, len, ?_, hq, Nat.le_refl _, fun _ _ => rfl, frC.rf, fun hp => ?_⟩
      · unfold F_X1_spreadIn
        simp (disch := omega) only [↓bOX hP, ↓bAX, hx, ↓reduceIte]
      · have := Int32.le_iff_toInt_le.mp hx
        rw [e1, rm] at this
        omega
    · have hp : 0 < r (q h) (2 * c + 1) := by
        rw [hqc]
        have : ¬ (I 115 c).toInt ≤ (I 116 c).toInt := fun z => hx (Int32.le_iff_toInt_le.mpr z)
        rw [e1, rm] at this
        omega
      obtain ⟨I1, q1, l1, a1, a2, a3, a4, a5, a6⟩ := enq_C hP (J := J) hq hh (show 2 * c + 1 < 50 by omega) (show 2 * c = if h = 0 then 2 * c + 1 else q h by rw [if_neg (by omega), hqc]) hp
      refine ⟨I1, q1, l1, ?_, a2, a3, a4, a5, fun _ => a6⟩
      unfold F_X1_spreadIn
      simp (disch := omega) only [↓bOX hP, ↓bAX, hx, ↓reduceIte, ix3, nI_1, bs a1]
  obtain ⟨I1, q1, l1, a1, a2, a3, a4, a5, a6⟩ := first
  have hL1 : LandC (mm P I1 J) 14 t := LandC_14 hL (fun k i h1 h2 => a5.1 k i (by omega) (by omega) (by omega))
  obtain ⟨b1, b2⟩ := besides_C hP (I := I1) (J := J) hw hL1 pc
  have key : ∃ z : xM, xit (F_X1_spreadIn_38b 114 14 (nI c) (nI (besM (tR t) (tW t) (2 ^ c)))) xFU (nI 0, mm P I1 J) = some z ∧ (∃ I' q' len', z = mm P I' J ∧ QuC r I' q' len' ∧ len ≤ len' ∧ (∀ i, i < len → q' i = q i) ∧ frC I1 I' ∧ ∀ d, d < tN t → adjB (tW t) c d = true → 0 < r (2 * c) (2 * d + 1) → ¬ I' 118 (2 * d + 1) = -1) := by
    refine xit_inv (fun b z => ∃ I' q' len', z = (nI b, mm P I' J) ∧ QuC r I' q' len' ∧ len ≤ len' ∧ (∀ i, i < len → q' i = q i) ∧ frC I1 I' ∧ ∀ d, d < b → adjB (tW t) c d = true → 0 < r (2 * c) (2 * d + 1) → ¬ I' 118 (2 * d + 1) = -1) _ (tN t) ⟨I1, q1, l1, rfl, a2, a3, a4, frC.rf, fun d hd => by omega⟩ (fun b z hb hz => ?_) (fun z hz => ?_) (by omega)
    · obtain ⟨I2, q2, l2, rfl, g1, g2, g3, g4, g5⟩ := hz
      left
      have hL2 : LandC (mm P I2 J) 14 t := LandC_14 hL1 (fun k i h1 h2 => g4.1 k i (by omega) (by omega) (by omega))
      have cl := cellsC (mm_G (I := I2) (J := J) hP) hL2
      have c1 : ¬ nI (tN t) ≤ nI b := nI_ge hb (by omega)
      have bt := bitN (s := besM (tR t) (tW t) (2 ^ c)) (c := b) b2 (by omega)
      rw [bes_1c hw hc hb] at bt
      have ix : (nI b * (25 : Int32)) + nI c = nI (25 * b + c) := by rw [show (25 : Int32) = nI 25 from rfl, pk_mul, nI_add, Nat.mul_comm]
      have next : ∀ {I3 q3 l3}, QuC r I3 q3 l3 → l2 ≤ l3 → (∀ i, i < l2 → q3 i = q2 i) → frC I2 I3 → (adjB (tW t) c b = true → 0 < r (2 * c) (2 * b + 1) → ¬ I3 118 (2 * b + 1) = -1) → F_X1_spreadIn_38b 114 14 (nI c) (nI (besM (tR t) (tW t) (2 ^ c))) (nI b, mm P I2 J) = some (.inl (nI (b + 1), mm P I3 J)) →
          ∃ s', F_X1_spreadIn_38b 114 14 (nI c) (nI (besM (tR t) (tW t) (2 ^ c))) (nI b, mm P I2 J) = some (.inl s') ∧ ∃ I' q' len', s' = (nI (b + 1), mm P I' J) ∧ QuC r I' q' len' ∧ len ≤ len' ∧ (∀ i, i < len → q' i = q i) ∧ frC I1 I' ∧ ∀ d, d < b + 1 → adjB (tW t) c d = true → 0 < r (2 * c) (2 * d + 1) → ¬ I' 118 (2 * d + 1) = -1 := by
        intro I3 q3 l3 n1 n2 n3 n4 n5 n6
        refine ⟨_, n6, I3, q3, l3, rfl, n1, by omega, fun i hi => by rw [n3 i (by omega), g3 i hi], g4.tr n4, fun d hd h1 h2 => ?_⟩
        by_cases e : d = b
        · rw [e] at h1 h2 ⊢
          exact n5 h1 h2
        · exact n4.2 _ (g5 d (by omega) h1 h2)
      cases hb2 : adjB (tW t) c b with
      | false =>
        rw [hb2, if_neg (by decide)] at bt
        refine next g1 (Nat.le_refl _) (fun _ _ => rfl) frC.rf (fun z => by rw [hb2] at z; cases z) ?_
        unfold F_X1_spreadIn_38b F_X1_spreadIn_84
        simp (disch := omega) only [↓bOC hP, ↓bs cl, c1, ↓reduceIte, bt, nI_1]
      | true =>
        rw [hb2, if_pos rfl] at bt
        have e117 : (I2 117 (25 * b + c)).toInt = r (2 * c) (2 * b + 1) := by
          rw [g4.1 117 _ (by omega) (by omega) (by omega), a5.1 117 _ (by omega) (by omega) (by omega)]
          exact hg.2.2 b c hb hc hb2
        by_cases hx : I2 117 (25 * b + c) ≤ 0
        · refine next g1 (Nat.le_refl _) (fun _ _ => rfl) frC.rf (fun _ z => ?_) ?_
          · have := le0_iff.mp hx
            rw [e117] at this
            omega
          · unfold F_X1_spreadIn_38b F_X1_spreadIn_84
            simp (disch := omega) only [↓bOC hP, ↓bs cl, c1, ↓reduceIte, bt, one_ne, ↓bOX hP, ix, ↓bAX, hx, nI_1]
        · have hp : 0 < r (q2 h) (2 * b + 1) := by
            rw [g3 h hh, hqc]
            have : ¬ (I2 117 (25 * b + c)).toInt ≤ 0 := fun z => hx (le0_iff.mpr z)
            rw [e117] at this
            omega
          obtain ⟨I3, q3, l3, n1, n2, n3, n4, n5, n6⟩ := enq_C hP (J := J) g1 (show h < l2 by omega) (show 2 * b + 1 < 50 by omega) (show 2 * c = if h = 0 then 2 * b + 1 else q2 h by rw [if_neg (by omega), g3 h hh, hqc]) hp
          refine next n2 n3 n4 n5 (fun _ _ => n6) ?_
          unfold F_X1_spreadIn_38b F_X1_spreadIn_84
          simp (disch := omega) only [↓bOC hP, ↓bs cl, c1, ↓reduceIte, bt, one_ne, ↓bOX hP, ix, ↓bAX, hx, ix3, nI_1, bs n1]
    · obtain ⟨I2, q2, l2, rfl, g1, g2, g3, g4, g5⟩ := hz
      have hL2 : LandC (mm P I2 J) 14 t := LandC_14 hL1 (fun k i h1 h2 => g4.1 k i (by omega) (by omega) (by omega))
      have cl := cellsC (mm_G (I := I2) (J := J) hP) hL2
      have c1 : nI (tN t) ≤ nI (tN t) := nI_le (Nat.le_refl _) (by omega)
      refine ⟨mm P I2 J, ?_, I2, q2, l2, rfl, g1, g2, g3, g4, g5⟩
      unfold F_X1_spreadIn_38b F_X1_spreadIn_90
      simp (disch := omega) only [↓bOC hP, ↓bs cl, c1, ↓reduceIte, Option.map_some]
  obtain ⟨z, k1, I2, q2, l2, rfl, g1, g2, g3, g4, g5⟩ := key
  refine ⟨I2, q2, l2, ?_, g1, g2, g3, a5.tr g4, fun w hw50 hp => ?_⟩
  · rw [a1]
    unfold F_X1_spreadIn_27
    rw [one_shl (by omega)]
    simp only [↓bs b1]
    exact k1
  · rw [hqc] at hp
    have ok := hr.1 (2 * c) w (by omega) (by omega)
    have ok2 := hr.1 w (2 * c) (by omega) (by omega)
    rcases r2_pos hw (show 2 * c < 51 by omega) (show w < 51 by omega) (s := s) (lv := lv) (by omega) with z | z | ⟨z1, z2, z3, z4, z5, z6⟩
    · omega
    · omega
    · obtain ⟨d, hd⟩ : ∃ d, w = 2 * d + 1 := ⟨w / 2, by omega⟩
      subst hd
      rw [show 2 * c / 2 = c by omega, show (2 * d + 1) / 2 = d by omega] at z6
      rcases z6 with z6 | z6
      · subst z6
        exact g4.2 _ (a6 hp)
      · exact g5 d (by omega) z6 hp
theorem spreadOut_C {P : Nat → Nat → Option Nat} (hP : GP P) {I : Nat → Nat → Int32} {J : Nat → Nat → Int64} {t : Txt} {s : Nat → Nat} {lv : Nat} {r : Nat → Nat → Int} {q : Nat → Nat} {len h c : Nat} (hw : wfT t) (hL : LandC (mm P I J) 14 t) (hg : GhC I t s lv r) (hr : RoC t s lv r) (hq : QuC r I q len) (h0 : 0 < h) (hh : h < len) (hc : c < tN t) (hqc : q h = 2 * c + 1) :
    ∃ I' q' len', F_X1_spreadOut 114 14 (nI c) (mm P I J) = some (mm P I' J) ∧ QuC r I' q' len' ∧ len ≤ len' ∧ (∀ i, i < len → q' i = q i) ∧ frC I I' ∧ ∀ w, w < 50 → 0 < r (q h) w → ¬ I' 118 w = -1 := by
  have hN := tN_le hw
  have ix2 : (2 : Int32) * nI c + (1 : Int32) = nI (2 * c + 1) := by rw [show (2 : Int32) = nI 2 from rfl, pk_mul, nI_1]
  have ix3 : ∀ d, (2 : Int32) * nI d = nI (2 * d) := fun d => pk_mul 2 d
  have pc : 2 ^ c < 2 ^ 25 := Nat.pow_lt_pow_right (by omega) (by omega)
  have first : ∃ I' q' len', F_X1_spreadOut 114 14 (nI c) (mm P I J) = F_X1_spreadOut_21 114 14 (nI c) (mm P I' J) ∧ QuC r I' q' len' ∧ len ≤ len' ∧ (∀ i, i < len → q' i = q i) ∧ frC I I' ∧ (0 < r (2 * c + 1) (2 * c) → ¬ I' 118 (2 * c) = -1) := by
    have e2 := hg.2.1 c hc
    by_cases hx : I 116 c ≤ 0
    · refine ⟨I, q, len, ?_, hq, Nat.le_refl _, fun _ _ => rfl, frC.rf, fun hp => ?_⟩
      · unfold F_X1_spreadOut
        simp (disch := omega) only [↓bOX hP, ↓bAX, hx, ↓reduceIte]
      · have := le0_iff.mp hx
        omega
    · have hp : 0 < r (q h) (2 * c) := by
        rw [hqc]
        have : ¬ (I 116 c).toInt ≤ 0 := fun z => hx (le0_iff.mpr z)
        omega
      obtain ⟨I1, q1, l1, a1, a2, a3, a4, a5, a6⟩ := enq_C hP (J := J) hq hh (show 2 * c < 50 by omega) (show 2 * c + 1 = if h = 0 then 2 * c else q h by rw [if_neg (by omega), hqc]) hp
      refine ⟨I1, q1, l1, ?_, a2, a3, a4, a5, fun _ => a6⟩
      unfold F_X1_spreadOut
      rw [ix2, ix3] 
      simp (disch := omega) only [↓bOX hP, ↓bAX, hx, ↓reduceIte, ↓bs a1]
  obtain ⟨I1, q1, l1, a1, a2, a3, a4, a5, a6⟩ := first
  have hL1 : LandC (mm P I1 J) 14 t := LandC_14 hL (fun k i h1 h2 => a5.1 k i (by omega) (by omega) (by omega))
  obtain ⟨b1, b2⟩ := besides_C hP (I := I1) (J := J) hw hL1 pc
  have key : ∃ z : xM, xit (F_X1_spreadOut_32b 114 14 (nI c) (nI (besM (tR t) (tW t) (2 ^ c)))) xFU (nI 0, mm P I1 J) = some z ∧ (∃ I' q' len', z = mm P I' J ∧ QuC r I' q' len' ∧ len ≤ len' ∧ (∀ i, i < len → q' i = q i) ∧ frC I1 I' ∧ ∀ d, d < tN t → adjB (tW t) c d = true → ¬ I' 118 (2 * d) = -1) := by
    refine xit_inv (fun b z => ∃ I' q' len', z = (nI b, mm P I' J) ∧ QuC r I' q' len' ∧ len ≤ len' ∧ (∀ i, i < len → q' i = q i) ∧ frC I1 I' ∧ ∀ d, d < b → adjB (tW t) c d = true → ¬ I' 118 (2 * d) = -1) _ (tN t) ⟨I1, q1, l1, rfl, a2, a3, a4, frC.rf, fun d hd => by omega⟩ (fun b z hb hz => ?_) (fun z hz => ?_) (by omega)
    · obtain ⟨I2, q2, l2, rfl, g1, g2, g3, g4, g5⟩ := hz
      left
      have hL2 : LandC (mm P I2 J) 14 t := LandC_14 hL1 (fun k i h1 h2 => g4.1 k i (by omega) (by omega) (by omega))
      have cl := cellsC (mm_G (I := I2) (J := J) hP) hL2
      have c1 : ¬ nI (tN t) ≤ nI b := nI_ge hb (by omega)
      have bt := bitN (s := besM (tR t) (tW t) (2 ^ c)) (c := b) b2 (by omega)
      rw [bes_1c hw hc hb] at bt
      cases hb2 : adjB (tW t) c b with
      | false =>
        rw [hb2, if_neg (by decide)] at bt
        refine ⟨(nI (b + 1), mm P I2 J), ?_, I2, q2, l2, rfl, g1, g2, g3, g4, fun d hd h1 => ?_⟩
        · unfold F_X1_spreadOut_32b F_X1_spreadOut_63
          simp (disch := omega) only [↓bOC hP, ↓bs cl, c1, ↓reduceIte, bt, nI_1]
        · by_cases e : d = b
          · rw [e, hb2] at h1
            cases h1
          · exact g5 d (by omega) h1
      | true =>
        rw [hb2, if_pos rfl] at bt
        have hp : 0 < r (q2 h) (2 * b) := by
          rw [g3 h hh, hqc]
          have := hr.2 (2 * c + 1) (2 * b) (by omega) (by omega)
          rw [r0D_out hc, if_pos ⟨by omega, by omega, by rw [show 2 * b / 2 = b by omega, adj_sym]; exact hb2⟩] at this
          omega
        obtain ⟨I3, q3, l3, n1, n2, n3, n4, n5, n6⟩ := enq_C hP (J := J) g1 (show h < l2 by omega) (show 2 * b < 50 by omega) (show 2 * c + 1 = if h = 0 then 2 * b else q2 h by rw [if_neg (by omega), g3 h hh, hqc]) hp
        refine ⟨(nI (b + 1), mm P I3 J), ?_, I3, q3, l3, rfl, n2, by omega, fun i hi => by rw [n4 i (by omega), g3 i hi], g4.tr n5, fun d hd h1 => ?_⟩
        · unfold F_X1_spreadOut_32b F_X1_spreadOut_63
          simp (disch := omega) only [↓bOC hP, ↓bs cl, c1, ↓reduceIte, bt, one_ne, ↓bOX hP, ix3, nI_1, bs n1]
        · by_cases e : d = b
          · rw [e]; exact n6
          · exact n5.2 _ (g5 d (by omega) h1)
    · obtain ⟨I2, q2, l2, rfl, g1, g2, g3, g4, g5⟩ := hz
      have hL2 : LandC (mm P I2 J) 14 t := LandC_14 hL1 (fun k i h1 h2 => g4.1 k i (by omega) (by omega) (by omega))
      have cl := cellsC (mm_G (I := I2) (J := J) hP) hL2
      have c1 : nI (tN t) ≤ nI (tN t) := nI_le (Nat.le_refl _) (by omega)
      refine ⟨mm P I2 J, ?_, I2, q2, l2, rfl, g1, g2, g3, g4, g5⟩
      unfold F_X1_spreadOut_32b F_X1_spreadOut_69
      simp (disch := omega) only [↓bOC hP, ↓bs cl, c1, ↓reduceIte, Option.map_some]
  obtain ⟨z, k1, I2, q2, l2, rfl, g1, g2, g3, g4, g5⟩ := key
  refine ⟨I2, q2, l2, ?_, g1, g2, g3, a5.tr g4, fun w hw50 hp => ?_⟩
  · rw [a1]
    unfold F_X1_spreadOut_21
    rw [one_shl (by omega)]
    simp only [↓bs b1]
    exact k1
  · rw [hqc] at hp
    have ok := hr.1 (2 * c + 1) w (by omega) (by omega)
    have ok2 := hr.1 w (2 * c + 1) (by omega) (by omega)
    rcases r2_pos hw (show 2 * c + 1 < 51 by omega) (show w < 51 by omega) (s := s) (lv := lv) (by omega) with z | z | ⟨z1, z2, z3, z4, z5, z6⟩
    · omega
    · omega
    · obtain ⟨d, hd⟩ : ∃ d, w = 2 * d := ⟨w / 2, by omega⟩
      subst hd
      rw [show (2 * c + 1) / 2 = c by omega, show 2 * d / 2 = d by omega] at z6
      rcases z6 with z6 | z6
      · subst z6
        exact g4.2 _ (a6 hp)
      · exact g5 d (by omega) z6
/-! ===== the search, to its end ===== -/
theorem QuC_cell {t : Txt} {s : Nat → Nat} {lv : Nat} {r : Nat → Nat → Int} {I : Nat → Nat → Int32} {q : Nat → Nat} {len i : Nat} (hw : wfT t) (hr : RoC t s lv r) (hq : QuC r I q len) (h0 : 0 < i) (hi : i < len) : q i / 2 < tN t := by
  have hWN := tW_tN hw
  obtain ⟨p, p1, p2, p3⟩ := hq.2.2.2.2.2.2.2 i h0 hi
  have qi := (hq.2.2.2.2.1 i h0 hi).1
  have qp : q p < 51 := by
    by_cases e : p = 0
    · rw [e, hq.2.1]; omega
    · have := (hq.2.2.2.2.1 p (by omega) (by omega)).1
      omega
  have ok := hr.1 (q p) (q i) qp (by omega)
  have ok2 := hr.1 (q i) (q p) (by omega) qp
  rcases r2_pos hw qp (show q i < 51 by omega) (s := s) (lv := lv) (by omega) with z | z | z
  · omega
  · omega
  · exact z.2.1
def EndC (r : Nat → Nat → Int) (I I' : Nat → Nat → Int32) (q : Nat → Nat) (len : Nat) : Prop := QuC r I' q len ∧ (∀ a i, a ≠ 118 → a ≠ 119 → ¬ (a = 114 ∧ i = 5) → I' a i = I a i) ∧ ∀ i w, i < len → w < 50 → 0 < r (q i) w → ¬ I' 118 w = -1
theorem reach101 {P : Nat → Nat → Option Nat} (hP : GP P) {I : Nat → Nat → Int32} {J : Nat → Nat → Int64} {x : Nat} (hx : x < 25) : F_X1_reaches_101 114 (nI x) (mm P I J) = some (if I 118 (2 * x + 1) = -1 then 0 else 1, mm P I J) := by
  have ix2 : (2 : Int32) * nI x + (1 : Int32) = nI (2 * x + 1) := by rw [show (2 : Int32) = nI 2 from rfl, pk_mul, nI_1]
  unfold F_X1_reaches_101
  by_cases h : I 118 (2 * x + 1) = -1
  · simp (disch := omega) only [↓bOX hP, ix2, ↓bAX, h, ↓reduceIte, xz0, Option.bind_some]
  · simp (disch := omega) only [↓bOX hP, ix2, ↓bAX, h, ↓reduceIte, xz1, Option.bind_some]
theorem reach41 {P : Nat → Nat → Option Nat} (hP : GP P) {I : Nat → Nat → Int32} {J : Nat → Nat → Int64} {t : Txt} {s : Nat → Nat} {lv : Nat} {r : Nat → Nat → Int} {q : Nat → Nat} {len x : Nat} (hw : wfT t) (hL : LandC (mm P I J) 14 t) (hg : GhC I t s lv r) (hr : RoC t s lv r) (hlv : lv ≤ 10) (hq : QuC r I q len) (hx : x < 25) (h50 : ∀ w, w < 50 → 0 < r 50 w → ¬ I 118 w = -1) :
    ∃ I' q' len', F_X1_reaches_41 114 14 (nI x) 0 (mm P I J) = some (if I' 118 (2 * x + 1) = -1 then 0 else 1, mm P I' J) ∧ EndC r I I' q' len' := by
  have key : ∃ z : Int32 × xM, xit (F_X1_reaches_41b 114 14 (nI x)) xFU (nI 0, mm P I J) = some z ∧ (∃ I' q' len', z = (if I' 118 (2 * x + 1) = -1 then 0 else 1, mm P I' J) ∧ EndC r I I' q' len') := by
    refine xit_inv (fun j z => ∃ I' q' len', z = (nI j, mm P I' J) ∧ QuC r I' q' len' ∧ j + 1 ≤ len' ∧ frC I I' ∧ ∀ i w, i < j + 1 → w < 50 → 0 < r (q' i) w → ¬ I' 118 w = -1) _ 50 ⟨I, q, len, rfl, hq, by have := hq.1; omega, frC.rf, fun i w hi hw50 hp => by
      rw [show i = 0 by omega, hq.2.1] at hp
      exact h50 w hw50 hp⟩ (fun j z hj hz => ?_) (fun z hz => ?_) (by omega)
    · obtain ⟨I1, q1, l1, rfl, g1, g2, g3, g4⟩ := hz
      have l51 : l1 ≤ 51 := by have := g1.2.2.1; omega
      have c0 : ¬ (50 : Int32) ≤ nI j := nI_ge (b := 50) hj (by omega)
      have w5 := g1.2.2.2.1
      by_cases e : l1 - 1 ≤ j
      · right
        have c1 : nI (l1 - 1) ≤ nI j := nI_le e (by omega)
        refine ⟨(if I1 118 (2 * x + 1) = -1 then 0 else 1, mm P I1 J), ?_, I1, q1, l1, rfl, g1, g3.1, fun i w hi => g4 i w (by omega)⟩
        unfold F_X1_reaches_41b
        simp (disch := omega) only [c0, ↓reduceIte, ↓bOX hP, w5, c1, reach101 hP hx, Option.map_some]
      · left
        have c1 : ¬ nI (l1 - 1) ≤ nI j := nI_ge (by omega) (by omega)
        obtain ⟨u1, u2, u3⟩ := g1.2.2.2.2.1 (j + 1) (by omega) (by omega)
        rw [show j + 1 - 1 = j by omega] at u2
        have cell := QuC_cell hw hr g1 (show 0 < j + 1 by omega) (show j + 1 < l1 by omega)
        have rm := pk_rem (a := q1 (j + 1)) (d := 2) (by omega) (by omega) (by omega)
        have dv := pk_div (a := q1 (j + 1)) (d := 2) (by omega) (by omega) (by omega)
        have dv' : nI (q1 (j + 1)) / (2 : Int32) = nI (q1 (j + 1) / 2) := dv
        have rm' : nI (q1 (j + 1)) - nI (q1 (j + 1) / 2) * (2 : Int32) = nI (q1 (j + 1) % 2) := by rw [← dv']; exact rm
        have hL1 : LandC (mm P I1 J) 14 t := LandC_14 hL (fun k i h1 h2 => g3.1 k i (by omega) (by omega) (by omega))
        have hg1 : GhC I1 t s lv r := GhC_fr hg (fun i => g3.1 _ _ (by omega) (by omega) (by omega)) (fun i => g3.1 _ _ (by omega) (by omega) (by omega)) (fun i => g3.1 _ _ (by omega) (by omega) (by omega))
        have fin : ∀ {I2 q2 l2}, QuC r I2 q2 l2 → l1 ≤ l2 → (∀ i, i < l1 → q2 i = q1 i) → frC I1 I2 → (∀ w, w < 50 → 0 < r (q1 (j + 1)) w → ¬ I2 118 w = -1) → F_X1_reaches_41b 114 14 (nI x) (nI j, mm P I1 J) = some (.inl (nI (j + 1), mm P I2 J)) →
            ∃ s', F_X1_reaches_41b 114 14 (nI x) (nI j, mm P I1 J) = some (.inl s') ∧ ∃ I' q' len', s' = (nI (j + 1), mm P I' J) ∧ QuC r I' q' len' ∧ j + 1 + 1 ≤ len' ∧ frC I I' ∧ ∀ i w, i < j + 1 + 1 → w < 50 → 0 < r (q' i) w → ¬ I' 118 w = -1 := by
          intro I2 q2 l2 n1 n2 n3 n4 n5 n6
          refine ⟨_, n6, I2, q2, l2, rfl, n1, by omega, g3.tr n4, fun i w hi hw50 hp => ?_⟩
          rw [n3 i (by omega)] at hp
          by_cases e2 : i = j + 1
          · rw [e2] at hp
            exact n5 w hw50 hp
          · exact n4.2 _ (g4 i w (by omega) hw50 hp)
        by_cases par : q1 (j + 1) % 2 = 0
        · obtain ⟨I2, q2, l2, n1, n2, n3, n4, n5, n6⟩ := spreadIn_C hP (J := J) hw hL1 hg1 hr hlv g1 (show 0 < j + 1 by omega) (show j + 1 < l1 by omega) cell (by omega)
          refine fin n2 n3 n4 n5 n6 ?_
          have p0 : nI (q1 (j + 1) % 2) = 0 := by rw [par]; rfl
          unfold F_X1_reaches_41b F_X1_reaches_95
          simp (disch := omega) only [c0, ↓reduceIte, ↓bOX hP, w5, c1, ↓bAX, u2, rm', p0, dv', ↓bs n1, nI_1]
        · obtain ⟨I2, q2, l2, n1, n2, n3, n4, n5, n6⟩ := spreadOut_C hP (J := J) hw hL1 hg1 hr g1 (show 0 < j + 1 by omega) (show j + 1 < l1 by omega) cell (by omega)
          refine fin n2 n3 n4 n5 n6 ?_
          have p0 : ¬ nI (q1 (j + 1) % 2) = 0 := nI_ne0 (by omega) (by omega)
          unfold F_X1_reaches_41b F_X1_reaches_95
          simp (disch := omega) only [c0, ↓reduceIte, ↓bOX hP, w5, c1, ↓bAX, u2, rm', p0, dv', ↓bs n1, nI_1]
    · obtain ⟨I1, q1, l1, rfl, g1, g2, g3, g4⟩ := hz
      have l51 : l1 ≤ 51 := by have := g1.2.2.1; omega
      have c0 : (50 : Int32) ≤ nI 50 := by decide
      refine ⟨(if I1 118 (2 * x + 1) = -1 then 0 else 1, mm P I1 J), ?_, I1, q1, l1, rfl, g1, g3.1, fun i w hi => g4 i w (by omega)⟩
      unfold F_X1_reaches_41b
      simp (disch := omega) only [c0, ↓reduceIte, reach101 hP hx, Option.map_some]
  obtain ⟨z, k1, I', q', l', rfl, k2⟩ := key
  exact ⟨I', q', l', k1, k2⟩
theorem reach_C {P : Nat → Nat → Option Nat} (hP : GP P) {I : Nat → Nat → Int32} {J : Nat → Nat → Int64} {t : Txt} {s : Nat → Nat} {lv : Nat} {r : Nat → Nat → Int} {x : Nat} (hw : wfT t) (hL : LandC (mm P I J) 14 t) (hg : GhC I t s lv r) (hr : RoC t s lv r) (hlv : lv ≤ 10) (hx : x < 25) :
    ∃ I' q' len', F_X1_reaches 114 14 (nI x) (mm P I J) = some (if I' 118 (2 * x + 1) = -1 then 0 else 1, mm P I' J) ∧ EndC r I I' q' len' := by
  have hN := tN_le hw
  have hWN := tW_tN hw
  obtain ⟨I0, hI0⟩ : ∃ I0, I0 = xu (xfl I 118 0 50 (-1)) 114 5 0 := ⟨_, rfl⟩
  have f0 : ∀ a i, a ≠ 118 → a ≠ 119 → ¬ (a = 114 ∧ i = 5) → I0 a i = I a i := fun a i h1 h2 h3 => by
    rw [hI0, xu_o (by omega)]
    unfold xfl
    rw [if_neg (by omega)]
  have c118 : ∀ u, u < 50 → I0 118 u = -1 := fun u hu => by
    rw [hI0, xu_o (by omega)]
    unfold xfl
    rw [if_pos (by omega)]
  have qu : QuC r I0 (fun _ => 50) 1 := by
    refine ⟨by omega, rfl, ?_, by rw [hI0, xu_self]; rfl, fun i h0 hi => by omega, fun i j hi hj _ => by omega, fun u hu hn => absurd (c118 u hu) hn, fun i h0 hi => by omega⟩
    unfold unC
    rw [sumN_cg (g := fun _ => 1) 50 (fun p hp => by rw [c118 p hp, if_pos rfl]), sum1]
  have ln : LandC (mm P I0 J) 14 t := LandC_14 hL (fun k i h1 h2 => f0 k i (by omega) (by omega) (by omega))
  have key : ∃ z : Int32 × xM, xit (F_X1_reaches_15b 114 14 (nI x)) xFU (nI 0, mm P I0 J) = some z ∧ (∃ I' q' len', z = (if I' 118 (2 * x + 1) = -1 then 0 else 1, mm P I' J) ∧ EndC r I I' q' len') := by
    refine xit_inv (fun j z => ∃ I' q' len', z = (nI j, mm P I' J) ∧ QuC r I' q' len' ∧ frC I0 I' ∧ ∀ d, d < j → ¬ I' 118 (2 * d) = -1) _ (tW t) ⟨I0, _, 1, rfl, qu, frC.rf, fun d hd => by omega⟩ (fun j z hj hz => ?_) (fun z hz => ?_) (by omega)
    · obtain ⟨I1, q1, l1, rfl, g1, g2, g3⟩ := hz
      left
      have l1' : I1 14 1 = nI (tW t) := by rw [g2.1 _ _ (by omega) (by omega) (by omega)]; exact ln.2.1
      have c1 : ¬ nI (tW t) ≤ nI j := nI_ge hj (by omega)
      have hp : 0 < r (q1 0) (2 * j) := by
        rw [g1.2.1]
        have := hr.2 50 (2 * j) (by omega) (by omega)
        rw [r0D_50, if_pos (by omega)] at this
        omega
      obtain ⟨I2, q2, l2, n1, n2, n3, n4, n5, n6⟩ := enq_C hP (J := J) g1 (show 0 < l1 from g1.1) (show 2 * j < 50 by omega) (b := 2 * j) rfl hp
      have ix3 : (2 : Int32) * nI j = nI (2 * j) := pk_mul 2 j
      refine ⟨(nI (j + 1), mm P I2 J), ?_, I2, q2, l2, rfl, n2, g2.tr n5, fun d hd => ?_⟩
      · unfold F_X1_reaches_15b
        simp (disch := omega) only [↓bOC hP, l1', c1, ↓reduceIte, ↓bOX hP, ix3, ↓bs n1, nI_1]
      · by_cases e : d = j
        · rw [e]; exact n6
        · exact n5.2 _ (g3 d (by omega))
    · obtain ⟨I1, q1, l1, rfl, g1, g2, g3⟩ := hz
      have l1' : I1 14 1 = nI (tW t) := by rw [g2.1 _ _ (by omega) (by omega) (by omega)]; exact ln.2.1
      have c1 : nI (tW t) ≤ nI (tW t) := nI_le (Nat.le_refl _) (by omega)
      have fr : ∀ a i, a ≠ 118 → a ≠ 119 → ¬ (a = 114 ∧ i = 5) → I1 a i = I a i := fun a i h1 h2 h3 => by rw [g2.1 a i h1 h2 h3, f0 a i h1 h2 h3]
      have hL1 : LandC (mm P I1 J) 14 t := LandC_14 hL (fun k i h1 h2 => fr k i (by omega) (by omega) (by omega))
      have hg1 : GhC I1 t s lv r := GhC_fr hg (fun i => fr _ _ (by omega) (by omega) (by omega)) (fun i => fr _ _ (by omega) (by omega) (by omega)) (fun i => fr _ _ (by omega) (by omega) (by omega))
      obtain ⟨I2, q2, l2, n1, n2, n3, n4⟩ := reach41 hP (J := J) hw hL1 hg1 hr hlv g1 hx (fun w hw50 hp => by
        have ok := hr.1 50 w (by omega) (by omega)
        have ok2 := hr.1 w 50 (by omega) (by omega)
        rcases r2_pos hw (show 50 < 51 by omega) (show w < 51 by omega) (s := s) (lv := lv) (by omega) with z | z | z
        · have := g3 (w / 2) z.2.2
          rw [show 2 * (w / 2) = w by omega] at this
          exact this
        · omega
        · omega)
      refine ⟨(if I2 118 (2 * x + 1) = -1 then 0 else 1, mm P I2 J), ?_, I2, q2, l2, rfl, n2, fun a i h1 h2 h3 => by rw [n3 a i h1 h2 h3, fr a i h1 h2 h3], n4⟩
      unfold F_X1_reaches_15b F_X1_reaches_39
      simp (disch := omega) only [↓bOC hP, l1', c1, ↓reduceIte, n1, Option.map_some]
  obtain ⟨z, k1, I', q', l', rfl, k2⟩ := key
  refine ⟨I', q', l', ?_, k2⟩
  have fl : F_J7_fill_53178 118 (-1) (mm P I J) = some (mm P (xfl I 118 0 50 (-1)) J) := fillI (mm_G hP) (by decide +kernel) (by omega) (-1)
  unfold F_X1_reaches
  simp (disch := omega) only [↓bOX hP, ↓bs fl]
  rw [← hI0]
  exact k1
