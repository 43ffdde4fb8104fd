/-! ===== longs that are small numbers ===== -/
def nJ (n : Nat) : Int64 := Int64.ofNat n
theorem nJ_toInt {n : Nat} (h : n < 2 ^ 63) : (nJ n).toInt = (n : Int) := Int64.toInt_ofNat_of_lt h
theorem nJ_add (a b : Nat) : nJ a + nJ b = nJ (a + b) := (Int64.ofNat_add a b).symm
theorem nJ_mul (a b : Nat) : nJ a * nJ b = nJ (a * b) := (Int64.ofNat_mul a b).symm
theorem nI_nJ {n : Nat} (h : n < 2 ^ 31) : (nI n).toInt64 = nJ n := Int64.toInt_inj.mp (by rw [Int32.toInt_toInt64, nI_toInt h, nJ_toInt (by omega)])
theorem nJ_div {a b : Nat} (ha : a < 2 ^ 62) (hb : b < 2 ^ 62) : nJ a / nJ b = nJ (a / b) := by
  apply Int64.toInt_inj.mp
  have hd := Nat.div_le_self a b
  have hne : nJ a ≠ Int64.minValue := fun z => by
    have h1 : (nJ a).toInt = Int64.minValue.toInt := by rw [z]
    rw [nJ_toInt (by omega)] at h1
    have h2 : Int64.minValue.toInt = -9223372036854775808 := by decide
    omega
  rw [Int64.toInt_div_of_ne_left _ _ hne, nJ_toInt (by omega), nJ_toInt (by omega), nJ_toInt (by omega), Int.tdiv_eq_ediv_of_nonneg (by omega)]
  rfl
theorem nJ_sub {a b : Nat} (h : b ≤ a) : nJ a - nJ b = nJ (a - b) := by
  have e : nJ a = nJ (a - b) + nJ b := by rw [nJ_add]; congr 1; omega
  rw [e, Int64.add_sub_cancel]
theorem nJ_rem {a b : Nat} (ha : a < 2 ^ 62) (hb : b < 2 ^ 62) : nJ a - nJ a / nJ b * nJ b = nJ (a % b) := by
  have h := Nat.div_add_mod a b
  have h2 : b * (a / b) = a / b * b := Nat.mul_comm _ _
  rw [nJ_div ha hb, nJ_mul, nJ_sub (by omega)]
  congr 1
  omega
theorem nJ_eqI {a b : Nat} (ha : a < 2 ^ 62) (hb : b < 2 ^ 62) : nJ a = nJ b ↔ a = b := by
  constructor
  · intro h
    have h1 : (nJ a).toInt = (nJ b).toInt := by rw [h]
    rw [nJ_toInt (by omega), nJ_toInt (by omega)] at h1
    omega
  · intro h
    rw [h]
/-! ===== the weight of standing ===== -/
noncomputable def stW (t : Txt) : Nat → Cst → Nat → Nat
  | 0, c, h => if (cStand c).testBit h then 1 else 0
  | n + 1, c, h => (10 - tGale t) * stW t n (tickS t c (lvN t c)) h + tGale t * stW t n (tickS t c (min 10 (lvN t c + 1))) h
theorem stW_le (t : Txt) (hg : tGale t ≤ 10) : ∀ n c h, stW t n c h ≤ 10 ^ n
  | 0, c, h => by
    show (if _ then _ else _) ≤ 1
    split <;> omega
  | n + 1, c, h => by
    have h1 := stW_le t hg n (tickS t c (lvN t c)) h
    have h2 := stW_le t hg n (tickS t c (min 10 (lvN t c + 1))) h
    have e1 : (10 - tGale t) * stW t n (tickS t c (lvN t c)) h ≤ (10 - tGale t) * 10 ^ n := Nat.mul_le_mul_left _ h1
    have e2 : tGale t * stW t n (tickS t c (min 10 (lvN t c + 1))) h ≤ tGale t * 10 ^ n := Nat.mul_le_mul_left _ h2
    show _ + _ ≤ 10 ^ n * 10
    have e3 : (10 - tGale t) * 10 ^ n + tGale t * 10 ^ n = 10 ^ n * 10 := by rw [← Nat.add_mul, show 10 - tGale t + tGale t = 10 by omega, Nat.mul_comm]
    omega
theorem stW_no (t : Txt) : ∀ n c h, (cStand c).testBit h = false → stW t n c h = 0
  | 0, c, h, hb => by
    show (if _ then _ else _) = 0
    rw [hb]; rfl
  | n + 1, c, h, hb => by
    have f : ∀ lv, (cStand (tickS t c lv)).testBit h = false := fun lv => by
      show (fellN c _ _).testBit h = false
      rw [fellN_bit, hb]; rfl
    show _ * _ + _ * _ = 0
    rw [stW_no t n _ h (f _), stW_no t n _ h (f _), Nat.mul_zero, Nat.mul_zero]
theorem stW_10 (t : Txt) (hg : tGale t ≤ 10) {c : Cst} {n h : Nat} (hl : lvN t c = 10) : stW t (n + 1) c h = 10 * stW t n (tickS t c (lvN t c)) h := by
  show (10 - tGale t) * stW t n (tickS t c (lvN t c)) h + tGale t * stW t n (tickS t c (min 10 (lvN t c + 1))) h = _
  rw [show min 10 (lvN t c + 1) = lvN t c by omega, ← Nat.add_mul, show 10 - tGale t + tGale t = 10 by omega]
/-! ===== the class ===== -/
theorem step_in : ∀ s, s < 9 → 128 + 4 * s ∈ coastL ∧ (127, s, 128 + 4 * s) ∈ PPl := by decide +kernel
theorem stepP {P : Nat → Nat → Option Nat} (hP : GP P) {s : Nat} (h : s < 9) (I : Nat → Nat → Int32) (J : Nat → Nat → Int64) : xaP (mm P I J) 30 127 (nI s) = some (128 + 4 * s) := m_aP hP (n := 9) (by decide +kernel) h (by omega) (step_in s h).2 I J
theorem tally_C {P : Nat → Nat → Option Nat} (hP : GP P) {I : Nat → Nat → Int32} {J : Nat → Nat → Int64} {t : Txt} {c : Cst} {n k w : Nat} (hk : k ∈ coastL) (hc : wfC t c n) (hC : CoI I k t c) : ∃ J', F_X2_tally 125 k (nJ w) (mm P I J) = some (mm P I J') ∧ (∀ a i, a ≠ 126 → J' a i = J a i) ∧ ∀ h, h < 6 → J' 126 h = J 126 h + nJ (w * (if (cStand c).testBit h then 1 else 0)) := by
  have slt := stand_lt hc
  have b4 : I k 4 = nI (cStand c) := hC.2.2.2.1
  have key : ∃ r : xM, xit (F_X2_tally_3b 125 k (nJ w)) xFU (nI 0, mm P I J) = some r ∧ (∃ J', r = mm P I J' ∧ (∀ a i, a ≠ 126 → J' a i = J a i) ∧ ∀ h, h < 6 → J' 126 h = J 126 h + nJ (w * (if (cStand c).testBit h then 1 else 0))) := by
    refine xit_inv (fun j z => ∃ J', z = (nI j, mm P I J') ∧ (∀ a i, a ≠ 126 → J' a i = J a i) ∧ (∀ h, h < j → J' 126 h = J 126 h + nJ (w * (if (cStand c).testBit h then 1 else 0))) ∧ ∀ h, j ≤ h → J' 126 h = J 126 h) _ 6 ⟨J, rfl, fun _ _ _ => rfl, fun h hh => by omega, fun _ _ => rfl⟩ (fun j z hj hq => ?_) (fun z hq => ?_) (by omega)
    · obtain ⟨J1, rfl, q1, q2, q3⟩ := hq
      left
      have c1 : ¬ (6 : Int32) ≤ nI j := nI_ge (b := 6) hj (by omega)
      have bt := bitN (s := cStand c) (c := j) (by omega) (by omega)
      cases hb : (cStand c).testBit j with
      | false =>
        rw [hb] at bt
        refine ⟨(nI (j + 1), mm P I J1), ?_, J1, rfl, q1, fun h hh => ?_, fun h hh => q3 h (by omega)⟩
        · simp only [F_X2_tally_3b, F_X2_tally_33, ↓reduceIte, c1, ↓bOK hP hk, b4, bt, Bool.false_eq_true, nI_1]
        · by_cases e : h = j
          · rw [e, q3 j (Nat.le_refl _), hb]
            simp [nJ]
          · exact q2 h (by omega)
      | true =>
        rw [hb] at bt
        refine ⟨(nI (j + 1), mm P I (xu J1 126 j (J1 126 j + nJ w))), ?_, _, rfl, fun a i h => by rw [xu_o (by omega), q1 a i h], fun h hh => ?_, fun h hh => by rw [xu_o (by omega)]; exact q3 h (by omega)⟩
        · simp (disch := omega) only [F_X2_tally_3b, F_X2_tally_33, ↓reduceIte, c1, ↓bOK hP hk, b4, bt, one_ne, ↓bOX hP, ↓bAX, nI_1]
        · by_cases e : h = j
          · rw [e, xu_self, q3 j (Nat.le_refl _), hb, if_pos rfl, Nat.mul_one]
          · rw [xu_o (by omega)]; exact q2 h (by omega)
    · obtain ⟨J1, rfl, q1, q2, q3⟩ := hq
      have c1 : (6 : Int32) ≤ nI 6 := by decide
      exact ⟨mm P I J1, by simp only [F_X2_tally_3b, F_X2_tally_39, ↓reduceIte, c1, Option.map_some], J1, rfl, q1, q2⟩
  obtain ⟨r, h1, J', rfl, h2, h3⟩ := key
  exact ⟨J', h1, h2, h3⟩
theorem blow_C {P : Nat → Nat → Option Nat} (hP : GP P) {t : Txt} {n m : Nat} (hw : wfT t) (hn : n < 1000) (hm : m ≤ 8) : ∀ fuel d s (c : Cst) (w : Nat) (I : Nat → Nat → Int32) (J : Nat → Nat → Int64), d < fuel → s + d = m → LandC (mm P I J) 14 t → CoI I (128 + 4 * s) t c → wfC t c n → cMinute c + d ≤ 99 * n →
    ∃ I' J', R_X2_blow fuel 125 14 29 (nI s) (nI m) (nJ w) (mm P I J) = some (mm P I' J') ∧ (∀ a i, ¬ (128 + 4 * s + 4 ≤ a ∧ a ≤ 163) → a ≠ 31 → a ≠ 32 → a ≠ 33 → I' a i = I a i) ∧ (∀ a i, a ≠ 126 → J' a i = J a i) ∧ ∀ h, h < 6 → J' 126 h = J 126 h + nJ (w * stW t d c h)
  | 0, d, s, c, w, I, J, h, _, _, _, _, _ => by omega
  | fuel + 1, d, s, c, w, I, J, hf, hd, hL, hC, hc, hmi => by
    have hg : tGale t ≤ 10 := hw.2.2.2.1
    obtain ⟨ki, -⟩ := step_in s (by omega)
    have hl := hc.2.1.1
    have slt := stand_lt hc
    have b4 : I (128 + 4 * s) 4 = nI (cStand c) := hC.2.2.2.1
    have b5 : I (128 + 4 * s) 5 = nI (cMoon c) := hC.2.2.2.2.1
    have b6 : I (128 + 4 * s) 6 = nI (cMinute c) := hC.2.2.2.2.2
    have l4 : I 14 4 = nI (tGale t) := hL.2.2.2.2.1
    show ∃ I' J', F_X2_blow (R_X2_blow fuel) 125 14 29 (nI s) (nI m) (nJ w) (mm P I J) = _ ∧ _
    by_cases hz : cStand c = 0
    · have z : nI (cStand c) = 0 := by rw [hz]; rfl
      refine ⟨I, J, ?_, fun _ _ _ _ _ _ => rfl, fun _ _ _ => rfl, fun h hh => ?_⟩
      · simp only [F_X2_blow, ↓bOX hP, ↓bs (stepP hP (show s < 9 by omega) _ _), ↓bOK hP ki, b4, z, ↓reduceIte]
      · rw [stW_no t d c h (by rw [hz, Nat.zero_testBit]), Nat.mul_zero]
        simp [nJ]
    · have z : ¬ nI (cStand c) = 0 := nI_ne0 (by omega) (by omega)
      cases d with
      | zero =>
        have c1 : ¬ nI s < nI m := nI_nlt (by omega) (by omega)
        obtain ⟨J', t1, t2, t3⟩ := tally_C hP (J := J) (w := w) ki hc hC
        refine ⟨I, J', ?_, fun _ _ _ _ _ _ => rfl, t2, t3⟩
        simp only [F_X2_blow, ↓bOX hP, ↓bs (stepP hP (show s < 9 by omega) _ _), ↓bOK hP ki, b4, z, ↓reduceIte, c1, ↓bs t1]
      | succ d =>
        have c1 : nI s < nI m := nI_lt (by omega) (by omega)
        obtain ⟨ki1, -⟩ := step_in (s + 1) (by omega)
        obtain ⟨I1, t1, t2⟩ := tide_C hP (I := I) (J := J) hw hL (mi := cMinute c + 1) (mo := cMoon c) (by omega)
        have ll := lvlS_le t (cMinute c + 1) (cMoon c)
        have hC1 : CoI I1 (128 + 4 * s) t c := CoI_fr (fun a i _ _ => t2 a i (by omega) (by omega)) hC
        have hL1 : LandC (mm P I1 J) 14 t := LandC_I (fun a i _ _ => t2 a i (by omega) (by omega)) hL
        -- one way to go on, from any table in which the coast stands
        have branch : ∀ I2 J2 lv x, (∀ a i, ¬ (128 + 4 * s + 4 ≤ a ∧ a ≤ 163) → a ≠ 31 → a ≠ 32 → a ≠ 33 → I2 a i = I1 a i) → lv ≤ 11 → ∃ I3 I4 I5 J5, F_X0_take (128 + 4 * (s + 1)) (128 + 4 * s) (mm P I2 J2) = some (mm P I3 J2) ∧ F_X8_tickAt 29 14 (128 + 4 * (s + 1)) (nI lv) (mm P I3 J2) = some (nI (wetS t (cSand c) lv), mm P I4 J2) ∧ R_X2_blow fuel 125 14 29 (nI (s + 1)) (nI m) (nJ (w * x)) (mm P I4 J2) = some (mm P I5 J5) ∧ (∀ a i, ¬ (128 + 4 * s + 4 ≤ a ∧ a ≤ 163) → a ≠ 31 → a ≠ 32 → a ≠ 33 → I5 a i = I1 a i) ∧ (∀ a i, a ≠ 126 → J5 a i = J2 a i) ∧ ∀ h, h < 6 → J5 126 h = J2 126 h + nJ (w * x * stW t d (tickS t c lv) h) := by
          intro I2 J2 lv x k2 hlv
          obtain ⟨I3, e1, g0, g1, g2, g3, g4, g5, g6, g7⟩ := take_C hP I2 J2 (a := 128 + 4 * (s + 1)) (b := 128 + 4 * s) ki1 ki (by omega)
          have hC2 : CoI I2 (128 + 4 * s) t c := CoI_fr (fun a i _ _ => k2 a i (by omega) (by omega) (by omega) (by omega)) hC1
          have hC3 : CoI I3 (128 + 4 * (s + 1)) t c := CoI_iff.mp (CoastC_same (M := mm P I2 J2) (M' := mm P I3 J2) hw hc g1 g2 g3 g4 g5 g6 g7 (CoI_iff.mpr hC2))
          have k3 : ∀ a i, ¬ (128 + 4 * s + 4 ≤ a ∧ a ≤ 163) → a ≠ 31 → a ≠ 32 → a ≠ 33 → I3 a i = I1 a i := fun a i h1 h2 h3 h4 => by rw [g0 a i (by omega), k2 a i h1 h2 h3 h4]
          obtain ⟨I4, e2, f1, f2⟩ := tickAt_C hP (I := I3) (J := J2) (lv := lv) ki1 hw hc (LandC_I (fun a i _ _ => k3 a i (by omega) (by omega) (by omega) (by omega)) hL1) hC3 hlv
          have k4 : ∀ a i, ¬ (128 + 4 * s + 4 ≤ a ∧ a ≤ 163) → a ≠ 31 → a ≠ 32 → a ≠ 33 → I4 a i = I1 a i := fun a i h1 h2 h3 h4 => by rw [f1 a i (by omega) h2 h3 h4, k3 a i h1 h2 h3 h4]
          obtain ⟨I5, J5, e3, w1, w2, w3⟩ := blow_C hP hw hn hm fuel d (s + 1) (tickS t c lv) (w * x) I4 J2 (by omega) (by omega) (LandC_I (fun a i _ _ => k4 a i (by omega) (by omega) (by omega) (by omega)) hL1) f2 (tick_wf hc (by omega)) (by show cMinute c + 1 + d ≤ 99 * n; omega)
          exact ⟨I3, I4, I5, J5, e1, e2, e3, fun a i h1 h2 h3 h4 => by rw [w1 a i (by omega) h2 h3 h4, k4 a i h1 h2 h3 h4], w2, w3⟩
        have fin : ∀ g, g ≤ 10 → (∀ h, stW t (d + 1) c h = (10 - g) * stW t d (tickS t c (lvN t c)) h + g * stW t d (tickS t c (lvN t c + 1)) h) → ∃ I' J', F_X2_blow_66 (R_X2_blow fuel) 125 14 29 (nI s) (nI m) (nJ w) (128 + 4 * s) (nI (lvN t c)) (nI g) (mm P I1 J) = some (mm P I' J') ∧ (∀ a i, ¬ (128 + 4 * s + 4 ≤ a ∧ a ≤ 163) → a ≠ 31 → a ≠ 32 → a ≠ 33 → I' a i = I a i) ∧ (∀ a i, a ≠ 126 → J' a i = J a i) ∧ ∀ h, h < 6 → J' 126 h = J 126 h + nJ (w * stW t (d + 1) c h) := by
          intro g hg10 hst
          have f124 : ∀ I2 J2, (∀ a i, ¬ (128 + 4 * s + 4 ≤ a ∧ a ≤ 163) → a ≠ 31 → a ≠ 32 → a ≠ 33 → I2 a i = I1 a i) → ∃ I' J', F_X2_blow_124 (R_X2_blow fuel) 125 14 29 (nI s) (nI m) (nJ w) (128 + 4 * s) (nI (lvN t c)) (nI g) (mm P I2 J2) = some (mm P I' J') ∧ (∀ a i, ¬ (128 + 4 * s + 4 ≤ a ∧ a ≤ 163) → a ≠ 31 → a ≠ 32 → a ≠ 33 → I' a i = I1 a i) ∧ (∀ a i, a ≠ 126 → J' a i = J2 a i) ∧ ∀ h, h < 6 → J' 126 h = J2 126 h + nJ (w * (g * stW t d (tickS t c (lvN t c + 1)) h)) := by
            intro I2 J2 k2
            by_cases hg0 : g = 0
            · have y1 : nI g ≤ 0 := nI_le (b := 0) (by omega) (by omega)
              refine ⟨I2, J2, ?_, k2, fun _ _ _ => rfl, fun h hh => ?_⟩
              · simp only [F_X2_blow_124, ↓reduceIte, y1]
              · rw [hg0, Nat.zero_mul, Nat.mul_zero]
                simp [nJ]
            · have y1 : ¬ nI g ≤ 0 := nI_ge (a := 0) (by omega) (by omega)
              obtain ⟨I3, I4, I5, J5, e1, e2, e3, e4, e5, e6⟩ := branch I2 J2 (lvN t c + 1) g k2 (by unfold lvN; omega)
              refine ⟨I5, J5, ?_, e4, e5, fun h hh => by rw [e6 h hh, Nat.mul_assoc]⟩
              unfold F_X2_blow_124
              simp only [↓reduceIte, y1, nI_1, nI_nJ (show g < 2 ^ 31 by omega), nJ_mul]
              simp only [↓bOX hP, ↓bs (stepP hP (show s + 1 < 9 by omega) _ _), ↓bOK hP ki1, ↓bs e1, ↓bOC hP, ↓bs e2, ↓bs e3]
          by_cases hg9 : g = 10
          · have y1 : (10 : Int32) ≤ nI g := nI_le (a := 10) (by omega) (by omega)
            obtain ⟨I', J', e1, e2, e3, e4⟩ := f124 I1 J (fun _ _ _ _ _ _ => rfl)
            refine ⟨I', J', ?_, fun a i h1 h2 h3 h4 => by rw [e2 a i h1 h2 h3 h4, t2 a i h2 h3], e3, fun h hh => ?_⟩
            · simp only [F_X2_blow_66, ↓reduceIte, y1, e1]
            · rw [e4 h hh, hst h, hg9, Nat.sub_self, Nat.zero_mul, Nat.zero_add]
          · have y1 : ¬ (10 : Int32) ≤ nI g := nI_ge (b := 10) (by omega) (by omega)
            obtain ⟨I3, I4, I5, J5, e1, e2, e3, e4, e5, e6⟩ := branch I1 J (lvN t c) (10 - g) (fun _ _ _ _ _ _ => rfl) (by unfold lvN; omega)
            obtain ⟨I', J', d1, d2, d3, d4⟩ := f124 I5 J5 e4
            have sb : (10 : Int32) - nI g = nI (10 - g) := pk_sub (a := 10) hg10
            refine ⟨I', J', ?_, fun a i h1 h2 h3 h4 => by rw [d2 a i h1 h2 h3 h4, t2 a i h2 h3], fun a i h => by rw [d3 a i h, e5 a i h], fun h hh => ?_⟩
            · unfold F_X2_blow_66
              simp only [↓reduceIte, y1, nI_1, sb, nI_nJ (show 10 - g < 2 ^ 31 by omega), nJ_mul]
              simp only [↓bOX hP, ↓bs (stepP hP (show s + 1 < 9 by omega) _ _), ↓bOK hP ki1, ↓bs e1, ↓bOC hP, ↓bs e2, ↓bs e3, d1]
            · rw [d4 h hh, e6 h hh, Int64.add_assoc, nJ_add, hst h, Nat.mul_add, Nat.mul_assoc]
        have t1' : F_X8_tideAt 29 14 (nI (cMinute c + 1)) (nI (cMoon c)) (mm P I J) = some (nI (lvN t c), mm P I1 J) := t1
        by_cases hlv : lvN t c = 10
        · obtain ⟨I', J', r1, r2, r3, r4⟩ := fin 0 (by omega) (fun h => by rw [stW_10 t hg hlv, Nat.zero_mul, Nat.add_zero])
          have y1 : (10 : Int32) ≤ nI (lvN t c) := nI_le (a := 10) (by omega) (by omega)
          have r1' : F_X2_blow_66 (R_X2_blow fuel) 125 14 29 (nI s) (nI m) (nJ w) (128 + 4 * s) (nI (lvN t c)) (0 : Int32) (mm P I1 J) = some (mm P I' J') := r1
          refine ⟨I', J', ?_, r2, r3, r4⟩
          unfold F_X2_blow
          simp only [↓bOX hP, ↓bs (stepP hP (show s < 9 by omega) _ _), ↓bOK hP ki, b4, z, ↓reduceIte, c1, b6, b5]
          simp only [nI_1]
          simp only [↓bOC hP, ↓bs t1', ↓reduceIte, y1, r1']
        · have hlv9 : lvN t c < 10 := by unfold lvN at hlv ⊢; omega
          obtain ⟨I', J', r1, r2, r3, r4⟩ := fin (tGale t) hg (fun h => by
            show (10 - tGale t) * stW t d (tickS t c (lvN t c)) h + tGale t * stW t d (tickS t c (min 10 (lvN t c + 1))) h = _
            rw [show min 10 (lvN t c + 1) = lvN t c + 1 by omega])
          have y1 : ¬ (10 : Int32) ≤ nI (lvN t c) := nI_ge (b := 10) hlv9 (by omega)
          have l4' : I1 14 4 = nI (tGale t) := by rw [t2 _ _ (by omega) (by omega)]; exact l4
          refine ⟨I', J', ?_, r2, r3, r4⟩
          unfold F_X2_blow
          simp only [↓bOX hP, ↓bs (stepP hP (show s < 9 by omega) _ _), ↓bOK hP ki, b4, z, ↓reduceIte, c1, b6, b5]
          simp only [nI_1]
          simp only [↓bOC hP, ↓bs t1', ↓reduceIte, y1, l4', r1]
