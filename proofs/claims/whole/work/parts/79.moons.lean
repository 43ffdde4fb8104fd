/-! ===== what was looked ===== -/
def lookB (v : Int64) : Bool := decide (0 ≤ v.toInt) && decide (v.toInt ≤ 1099)
theorem isLevelL (a : Int64) (M : xM) : F_X11_isLevel a M = some (if 0 ≤ a.toInt ∧ a.toInt ≤ 10 then 1 else 0, M) := by
  have z0 : (0 : Int64).toInt = 0 := by decide
  have z10 : (10 : Int64).toInt = 10 := by decide
  unfold F_X11_isLevel F_X11_isLevel_18
  simp only [lg_cmp_lt, lg_cmp_gt, Int64.lt_iff_toInt_lt, z0, z10, xz0, xz1, Option.bind_some]
  by_cases h1 : a.toInt < 0
  · rw [if_pos h1, if_neg (by omega)]
  · rw [if_neg h1]
    by_cases h2 : 10 < a.toInt
    · rw [if_pos h2, if_neg (by omega)]
    · rw [if_neg h2, if_pos (by omega)]
theorem div100 {v : Int64} (h : 0 ≤ v.toInt) : (v / 100).toInt = v.toInt / 100 := by
  rw [Int64.toInt_div_of_ne_right v 100 (by decide), show (100 : Int64).toInt = 100 by decide, Int.tdiv_eq_ediv_of_nonneg h]
/-- the tray's refusal, for looks -/
def lookWhy (u sz : Nat) (J : Nat → Nat → Int64) : Int32 := if 1 ≤ sz ∧ sz ≤ 8 then (if allN (fun i => lookB (J 184 (40 * u + i))) sz then 0 else -3) else -4
theorem looks_C {P : Nat → Nat → Option Nat} (hP : GP P) {I : Nat → Nat → Int32} {J : Nat → Nat → Int64} {u sz : Nat} (rf : F_X11_refusedTray 0 (nI u) (mm P I J) = some (0, mm P I J)) (hu : u < 4) (hsz : sz ≤ 40) (d1 : I (82 + 2 * u) 0 = nI sz) (d5 : ∀ j, j < sz → J (83 + 2 * u) j = J 184 (40 * u + j)) : F_X11_refusedLooks 0 (nI u) (mm P I J) = some (lookWhy u sz J, mm P I J) := by
  have z0 : (0 : Int64).toInt = 0 := by decide
  have tp : xaP (mm P I J) 40 81 (nI u) = some (82 + 2 * u) := trayP (mm_G hP) hu
  have g1 : xgI (mm P I J) (82 + 2 * u) 10 0 = some (I (82 + 2 * u) 0) := m_gI (traySh hu) I J 0
  have g2 : xgP (mm P I J) (82 + 2 * u) 10 2 = some (83 + 2 * u) := trayNum (mm_G hP) hu
  unfold F_X11_refusedLooks lookWhy
  simp only [↓bOC hP, ↓bs rf, ↓reduceIte, ↓bs tp, ↓bs g1, d1]
  by_cases h : 1 ≤ sz ∧ sz ≤ 8
  · have c1 : ¬ nI sz < (1 : Int32) := nI_nlt (b := 1) (by omega) (by omega)
    have c2 : nI sz ≤ (8 : Int32) := nI_le (b := 8) (by omega) (by omega)
    rw [if_neg c1, if_pos c2, if_pos h]
    have L := all_loop (f := F_X11_refusedLooks_42b (82 + 2 * u)) (M := mm P I J) (fun i => lookB (J 184 (40 * u + i))) sz (0, mm P I J) (-3, mm P I J) (fun j hj => ?_) ?_ (by omega)
    · unfold F_X11_refusedLooks_42
      rw [L]
      cases allN (fun i => lookB (J 184 (40 * u + i))) sz <;> rfl
    · have c3 : ¬ nI sz ≤ nI j := nI_ge hj (by omega)
      have g3 : xaJ (mm P I J) (83 + 2 * u) (nI j) = some (J 184 (40 * u + j)) := by rw [← d5 j hj]; exact m_aJ (trayLen hu) (by omega) I J j (by omega)
      simp only [F_X11_refusedLooks_42b, F_X11_refusedLooks_80, ↓bs g1, d1, ↓reduceIte, c3, ↓bs g2, ↓bs g3, lg_cmp_lt, Int64.lt_iff_toInt_lt, z0, ↓bs (isLevelL _ _), nI_1, Option.map_some]
      unfold lookB
      by_cases h1 : (J 184 (40 * u + j)).toInt < 0
      · rw [if_pos h1, decide_eq_false (show ¬ 0 ≤ (J 184 (40 * u + j)).toInt by omega)]
        rfl
      · have h0 : 0 ≤ (J 184 (40 * u + j)).toInt := by omega
        have p0 : decide (0 ≤ (J 184 (40 * u + j)).toInt) = true := decide_eq_true h0
        have hd := div100 (v := J 184 (40 * u + j)) h0
        simp only [h1, if_false, p0, hd, Bool.true_and]
        by_cases h2 : (J 184 (40 * u + j)).toInt ≤ 1099
        · have p2 : 0 ≤ (J 184 (40 * u + j)).toInt / 100 ∧ (J 184 (40 * u + j)).toInt / 100 ≤ 10 := by omega
          simp only [h2, decide_true, if_true, p2, and_self, one_ne, if_false]
        · have p2 : ¬ (0 ≤ (J 184 (40 * u + j)).toInt / 100 ∧ (J 184 (40 * u + j)).toInt / 100 ≤ 10) := by omega
          simp only [h2, decide_false, if_neg p2, if_true, Bool.false_eq_true, if_false]
    · have c3 : nI sz ≤ nI sz := nI_le (Nat.le_refl _) (by omega)
      simp only [F_X11_refusedLooks_42b, F_X11_refusedLooks_89, ↓bs g1, d1, ↓reduceIte, c3, Option.map_some]
  · rw [if_neg h]
    by_cases h1 : sz < 1
    · rw [if_pos (show nI sz < (1 : Int32) from nI_lt (b := 1) h1 (by omega))]
    · rw [if_neg (show ¬ nI sz < (1 : Int32) from nI_nlt (b := 1) (by omega) (by omega)), if_neg (show ¬ nI sz ≤ (8 : Int32) from nI_ge (a := 8) (by omega) (by omega))]
theorem looks_M {P : Nat → Nat → Option Nat} (hP : GP P) {I : Nat → Nat → Int32} {J : Nat → Nat → Int64} {u sz : Nat} (nt : F_X12_noTray 164 (nI u) (mm P I J) = some (0, mm P I J)) (hu : u < 4) (hsz : sz ≤ 40) (d4 : I 183 u = nI sz) : F_X12_noLooked 164 (nI u) (mm P I J) = some (lookWhy u sz J, mm P I J) := by
  have z0 : (0 : Int64).toInt = 0 := by decide
  have z1 : (1 : Int64).toInt = 1 := by decide
  have z8 : (8 : Int64).toInt = 8 := by decide
  have z1099 : (1099 : Int64).toInt = 1099 := by decide
  have eS : (nI sz).toInt = (sz : Int) := nI_toInt (by omega)
  unfold F_X12_noLooked lookWhy
  simp (disch := omega) only [↓bOM hP, ↓bAM, ↓bs nt, ↓reduceIte, d4, within_lit, z1, z8, eS, ↓Option.bind_some]
  by_cases h : 1 ≤ sz ∧ sz ≤ 8
  · rw [if_pos (show (1 : Int) ≤ sz ∧ (sz : Int) ≤ 8 by omega), if_neg one_ne, if_pos h]
    have L := all_loop (f := F_X12_noLooked_34b 164 (nI u)) (M := mm P I J) (fun i => lookB (J 184 (40 * u + i))) sz (0, mm P I J) (-3, mm P I J) (fun j hj => ?_) ?_ (by omega)
    · unfold F_X12_noLooked_34
      rw [L]
      cases allN (fun i => lookB (J 184 (40 * u + i))) sz <;> rfl
    · have c3 : ¬ nI sz ≤ nI j := nI_ge hj (by omega)
      have ix : (40 : Int32) * nI u + nI j = nI (40 * u + j) := by rw [show (40 : Int32) = nI 40 from rfl, pk_mul, nI_add]
      unfold F_X12_noLooked_34b F_X12_noLooked_65
      simp only [ix]
      simp (disch := omega) only [↓bOM hP, ↓bAM, d4, ↓reduceIte, c3, within_eq, z0, z1099, ↓Option.bind_some, nI_1, Option.map_some]
      unfold lookB
      by_cases h1 : 0 ≤ (J 184 (40 * u + j)).toInt ∧ (J 184 (40 * u + j)).toInt ≤ 1099
      · rw [if_pos h1, decide_eq_true h1.1, decide_eq_true h1.2, if_neg one_ne]
        rfl
      · rw [if_neg h1, if_pos rfl]
        by_cases h2 : 0 ≤ (J 184 (40 * u + j)).toInt
        · rw [decide_eq_true h2, decide_eq_false (show ¬ (J 184 (40 * u + j)).toInt ≤ 1099 by omega)]
          rfl
        · rw [decide_eq_false h2]
          rfl
    · have c3 : nI sz ≤ nI sz := nI_le (Nat.le_refl _) (by omega)
      simp (disch := omega) only [F_X12_noLooked_34b, F_X12_noLooked_74, ↓bOM hP, ↓bAM, d4, ↓reduceIte, c3, Option.map_some]
  · rw [if_neg (show ¬ ((1 : Int) ≤ sz ∧ (sz : Int) ≤ 8) by omega), if_pos rfl, if_neg h]
/-- does a moon fit a look -/
def fitB (t : Txt) (mi mo v : Nat) : Bool := decide (lvlS t (mi + v % 100) mo = v / 100)
def seenN (t : Txt) (mi : Nat) (vs : Nat → Nat) (sz : Nat) : Nat → Nat
  | 0 => 0
  | m + 1 => seenN t mi vs sz m ||| (if allN (fun i => fitB t mi m (vs i)) sz then 2 ^ m else 0)
theorem seenN_lt (t : Txt) (mi : Nat) (vs : Nat → Nat) (sz : Nat) : ∀ m, seenN t mi vs sz m < 2 ^ m
  | 0 => by show 0 < 1; omega
  | m + 1 => by
    have ih := seenN_lt t mi vs sz m
    have p : 2 ^ m < 2 ^ (m + 1) := Nat.pow_lt_pow_right (by omega) (by omega)
    unfold seenN
    refine Nat.or_lt_two_pow (by omega) ?_
    split
    · exact p
    · omega
theorem look_v {v : Int64} (h : lookB v = true) : ∃ n : Nat, n ≤ 1099 ∧ v = (nI n).toInt64 ∧ v.toInt32 = nI n := by
  unfold lookB at h
  rw [Bool.and_eq_true, decide_eq_true_iff, decide_eq_true_iff] at h
  have e : v = (nI v.toInt.toNat).toInt64 := Int64.toInt_inj.mp (by rw [Int32.toInt_toInt64, nI_toInt (by omega)]; omega)
  refine ⟨v.toInt.toNat, by omega, e, ?_⟩
  have : (nI v.toInt.toNat).toInt64.toInt32 = nI v.toInt.toNat := by simp
  rw [← e] at this
  exact this
theorem seen_C {P : Nat → Nat → Option Nat} (hP : GP P) {I : Nat → Nat → Int32} {J : Nat → Nat → Int64} {t : Txt} {c : Cst} {n u sz : Nat} {vs : Nat → Nat} (hw : wfT t) (hc : wfC t c n) (hn : n < 1000) (hL : LandC (mm P I J) 14 t) (hC : CoI I 21 t c) (hu : u < 4) (hsz : sz ≤ 8) (d1 : I (82 + 2 * u) 0 = nI sz) (hv : ∀ j, j < sz → vs j ≤ 1099 ∧ (J (83 + 2 * u) j).toInt32 = nI (vs j)) : ∃ I', F_X11_moonsSeen 0 (82 + 2 * u) (mm P I J) = some (nI (seenN t (cMinute c) vs sz 10), mm P I' J) ∧ ∀ a i, a ≠ 31 → a ≠ 32 → I' a i = I a i := by
  have hm : cMinute c ≤ 99 * n := hc.2.2.2.2
  have inner : ∀ m, m < 10 → ∀ I1, (∀ a i, a ≠ 31 → a ≠ 32 → I1 a i = I a i) → ∃ I2, F_X11_moonsSeen_16 0 (82 + 2 * u) (nI (seenN t (cMinute c) vs sz m)) (nI m) 1 0 (mm P I1 J) = some (.inl (nI (seenN t (cMinute c) vs sz (m + 1)), nI (m + 1), mm P I2 J)) ∧ ∀ a i, a ≠ 31 → a ≠ 32 → I2 a i = I a i := by
    intro m hm10 I1 k1
    have sl := seenN_lt t (cMinute c) vs sz m
    have sp : 2 ^ m < 2 ^ 10 := Nat.pow_lt_pow_right (by omega) hm10
    have fin : ∀ b I2, b = allN (fun i => fitB t (cMinute c) m (vs i)) sz → F_X11_moonsSeen_86 0 (82 + 2 * u) (nI (seenN t (cMinute c) vs sz m)) (nI m) (if b then 1 else 0) (mm P I2 J) = some (.inl (nI (seenN t (cMinute c) vs sz (m + 1)), nI (m + 1), mm P I2 J)) := by
      intro b I2 hb
      have eS : seenN t (cMinute c) vs sz (m + 1) = seenN t (cMinute c) vs sz m ||| (if allN (fun i => fitB t (cMinute c) m (vs i)) sz then 2 ^ m else 0) := rfl
      rw [eS, ← hb]
      cases b with
      | true => simp (disch := omega) only [F_X11_moonsSeen_86, F_X11_moonsSeen_97, ↓reduceIte, one_ne, one_shl, orN, ↓Option.bind_some, nI_1]
      | false => simp only [F_X11_moonsSeen_86, F_X11_moonsSeen_97, Bool.false_eq_true, ↓reduceIte, Nat.or_zero, nI_1]
    have key : ∃ r : (Int32 × Int32 × xM) ⊕ (Int32 × xM), xit (F_X11_moonsSeen_16b 0 (82 + 2 * u) (nI (seenN t (cMinute c) vs sz m)) (nI m)) xFU (1, nI 0, mm P I1 J) = some r ∧ (∃ I2, r = .inl (nI (seenN t (cMinute c) vs sz (m + 1)), nI (m + 1), mm P I2 J) ∧ ∀ a i, a ≠ 31 → a ≠ 32 → I2 a i = I a i) := by
      refine xit_inv (fun j z => ∃ I2 b, z = ((if b then 1 else 0), nI j, mm P I2 J) ∧ b = allN (fun i => fitB t (cMinute c) m (vs i)) j ∧ ∀ a i, a ≠ 31 → a ≠ 32 → I2 a i = I a i) _ sz ⟨I1, true, rfl, rfl, k1⟩ (fun j z hj hq => ?_) (fun z hq => ?_) (by omega)
      · obtain ⟨I2, b, rfl, q1, q2⟩ := hq
        have z1 : I2 (82 + 2 * u) 0 = nI sz := by rw [q2 _ _ (by omega) (by omega)]; exact d1
        have c1 : ¬ nI sz ≤ nI j := nI_ge hj (by omega)
        have g1 : xgI (mm P I2 J) (82 + 2 * u) 10 0 = some (I2 (82 + 2 * u) 0) := m_gI (traySh hu) I2 J 0
        have g2 : xgP (mm P I2 J) (82 + 2 * u) 10 2 = some (83 + 2 * u) := trayNum (mm_G hP) hu
        have g3 : xaJ (mm P I2 J) (83 + 2 * u) (nI j) = some (J (83 + 2 * u) j) := m_aJ (trayLen hu) (by omega) I2 J j (by omega)
        obtain ⟨v1, v2⟩ := hv j hj
        cases b with
        | false =>
          right
          have hb : false = allN (fun i => fitB t (cMinute c) m (vs i)) sz := by
            cases e : allN (fun i => fitB t (cMinute c) m (vs i)) sz with
            | false => rfl
            | true =>
              have := (allN_iff j).mpr (fun i hi => (allN_iff sz).mp e i (by omega))
              rw [this] at q1
              exact q1
          refine ⟨_, ?_, I2, rfl, q2⟩
          have f := fin false I2 hb
          simp only [Bool.false_eq_true, ↓reduceIte] at f
          simp only [F_X11_moonsSeen_16b, Bool.false_eq_true, ↓reduceIte, ↓bs g1, z1, c1, f, Option.map_some]
        | true =>
          left
          have m6 : I2 21 6 = nI (cMinute c) := by rw [q2 _ _ (by omega) (by omega)]; exact hC.2.2.2.2.2
          obtain ⟨I3, t1, t2⟩ := tide_C hP (I := I2) (J := J) hw (LandC_I (fun a i _ _ => q2 a i (by omega) (by omega)) hL) (mi := cMinute c + vs j % 100) (mo := m) (by omega)
          have rm : nI (vs j) - nI (vs j) / (100 : Int32) * 100 = nI (vs j % 100) := pk_rem (d := 100) (by omega) (by omega) (by omega)
          have dv : nI (vs j) / (100 : Int32) = nI (vs j / 100) := pk_div (d := 100) (by omega) (by omega) (by omega)
          have ll := lvlS_le t (cMinute c + vs j % 100) m
          have ce : nI (lvlS t (cMinute c + vs j % 100) m) = nI (vs j / 100) ↔ lvlS t (cMinute c + vs j % 100) m = vs j / 100 := nI_eqI (by omega) (by omega)
          refine ⟨((if fitB t (cMinute c) m (vs j) then 1 else 0), nI (j + 1), mm P I3 J), ?_, I3, fitB t (cMinute c) m (vs j), rfl, by unfold allN; rw [← q1]; rfl, fun a i h1 h2 => by rw [t2 a i h1 h2, q2 a i h1 h2]⟩
          unfold F_X11_moonsSeen_16b F_X11_moonsSeen_78
          simp only [↓reduceIte, ↓bs g1, z1, c1, one_ne, ↓bs g2, ↓bs g3, ↓bOC hP, m6]
          rw [v2, rm, dv, nI_add]
          simp only [↓bs t1, ce, nI_1]
          unfold fitB
          by_cases h : lvlS t (cMinute c + vs j % 100) m = vs j / 100
          · rw [if_pos h, decide_eq_true h]; rfl
          · rw [if_neg h, decide_eq_false h]; rfl
      · obtain ⟨I2, b, rfl, q1, q2⟩ := hq
        have z1 : I2 (82 + 2 * u) 0 = nI sz := by rw [q2 _ _ (by omega) (by omega)]; exact d1
        have c1 : nI sz ≤ nI sz := nI_le (Nat.le_refl _) (by omega)
        have g1 : xgI (mm P I2 J) (82 + 2 * u) 10 0 = some (I2 (82 + 2 * u) 0) := m_gI (traySh hu) I2 J 0
        refine ⟨_, ?_, I2, rfl, q2⟩
        have f := fin b I2 q1
        unfold F_X11_moonsSeen_16b
        simp only [↓bs g1, z1, c1, ↓reduceIte]
        rw [f]
        rfl
    obtain ⟨r, h1, I2, rfl, h2⟩ := key
    exact ⟨I2, h1, h2⟩
  have key : ∃ r : Int32 × xM, xit (F_X11_moonsSeen_4b 0 (82 + 2 * u)) xFU (nI 0, nI 0, mm P I J) = some r ∧ (∃ I2, r = (nI (seenN t (cMinute c) vs sz 10), mm P I2 J) ∧ ∀ a i, a ≠ 31 → a ≠ 32 → I2 a i = I a i) := by
    refine xit_inv (fun m z => ∃ I2, z = (nI (seenN t (cMinute c) vs sz m), nI m, mm P I2 J) ∧ ∀ a i, a ≠ 31 → a ≠ 32 → I2 a i = I a i) _ 10 ⟨I, rfl, fun _ _ _ _ => rfl⟩ (fun m z hj hq => ?_) (fun z hq => ?_) (by omega)
    · obtain ⟨I2, rfl, q2⟩ := hq
      left
      obtain ⟨I3, e1, e2⟩ := inner m hj I2 q2
      have c1 : ¬ (10 : Int32) ≤ nI m := nI_ge (b := 10) hj (by omega)
      refine ⟨_, ?_, I3, rfl, e2⟩
      simp only [F_X11_moonsSeen_4b, ↓reduceIte, c1, e1]
    · obtain ⟨I2, rfl, q2⟩ := hq
      have c1 : (10 : Int32) ≤ nI 10 := by decide
      exact ⟨_, by simp only [F_X11_moonsSeen_4b, F_X11_moonsSeen_103, ↓reduceIte, c1, Option.map_some], I2, rfl, q2⟩
  obtain ⟨r, h1, I2, rfl, h2⟩ := key
  exact ⟨I2, h1, h2⟩
theorem seen_M {P : Nat → Nat → Option Nat} (hP : GP P) {I : Nat → Nat → Int32} {J : Nat → Nat → Int64} {t : Txt} {c : Cst} {n u sz : Nat} {vs : Nat → Nat} (hw : wfT t) (hc : wfC t c n) (hn : n < 1000) (hA : LandA (I 165) 0 t) (hD : CoastA (I 165) 67 t c) (hu : u < 4) (hsz : sz ≤ 8) (d4 : I 183 u = nI sz) (hv : ∀ j, j < sz → vs j ≤ 1099 ∧ (J 184 (40 * u + j)).toInt32 = nI (vs j)) : ∃ I', F_X12_moonsOf 164 (nI u) (mm P I J) = some (nI (seenN t (cMinute c) vs sz 10), mm P I' J) ∧ ∀ a i, a ≠ 169 → a ≠ 170 → I' a i = I a i := by
  have hm : cMinute c ≤ 99 * n := hc.2.2.2.2
  have inner : ∀ m, m < 10 → ∀ I1, (∀ a i, a ≠ 169 → a ≠ 170 → I1 a i = I a i) → ∃ I2, F_X12_moonsOf_16 164 (nI u) (nI (seenN t (cMinute c) vs sz m)) (nI m) 1 0 (mm P I1 J) = some (.inl (nI (seenN t (cMinute c) vs sz (m + 1)), nI (m + 1), mm P I2 J)) ∧ ∀ a i, a ≠ 169 → a ≠ 170 → I2 a i = I a i := by
    intro m hm10 I1 k1
    have sl := seenN_lt t (cMinute c) vs sz m
    have sp : 2 ^ m < 2 ^ 10 := Nat.pow_lt_pow_right (by omega) hm10
    have key : ∃ r : (Int32 × Int32 × xM) ⊕ (Int32 × xM), xit (F_X12_moonsOf_16b 164 (nI u) (nI (seenN t (cMinute c) vs sz m)) (nI m)) xFU (1, nI 0, mm P I1 J) = some r ∧ (∃ I2, r = .inl (nI (seenN t (cMinute c) vs sz (m + 1)), nI (m + 1), mm P I2 J) ∧ ∀ a i, a ≠ 169 → a ≠ 170 → I2 a i = I a i) := by
      refine xit_inv (fun j z => ∃ I2, z = ((if allN (fun i => fitB t (cMinute c) m (vs i)) j then 1 else 0), nI j, mm P I2 J) ∧ ∀ a i, a ≠ 169 → a ≠ 170 → I2 a i = I a i) _ sz ⟨I1, rfl, k1⟩ (fun j z hj hq => ?_) (fun z hq => ?_) (by omega)
      · obtain ⟨I2, rfl, q2⟩ := hq
        left
        have z1 : I2 183 u = nI sz := by rw [q2 _ _ (by omega) (by omega)]; exact d4
        have c1 : ¬ nI sz ≤ nI j := nI_ge hj (by omega)
        have ix : (40 : Int32) * nI u + nI j = nI (40 * u + j) := by rw [show (40 : Int32) = nI 40 from rfl, pk_mul, nI_add]
        obtain ⟨v1, v2⟩ := hv j hj
        have m6 : I2 165 107 = nI (cMinute c) := by rw [q2 _ _ (by omega) (by omega)]; exact hD.2.2.2.2.2
        obtain ⟨I3, t1, t2⟩ := level_M hP (I := I2) (J := J) hw (LandA_cg (A := I 165) hw (fun x _ => q2 _ _ (by omega) (by omega)) hA) (mi := cMinute c + vs j % 100) (mo := m) (by omega)
        have rm : nI (vs j) - nI (vs j) / (100 : Int32) * 100 = nI (vs j % 100) := pk_rem (d := 100) (by omega) (by omega) (by omega)
        have dv : nI (vs j) / (100 : Int32) = nI (vs j / 100) := pk_div (d := 100) (by omega) (by omega) (by omega)
        have ll := lvlS_le t (cMinute c + vs j % 100) m
        have ce : nI (lvlS t (cMinute c + vs j % 100) m) = nI (vs j / 100) ↔ lvlS t (cMinute c + vs j % 100) m = vs j / 100 := nI_eqI (by omega) (by omega)
        refine ⟨((if allN (fun i => fitB t (cMinute c) m (vs i)) (j + 1) then 1 else 0), nI (j + 1), mm P I3 J), ?_, I3, rfl, fun a i h1 h2 => by rw [t2 a i h1 h2, q2 a i h1 h2]⟩
        unfold F_X12_moonsOf_16b F_X12_moonsOf_75
        simp only [ix]
        simp (disch := omega) only [↓bOM hP, ↓bAM, z1, ↓reduceIte, c1, m6]
        rw [v2, rm, dv, nI_add]
        simp only [↓bs t1, ce, nI_1, ↓Option.bind_some]
        have ea : allN (fun i => fitB t (cMinute c) m (vs i)) (j + 1) = (allN (fun i => fitB t (cMinute c) m (vs i)) j && fitB t (cMinute c) m (vs j)) := rfl
        rw [ea]
        unfold fitB
        by_cases h : lvlS t (cMinute c + vs j % 100) m = vs j / 100
        · rw [if_pos h, decide_eq_true h, Bool.and_true]
          cases allN (fun i => decide (lvlS t (cMinute c + vs i % 100) m = vs i / 100)) j <;> rfl
        · rw [if_neg h, decide_eq_false h, Bool.and_false]
          cases allN (fun i => decide (lvlS t (cMinute c + vs i % 100) m = vs i / 100)) j <;> rfl
      · obtain ⟨I2, rfl, q2⟩ := hq
        have z1 : I2 183 u = nI sz := by rw [q2 _ _ (by omega) (by omega)]; exact d4
        have c1 : nI sz ≤ nI sz := nI_le (Nat.le_refl _) (by omega)
        refine ⟨_, ?_, I2, rfl, q2⟩
        have eS : seenN t (cMinute c) vs sz (m + 1) = seenN t (cMinute c) vs sz m ||| (if allN (fun i => fitB t (cMinute c) m (vs i)) sz then 2 ^ m else 0) := rfl
        rw [eS]
        unfold F_X12_moonsOf_16b F_X12_moonsOf_84 F_X12_moonsOf_97
        simp (disch := omega) only [↓bOM hP, ↓bAM, z1, ↓reduceIte, c1]
        cases allN (fun i => fitB t (cMinute c) m (vs i)) sz with
        | true =>
          simp (disch := omega) only [↓reduceIte, one_ne, one_shl, orN, Option.bind_some, nI_1, Option.map_some]
        | false =>
          simp only [Bool.false_eq_true, ↓reduceIte, Option.bind_some, nI_1, Option.map_some, Nat.or_zero, Int32.or_zero]
    obtain ⟨r, h1, I2, rfl, h2⟩ := key
    exact ⟨I2, h1, h2⟩
  have key : ∃ r : Int32 × xM, xit (F_X12_moonsOf_4b 164 (nI u)) xFU (nI 0, nI 0, mm P I J) = some r ∧ (∃ I2, r = (nI (seenN t (cMinute c) vs sz 10), mm P I2 J) ∧ ∀ a i, a ≠ 169 → a ≠ 170 → I2 a i = I a i) := by
    refine xit_inv (fun m z => ∃ I2, z = (nI (seenN t (cMinute c) vs sz m), nI m, mm P I2 J) ∧ ∀ a i, a ≠ 169 → a ≠ 170 → I2 a i = I a i) _ 10 ⟨I, rfl, fun _ _ _ _ => rfl⟩ (fun m z hj hq => ?_) (fun z hq => ?_) (by omega)
    · obtain ⟨I2, rfl, q2⟩ := hq
      left
      obtain ⟨I3, e1, e2⟩ := inner m hj I2 q2
      have c1 : ¬ (10 : Int32) ≤ nI m := nI_ge (b := 10) hj (by omega)
      refine ⟨_, ?_, I3, rfl, e2⟩
      simp only [F_X12_moonsOf_4b, ↓reduceIte, c1, e1]
    · obtain ⟨I2, rfl, q2⟩ := hq
      have c1 : (10 : Int32) ≤ nI 10 := by decide
      exact ⟨_, by simp only [F_X12_moonsOf_4b, F_X12_moonsOf_105, ↓reduceIte, c1, Option.map_some], I2, rfl, q2⟩
  obtain ⟨r, h1, I2, rfl, h2⟩ := key
  exact ⟨I2, h1, h2⟩
