theorem looks_case {n : Nat} {P : Nat → Nat → Option Nat} {I : Nat → Nat → Int32} {J : Nat → Nat → Int64} (hP : GP P) (hI : INV n (mm P I J)) (a : Int32) :
    (∃ r : Int32, r ≠ 0 ∧ F_X11_refusedLooks 0 a (mm P I J) = some (r, mm P I J) ∧ ∀ I', (∀ k i, k = 182 ∨ k = 183 → I' k i = I k i) → F_X12_noLooked 164 a (mm P I' J) = some (r, mm P I' J)) ∨
    (∃ (u sz : Nat) (vs : Nat → Nat), u < 4 ∧ a = nI u ∧ sz ≤ 8 ∧ I (82 + 2 * u) 0 = nI sz ∧ I 183 u = nI sz ∧ F_X11_refusedLooks 0 a (mm P I J) = some (0, mm P I J) ∧ (∀ I', (∀ k i, k = 182 ∨ k = 183 → I' k i = I k i) → F_X12_noLooked 164 a (mm P I' J) = some (0, mm P I' J)) ∧ (∀ j, j < sz → vs j ≤ 1099 ∧ (J (83 + 2 * u) j).toInt32 = nI (vs j)) ∧ ∀ j, j < sz → vs j ≤ 1099 ∧ (J 184 (40 * u + j)).toInt32 = nI (vs j)) := by
  have hT := hI.2.2.2.2.1
  have rf := refusedC (mm_G hP) hT a
  by_cases hy : trayWhy (mm P I J) a = 0
  · rw [hy] at rf
    obtain ⟨u, sz, so, hu, rfl, hsz, hso, d1, d2, d3, d4, d5⟩ := tray_ok hT hy
    have lc := looks_C hP rf hu hsz d1 d5
    have lm : ∀ I', (∀ k i, k = 182 ∨ k = 183 → I' k i = I k i) → F_X12_noLooked 164 (nI u) (mm P I' J) = some (lookWhy u sz J, mm P I' J) := by
      intro I' e
      have nt := noTrayM (mm_G (I := I') (J := J) hP) (nI u)
      rw [trayWhy_I (I := I) (J := J) (fun i => e 182 i (Or.inl rfl)), hy] at nt
      exact looks_M hP nt hu hsz (by rw [e 183 u (Or.inr rfl)]; exact d4)
    by_cases hz : lookWhy u sz J = 0
    · right
      rw [hz] at lc lm
      have hs : (1 ≤ sz ∧ sz ≤ 8) ∧ allN (fun i => lookB (J 184 (40 * u + i))) sz = true := by
        unfold lookWhy at hz
        split at hz
        · next h1 =>
          split at hz
          · next h2 => exact ⟨h1, h2⟩
          · cases hz
        · cases hz
      have hv : ∀ j, j < sz → (J 184 (40 * u + j)).toInt.toNat ≤ 1099 ∧ (J 184 (40 * u + j)).toInt32 = nI (J 184 (40 * u + j)).toInt.toNat := by
        intro j hj
        have hb := (allN_iff sz).mp hs.2 j hj
        obtain ⟨m, m1, m2, m3⟩ := look_v hb
        have : (J 184 (40 * u + j)).toInt.toNat = m := by
          rw [m2, Int32.toInt_toInt64, nI_toInt (by omega), Int.toNat_natCast]
        rw [this]
        exact ⟨m1, m3⟩
      exact ⟨u, sz, fun j => (J 184 (40 * u + j)).toInt.toNat, hu, rfl, hs.1.2, d1, d4, lc, lm, fun j hj => by rw [d5 j hj]; exact hv j hj, hv⟩
    · left
      exact ⟨lookWhy u sz J, hz, lc, lm⟩
  · left
    refine ⟨trayWhy (mm P I J) a, hy, ?_, fun I' e => ?_⟩
    · simp only [F_X11_refusedLooks, ↓bOC hP, ↓bs rf, ↓reduceIte, hy]
    · have nt := noTrayM (mm_G (I := I') (J := J) hP) a
      rw [trayWhy_I (I := I) (J := J) (fun i => e 182 i (Or.inl rfl))] at nt
      simp only [F_X12_noLooked, ↓bOM hP, ↓bs nt, ↓reduceIte, hy]
theorem sim_moons (a1 : Int32) : xSim INV (F_X11_moons 0 a1) (F_X12_moons 164 a1) := by
  refine xSim_qn fun n M hn hI => ?_
  obtain ⟨P, I, J, rfl, hP⟩ := G_mm hI.1
  obtain ⟨t, c, cs, nx, hw, hL, hA, hc, hC, hD, -⟩ := INV_sh hI
  rcases looks_case hP hI a1 with ⟨r, hr, lc, lm⟩ | ⟨u, sz, vs, hu, rfl, hsz, d1, d4, lc, lm, v1, v2⟩
  · have lm' := lm (xu I 164 0 0) (fun k i hk => xu_o (by omega))
    refine ⟨r, mm P I J, thr (mm P I J), ?_, Sc.rf, ?_, thr_Sc⟩
    · simp only [F_X11_moons, ↓bOC hP, ↓bs lc, ↓reduceIte, hr]
    · simp only [F_X12_moons, ↓bOM hP, ↓bs lm', ↓reduceIte, hr, thr_mm]
  · obtain ⟨I1, s1, s2⟩ := seen_C hP (I := I) (J := J) hw hc (by omega) hL hC hu hsz d1 v1
    have lm' := lm (xu I1 164 0 0) (fun k i hk => by rw [xu_o (by omega), s2 k i (by omega) (by omega)])
    have e165 : ∀ i, xu I1 164 0 0 165 i = I 165 i := fun i => by rw [xu_o (by omega), s2 165 i (by omega) (by omega)]
    obtain ⟨I2, m1, m2⟩ := seen_M hP (I := xu I1 164 0 0) (J := J) hw hc (by omega) (LandA_cg (A := I 165) hw (fun x _ => e165 _) hA) (CoastA_cg (A := I 165) hw hc (fun x _ => e165 _) hD) hu hsz (by rw [xu_o (by omega), s2 _ _ (by omega) (by omega)]; exact d4) v2
    have tp : xaP (mm P I J) 40 81 (nI u) = some (82 + 2 * u) := trayP (mm_G hP) hu
    refine ⟨nI (seenN t (cMinute c) vs sz 10), mm P I1 J, mm P I2 J, ?_, Sc_mm (fun k i g => s2 k i (fun z => g (by unfold scr; omega)) (fun z => g (by unfold scr; omega))) (fun _ _ _ => rfl), ?_, Sc_mm (fun k i g => ?_) (fun _ _ _ => rfl)⟩
    · simp only [F_X11_moons, ↓bOC hP, ↓bs lc, ↓reduceIte, ↓bs tp, ↓bs s1]
    · simp only [F_X12_moons, ↓bOM hP, ↓bs lm', ↓reduceIte, ↓bs m1]
    · rw [m2 k i (fun z => g (by unfold scr; omega)) (fun z => g (by unfold scr; omega)), xu_o (fun z => g (by unfold scr; omega))]
/-! ===== when to look ===== -/
def clN (t : Txt) (mi s : Nat) : Nat → Nat → Nat
  | 0, _ => 0
  | j + 1, lv => clN t mi s j lv + (if s.testBit j = true ∧ lvlS t mi j = lv then 1 else 0)
theorem clN_le (t : Txt) (mi s : Nat) : ∀ j lv, clN t mi s j lv ≤ j
  | 0, _ => Nat.le_refl _
  | j + 1, lv => by
    have := clN_le t mi s j lv
    unfold clN
    split <;> omega
def mostN (t : Txt) (mi s : Nat) : Nat → Nat
  | 0 => 0
  | j + 1 => if s.testBit j then max (mostN t mi s j) (clN t mi s (j + 1) (lvlS t mi j)) else mostN t mi s j
theorem mostN_le (t : Txt) (mi s : Nat) : ∀ j, mostN t mi s j ≤ j
  | 0 => Nat.le_refl _
  | j + 1 => by
    have h1 := mostN_le t mi s j
    have h2 := clN_le t mi s (j + 1) (lvlS t mi j)
    unfold mostN
    split <;> omega
theorem alike_C {P : Nat → Nat → Option Nat} (hP : GP P) {I : Nat → Nat → Int32} {J : Nat → Nat → Int64} {t : Txt} {mi s : Nat} (hw : wfT t) (hL : LandC (mm P I J) 14 t) (hmi : mi < 2 ^ 30) (hs : s < 2 ^ 10) : ∃ I', F_X8_mostAlike 29 14 (nI mi) (nI s) (mm P I J) = some (nI (mostN t mi s 10), mm P I' J) ∧ ∀ a i, a ≠ 31 → a ≠ 32 → a ≠ 34 → I' a i = I a i := by
  have fl : F_J7_fill_53178 34 0 (mm P I J) = some (mm P (xfl I 34 0 11 0) J) := fillI (mm_G hP) (by decide +kernel) (by omega) 0
  have key : ∃ r : Int32 × xM, xit (F_X8_mostAlike_14b 29 14 (nI mi) (nI s)) xFU (nI 0, nI 0, mm P (xfl I 34 0 11 0) J) = some r ∧ (∃ I', r = (nI (mostN t mi s 10), mm P I' J) ∧ ∀ a i, a ≠ 31 → a ≠ 32 → a ≠ 34 → I' a i = I a i) := by
    refine xit_inv (fun j z => ∃ I', z = (nI (mostN t mi s j), nI j, mm P I' J) ∧ (∀ a i, a ≠ 31 → a ≠ 32 → a ≠ 34 → I' a i = I a i) ∧ ∀ lv, lv ≤ 10 → I' 34 lv = nI (clN t mi s j lv)) _ 10 ⟨_, rfl, fun a i _ _ h => ?_, fun lv hlv => ?_⟩ (fun j z hj hq => ?_) (fun z hq => ?_) (by omega)
    · unfold xfl
      rw [if_neg (by omega)]
    · unfold xfl
      rw [if_pos (by omega)]
      rfl
    · obtain ⟨I1, rfl, q1, q2⟩ := hq
      left
      have c1 : ¬ (10 : Int32) ≤ nI j := nI_ge (b := 10) hj (by omega)
      have bt := bitN (s := s) (c := j) (by omega) (by omega)
      cases hb : s.testBit j with
      | false =>
        rw [hb] at bt
        have e1 : mostN t mi s (j + 1) = mostN t mi s j := by
          show (if s.testBit j then _ else _) = _
          rw [hb]; rfl
        rw [e1]
        refine ⟨_, ?_, I1, rfl, q1, fun lv hlv => ?_⟩
        · simp only [F_X8_mostAlike_14b, F_X8_mostAlike_65, ↓reduceIte, c1, bt, Bool.false_eq_true, nI_1]
        · rw [q2 lv hlv]
          show _ = nI (clN t mi s j lv + _)
          rw [if_neg (fun z => by rw [hb] at z; cases z.1)]
          rfl
      | true =>
        rw [hb] at bt
        obtain ⟨I2, t1, t2⟩ := tide_C hP (I := I1) (J := J) hw (LandC_I (fun a i _ _ => q1 a i (by omega) (by omega) (by omega)) hL) (mi := mi) (mo := j) (by omega)
        have ll := lvlS_le t mi j
        have v1 : I2 34 (lvlS t mi j) = nI (clN t mi s j (lvlS t mi j)) := by rw [t2 34 _ (by omega) (by omega)]; exact q2 _ ll
        have e2 : clN t mi s (j + 1) (lvlS t mi j) = clN t mi s j (lvlS t mi j) + 1 := by
          show clN t mi s j (lvlS t mi j) + _ = _
          rw [if_pos ⟨hb, rfl⟩]
        have e1 : mostN t mi s (j + 1) = max (mostN t mi s j) (clN t mi s j (lvlS t mi j) + 1) := by
          show (if s.testBit j then _ else _) = _
          rw [hb, if_pos rfl, e2]
        have ml := mostN_le t mi s j
        have cl := clN_le t mi s j (lvlS t mi j)
        have mx := maxJ (a := mostN t mi s j) (b := clN t mi s j (lvlS t mi j) + 1) (by omega) (by omega) (mm P (xu I2 34 (lvlS t mi j) (nI (clN t mi s j (lvlS t mi j) + 1))) J)
        rw [e1]
        refine ⟨_, ?_, xu I2 34 (lvlS t mi j) (nI (clN t mi s j (lvlS t mi j) + 1)), rfl, fun a i h1 h2 h3 => by rw [xu_o (by omega), t2 a i h1 h2, q1 a i h1 h2 h3], fun lv hlv => ?_⟩
        · simp (disch := omega) only [F_X8_mostAlike_14b, F_X8_mostAlike_65, ↓reduceIte, c1, bt, one_ne, ↓bOC hP, ↓bAC, ↓bs t1, v1, nI_1, xu_self, ↓bs mx]
        · show _ = nI (clN t mi s j lv + _)
          by_cases e : lvlS t mi j = lv
          · subst e
            rw [xu_self, if_pos ⟨hb, rfl⟩]
          · rw [xu_o (by omega), t2 34 _ (by omega) (by omega), q2 lv hlv, if_neg (fun z => e z.2)]
            rfl
    · obtain ⟨I1, rfl, q1, q2⟩ := hq
      have c1 : (10 : Int32) ≤ nI 10 := by decide
      exact ⟨_, by simp only [F_X8_mostAlike_14b, F_X8_mostAlike_71, ↓reduceIte, c1, Option.map_some], I1, rfl, q1⟩
  obtain ⟨r, h1, I', rfl, h2⟩ := key
  refine ⟨I', ?_, h2⟩
  unfold F_X8_mostAlike F_X8_mostAlike_14
  simp only [↓bOC hP, ↓bs fl]
  exact h1
theorem often_M {P : Nat → Nat → Option Nat} (hP : GP P) {I : Nat → Nat → Int32} {J : Nat → Nat → Int64} {t : Txt} {c : Cst} {m s : Nat} (hw : wfT t) (hA : LandA (I 165) 0 t) (h107 : I 165 107 = nI (cMinute c)) (hmi : cMinute c + m < 2 ^ 30) (hs : s < 2 ^ 10) : ∃ I', F_X12_mostOften 164 (nI m) (nI s) (mm P I J) = some (nI (mostN t (cMinute c + m) s 10), mm P I' J) ∧ ∀ a i, a ≠ 169 → a ≠ 170 → a ≠ 179 → I' a i = I a i := by
  have key : ∀ I0, (∀ a i, a ≠ 169 → a ≠ 170 → a ≠ 179 → I0 a i = I a i) → (∀ lv, lv ≤ 10 → I0 179 lv = 0) → ∃ r : Int32 × xM, xit (F_X12_mostOften_29b 164 (nI m) (nI s)) xFU (nI 0, nI 0, mm P I0 J) = some r ∧ (∃ I', r = (nI (mostN t (cMinute c + m) s 10), mm P I' J) ∧ ∀ a i, a ≠ 169 → a ≠ 170 → a ≠ 179 → I' a i = I a i) := by
    intro I0 k0 k1
    refine xit_inv (fun j z => ∃ I', z = (nI (mostN t (cMinute c + m) s j), nI j, mm P I' J) ∧ (∀ a i, a ≠ 169 → a ≠ 170 → a ≠ 179 → I' a i = I a i) ∧ ∀ lv, lv ≤ 10 → I' 179 lv = nI (clN t (cMinute c + m) s j lv)) _ 10 ⟨I0, rfl, k0, fun lv hlv => k1 lv hlv⟩ (fun j z hj hq => ?_) (fun z hq => ?_) (by omega)
    · obtain ⟨I1, rfl, q1, q2⟩ := hq
      left
      have c1 : ¬ (10 : Int32) ≤ nI j := nI_ge (b := 10) hj (by omega)
      have ii := isInM (m := s) (c := j) (by omega) (by omega) (mm P I1 J)
      have m7 : I1 165 107 = nI (cMinute c) := by rw [q1 _ _ (by omega) (by omega) (by omega)]; exact h107
      cases hb : s.testBit j with
      | false =>
        rw [hb] at ii
        have e1 : mostN t (cMinute c + m) s (j + 1) = mostN t (cMinute c + m) s j := by
          show (if s.testBit j then _ else _) = _
          rw [hb]; rfl
        rw [e1]
        refine ⟨_, ?_, I1, rfl, q1, fun lv hlv => ?_⟩
        · simp only [F_X12_mostOften_29b, F_X12_mostOften_100, ↓reduceIte, c1, ↓bs ii, Bool.false_eq_true, nI_1]
        · rw [q2 lv hlv]
          show _ = nI (clN t (cMinute c + m) s j lv + _)
          rw [if_neg (fun z => by rw [hb] at z; cases z.1)]
          rfl
      | true =>
        rw [hb] at ii
        obtain ⟨I2, t1, t2⟩ := level_M hP (I := I1) (J := J) hw (LandA_cg (A := I 165) hw (fun x _ => q1 _ _ (by omega) (by omega) (by omega)) hA) (mi := cMinute c + m) (mo := j) (by omega)
        have ll := lvlS_le t (cMinute c + m) j
        have v1 : I2 179 (lvlS t (cMinute c + m) j) = nI (clN t (cMinute c + m) s j (lvlS t (cMinute c + m) j)) := by rw [t2 179 _ (by omega) (by omega)]; exact q2 _ ll
        have e2 : clN t (cMinute c + m) s (j + 1) (lvlS t (cMinute c + m) j) = clN t (cMinute c + m) s j (lvlS t (cMinute c + m) j) + 1 := by
          show clN t (cMinute c + m) s j (lvlS t (cMinute c + m) j) + _ = _
          rw [if_pos ⟨hb, rfl⟩]
        have e1 : mostN t (cMinute c + m) s (j + 1) = max (mostN t (cMinute c + m) s j) (clN t (cMinute c + m) s j (lvlS t (cMinute c + m) j) + 1) := by
          show (if s.testBit j then _ else _) = _
          rw [hb, if_pos rfl, e2]
        have ml := mostN_le t (cMinute c + m) s j
        have cl := clN_le t (cMinute c + m) s j (lvlS t (cMinute c + m) j)
        have le : nI (clN t (cMinute c + m) s j (lvlS t (cMinute c + m) j) + 1) ≤ nI (mostN t (cMinute c + m) s j) ↔ clN t (cMinute c + m) s j (lvlS t (cMinute c + m) j) + 1 ≤ mostN t (cMinute c + m) s j := nI_leI (by omega) (by omega)
        rw [e1]
        refine ⟨(nI (max (mostN t (cMinute c + m) s j) (clN t (cMinute c + m) s j (lvlS t (cMinute c + m) j) + 1)), nI (j + 1), mm P (xu I2 179 (lvlS t (cMinute c + m) j) (nI (clN t (cMinute c + m) s j (lvlS t (cMinute c + m) j) + 1))) J), ?_, xu I2 179 (lvlS t (cMinute c + m) j) (nI (clN t (cMinute c + m) s j (lvlS t (cMinute c + m) j) + 1)), rfl, fun a i h1 h2 h3 => by rw [xu_o (by omega), t2 a i h1 h2, q1 a i h1 h2 h3], fun lv hlv => ?_⟩
        · unfold F_X12_mostOften_29b F_X12_mostOften_99 F_X12_mostOften_100
          simp only [↓reduceIte, c1, ↓bs ii, one_ne, ↓bOM hP, ↓bAM, m7]
          simp only [nI_add]
          simp (disch := omega) only [↓bs t1, ↓bOM hP, ↓bAM, v1, nI_1, xu_self, le]
          by_cases h : clN t (cMinute c + m) s j (lvlS t (cMinute c + m) j) + 1 ≤ mostN t (cMinute c + m) s j
          · rw [if_pos h, Nat.max_eq_left h]
          · rw [if_neg h, Nat.max_eq_right (by omega)]
        · show _ = nI (clN t (cMinute c + m) s j lv + _)
          by_cases e : lvlS t (cMinute c + m) j = lv
          · subst e
            rw [xu_self, if_pos ⟨hb, rfl⟩]
          · rw [xu_o (by omega), t2 179 _ (by omega) (by omega), q2 lv hlv, if_neg (fun z => e z.2)]
            rfl
    · obtain ⟨I1, rfl, q1, q2⟩ := hq
      have c1 : (10 : Int32) ≤ nI 10 := by decide
      exact ⟨_, by simp only [F_X12_mostOften_29b, F_X12_mostOften_106, ↓reduceIte, c1, Option.map_some], I1, rfl, q1⟩
  have clear : ∃ r : Int32 × xM, xit (F_X12_mostOften_5b 164 (nI m) (nI s) 0) xFU (nI 0, mm P I J) = some r ∧ (∃ I', r = (nI (mostN t (cMinute c + m) s 10), mm P I' J) ∧ ∀ a i, a ≠ 169 → a ≠ 170 → a ≠ 179 → I' a i = I a i) := by
    refine xit_inv (fun j z => ∃ I', z = (nI j, mm P I' J) ∧ (∀ a i, a ≠ 169 → a ≠ 170 → a ≠ 179 → I' a i = I a i) ∧ ∀ lv, lv < j → I' 179 lv = 0) _ 11 ⟨I, rfl, fun _ _ _ _ _ => rfl, fun lv hlv => by omega⟩ (fun j z hj hq => ?_) (fun z hq => ?_) (by omega)
    · obtain ⟨I1, rfl, q1, q2⟩ := hq
      left
      have c1 : ¬ (10 : Int32) < nI j := nI_nlt (a := 10) (by omega) (by omega)
      refine ⟨_, by simp (disch := omega) only [F_X12_mostOften_5b, ↓reduceIte, c1, ↓bOM hP, ↓bAM, nI_1], xu I1 179 j 0, rfl, fun a i h1 h2 h3 => by rw [xu_o (by omega), q1 a i h1 h2 h3], fun lv hlv => ?_⟩
      by_cases e : lv = j
      · subst e; rw [xu_self]
      · rw [xu_o (by omega)]; exact q2 lv (by omega)
    · obtain ⟨I1, rfl, q1, q2⟩ := hq
      obtain ⟨r, k1, k2⟩ := key I1 q1 (fun lv hlv => q2 lv (by omega))
      refine ⟨r, ?_, k2⟩
      have c1 : (10 : Int32) < nI 11 := by decide
      simp only [F_X12_mostOften_5b, F_X12_mostOften_26, F_X12_mostOften_29, ↓reduceIte, c1]
      rw [show (0 : Int32) = nI 0 from rfl, k1]
      rfl
  obtain ⟨r, h1, I', rfl, h2⟩ := clear
  exact ⟨I', h1, h2⟩
def bstF (b0 : Int32) (f0 : Nat) (q : Nat → Nat) : Nat → Int32 × Nat
  | 0 => (b0, f0)
  | j + 1 => if q j < (bstF b0 f0 q j).2 then (nI j, q j) else bstF b0 f0 q j
theorem bstF_eq {b0 b0' : Int32} {f0 f0' : Nat} {q : Nat → Nat} (h : q 0 < f0) (h' : q 0 < f0') : ∀ j, bstF b0 f0 q (j + 1) = bstF b0' f0' q (j + 1)
  | 0 => by
    show (if q 0 < f0 then _ else _) = (if q 0 < f0' then _ else _)
    rw [if_pos h, if_pos h']
  | j + 1 => by
    have ih := bstF_eq (b0 := b0) (b0' := b0') h h' j
    show (if q (j + 1) < (bstF b0 f0 q (j + 1)).2 then _ else bstF b0 f0 q (j + 1)) = (if q (j + 1) < (bstF b0' f0' q (j + 1)).2 then _ else bstF b0' f0' q (j + 1))
    rw [ih]
theorem bstF_le {b0 : Int32} {f0 : Nat} {q : Nat → Nat} : ∀ j, (bstF b0 f0 q j).2 ≤ f0
  | 0 => Nat.le_refl _
  | j + 1 => by
    have := bstF_le (b0 := b0) (f0 := f0) (q := q) j
    unfold bstF
    split
    · show q j ≤ f0
      omega
    · exact this
theorem sim_look (a1 : Int32) : xSim INV (F_X11_look 0 a1) (F_X12_look 164 a1) := by
  refine xSim_qn fun n M hn hI => ?_
  obtain ⟨P, I, J, rfl, hP⟩ := G_mm hI.1
  obtain ⟨t, c, cs, nx, hw, hL, hA, hc, hC, hD, -⟩ := INV_sh hI
  have hmi : cMinute c ≤ 99 * n := hc.2.2.2.2
  rcases looks_case hP hI a1 with ⟨r, hr, lc, lm⟩ | ⟨u, sz, vs, hu, rfl, hsz, d1, d4, lc, lm, v1, v2⟩
  · have lm' := lm (xu I 164 0 0) (fun k i hk => xu_o (by omega))
    refine ⟨r, mm P I J, thr (mm P I J), ?_, Sc.rf, ?_, thr_Sc⟩
    · simp only [F_X11_look, ↓bOC hP, ↓bs lc, ↓reduceIte, hr]
    · simp only [F_X12_look, ↓bOM hP, ↓bs lm', ↓reduceIte, hr, thr_mm]
  · obtain ⟨I1, s1, s2⟩ := seen_C hP (I := I) (J := J) hw hc (by omega) hL hC hu hsz d1 v1
    have sl := seenN_lt t (cMinute c) vs sz 10
    have tp : xaP (mm P I J) 40 81 (nI u) = some (82 + 2 * u) := trayP (mm_G hP) hu
    by_cases hz : seenN t (cMinute c) vs sz 10 = 0
    · have lm' := lm (xu I1 164 0 0) (fun k i hk => by rw [xu_o (by omega), s2 k i (by omega) (by omega)])
      have e165 : ∀ i, xu I1 164 0 0 165 i = I 165 i := fun i => by rw [xu_o (by omega), s2 165 i (by omega) (by omega)]
      obtain ⟨I2, m1, m2⟩ := seen_M hP (I := xu I1 164 0 0) (J := J) hw hc (by omega) (LandA_cg (A := I 165) hw (fun x _ => e165 _) hA) (CoastA_cg (A := I 165) hw hc (fun x _ => e165 _) hD) hu hsz (by rw [xu_o (by omega), s2 _ _ (by omega) (by omega)]; exact d4) v2
      rw [hz] at s1 m1
      have z : nI 0 = (0 : Int32) := rfl
      refine ⟨-1, mm P I1 J, mm P I2 J, ?_, Sc_mm (fun k i g => s2 k i (fun z => g (by unfold scr; omega)) (fun z => g (by unfold scr; omega))) (fun _ _ _ => rfl), ?_, Sc_mm (fun k i g => ?_) (fun _ _ _ => rfl)⟩
      · simp only [F_X11_look, ↓bOC hP, ↓bs lc, ↓reduceIte, ↓bs tp, ↓bs s1, z]
      · have run : F_X12_look_34 164 (nI 0) (-1) (268435456) 0 (mm P I2 J) = some (-1, mm P I2 J) := by
          unfold F_X12_look_34
          refine xit_run (fun _ => ((-1 : Int32), (268435456 : Int32), (0 : Int32), mm P I2 J)) 0 rfl (fun j hj => by omega) ?_ (by omega)
          have c1 : ¬ (100 : Int32) ≤ 0 := by decide
          simp only [F_X12_look_34b, F_X12_look_78, ↓reduceIte, c1, z, Option.map_some]
        simp only [F_X12_look, ↓bOM hP, ↓bs lm', ↓reduceIte, ↓bs m1, run]
      · rw [m2 k i (fun z => g (by unfold scr; omega)) (fun z => g (by unfold scr; omega)), xu_o (fun z => g (by unfold scr; omega))]
    · have nz : ¬ nI (seenN t (cMinute c) vs sz 10) = 0 := nI_ne0 (by omega) (by omega)
      have ml : ∀ j, mostN t (cMinute c + j) (seenN t (cMinute c) vs sz 10) 10 ≤ 10 := fun j => mostN_le _ _ _ 10
      obtain ⟨I3, c3, k3⟩ : ∃ I3, F_X11_look_39 0 (nI (seenN t (cMinute c) vs sz 10)) 0 11 0 (mm P I1 J) = some ((bstF 0 11 (fun j => mostN t (cMinute c + j) (seenN t (cMinute c) vs sz 10) 10) 100).1, mm P I3 J) ∧ ∀ a i, a ≠ 31 → a ≠ 32 → a ≠ 34 → I3 a i = I a i := by
        have key : ∃ r : Int32 × xM, xit (F_X11_look_39b 0 (nI (seenN t (cMinute c) vs sz 10))) xFU (0, nI 11, nI 0, mm P I1 J) = some r ∧ (∃ I3, r = ((bstF 0 11 (fun j => mostN t (cMinute c + j) (seenN t (cMinute c) vs sz 10) 10) 100).1, mm P I3 J) ∧ ∀ a i, a ≠ 31 → a ≠ 32 → a ≠ 34 → I3 a i = I a i) := by
          refine xit_inv (fun j z => ∃ I3, z = ((bstF 0 11 (fun j => mostN t (cMinute c + j) (seenN t (cMinute c) vs sz 10) 10) j).1, nI (bstF 0 11 (fun j => mostN t (cMinute c + j) (seenN t (cMinute c) vs sz 10) 10) j).2, nI j, mm P I3 J) ∧ ∀ a i, a ≠ 31 → a ≠ 32 → a ≠ 34 → I3 a i = I a i) _ 100 ⟨I1, rfl, fun a i h1 h2 _ => s2 a i h1 h2⟩ (fun j z hj hq => ?_) (fun z hq => ?_) (by omega)
          · obtain ⟨I3, rfl, q1⟩ := hq
            left
            have c1 : ¬ (100 : Int32) ≤ nI j := nI_ge (b := 100) hj (by omega)
            have m6 : I3 21 6 = nI (cMinute c) := by rw [q1 _ _ (by omega) (by omega) (by omega)]; exact hC.2.2.2.2.2
            obtain ⟨I4, t1, t2⟩ := alike_C hP (I := I3) (J := J) (mi := cMinute c + j) (s := seenN t (cMinute c) vs sz 10) hw (LandC_I (fun a i _ _ => q1 a i (by omega) (by omega) (by omega)) hL) (by omega) sl
            have bl := bstF_le (b0 := 0) (f0 := 11) (q := fun j => mostN t (cMinute c + j) (seenN t (cMinute c) vs sz 10) 10) j
            have mj := ml j
            have le : nI (bstF 0 11 (fun j => mostN t (cMinute c + j) (seenN t (cMinute c) vs sz 10) 10) j).2 ≤ nI (mostN t (cMinute c + j) (seenN t (cMinute c) vs sz 10) 10) ↔ (bstF 0 11 (fun j => mostN t (cMinute c + j) (seenN t (cMinute c) vs sz 10) 10) j).2 ≤ mostN t (cMinute c + j) (seenN t (cMinute c) vs sz 10) 10 := nI_leI (by omega) (by omega)
            refine ⟨((bstF 0 11 (fun j => mostN t (cMinute c + j) (seenN t (cMinute c) vs sz 10) 10) (j + 1)).1, nI (bstF 0 11 (fun j => mostN t (cMinute c + j) (seenN t (cMinute c) vs sz 10) 10) (j + 1)).2, nI (j + 1), mm P I4 J), ?_, I4, rfl, fun a i h1 h2 h3 => by rw [t2 a i h1 h2 h3, q1 a i h1 h2 h3]⟩
            unfold F_X11_look_39b F_X11_look_85
            simp only [↓reduceIte, c1, ↓bOC hP, m6]
            simp only [nI_add]
            simp only [↓bs t1, le, nI_1, bstF]
            by_cases h : (bstF 0 11 (fun j => mostN t (cMinute c + j) (seenN t (cMinute c) vs sz 10) 10) j).2 ≤ mostN t (cMinute c + j) (seenN t (cMinute c) vs sz 10) 10
            · rw [if_pos h, if_neg (by omega)]
            · rw [if_neg h, if_pos (by omega)]
          · obtain ⟨I3, rfl, q1⟩ := hq
            have c1 : (100 : Int32) ≤ nI 100 := by decide
            exact ⟨_, by simp only [F_X11_look_39b, F_X11_look_91, ↓reduceIte, c1, Option.map_some], I3, rfl, q1⟩
        obtain ⟨r, h1, I3, rfl, h2⟩ := key
        exact ⟨I3, h1, h2⟩
      have lm' := lm (xu I3 164 0 0) (fun k i hk => by rw [xu_o (by omega), k3 k i (by omega) (by omega) (by omega)])
      have e165 : ∀ i, xu I3 164 0 0 165 i = I 165 i := fun i => by rw [xu_o (by omega), k3 165 i (by omega) (by omega) (by omega)]
      obtain ⟨I2, m1, m2⟩ := seen_M hP (I := xu I3 164 0 0) (J := J) hw hc (by omega) (LandA_cg (A := I 165) hw (fun x _ => e165 _) hA) (CoastA_cg (A := I 165) hw hc (fun x _ => e165 _) hD) hu hsz (by rw [xu_o (by omega), k3 _ _ (by omega) (by omega) (by omega)]; exact d4) v2
      obtain ⟨I5, c5, k5⟩ : ∃ I5, F_X12_look_34 164 (nI (seenN t (cMinute c) vs sz 10)) (-1) (268435456) 0 (mm P I2 J) = some ((bstF (-1) 268435456 (fun j => mostN t (cMinute c + j) (seenN t (cMinute c) vs sz 10) 10) 100).1, mm P I5 J) ∧ ∀ a i, a ≠ 169 → a ≠ 170 → a ≠ 179 → I5 a i = xu I3 164 0 0 a i := by
        have key : ∃ r : Int32 × xM, xit (F_X12_look_34b 164 (nI (seenN t (cMinute c) vs sz 10))) xFU (-1, nI 268435456, nI 0, mm P I2 J) = some r ∧ (∃ I5, r = ((bstF (-1) 268435456 (fun j => mostN t (cMinute c + j) (seenN t (cMinute c) vs sz 10) 10) 100).1, mm P I5 J) ∧ ∀ a i, a ≠ 169 → a ≠ 170 → a ≠ 179 → I5 a i = xu I3 164 0 0 a i) := by
          refine xit_inv (fun j z => ∃ I5, z = ((bstF (-1) 268435456 (fun j => mostN t (cMinute c + j) (seenN t (cMinute c) vs sz 10) 10) j).1, nI (bstF (-1) 268435456 (fun j => mostN t (cMinute c + j) (seenN t (cMinute c) vs sz 10) 10) j).2, nI j, mm P I5 J) ∧ ∀ a i, a ≠ 169 → a ≠ 170 → a ≠ 179 → I5 a i = xu I3 164 0 0 a i) _ 100 ⟨I2, rfl, fun a i h1 h2 _ => m2 a i h1 h2⟩ (fun j z hj hq => ?_) (fun z hq => ?_) (by omega)
          · obtain ⟨I5, rfl, q1⟩ := hq
            left
            have c1 : ¬ (100 : Int32) ≤ nI j := nI_ge (b := 100) hj (by omega)
            have q165 : ∀ i, I5 165 i = I 165 i := fun i => by rw [q1 165 i (by omega) (by omega) (by omega), e165]
            obtain ⟨I6, t1, t2⟩ := often_M hP (I := I5) (J := J) (c := c) (m := j) (s := seenN t (cMinute c) vs sz 10) hw (LandA_cg (A := I 165) hw (fun x _ => q165 _) hA) (by rw [q165]; exact hD.2.2.2.2.2) (by omega) sl
            have bl := bstF_le (b0 := -1) (f0 := 268435456) (q := fun j => mostN t (cMinute c + j) (seenN t (cMinute c) vs sz 10) 10) j
            have mj := ml j
            have lt : nI (mostN t (cMinute c + j) (seenN t (cMinute c) vs sz 10) 10) < nI (bstF (-1) 268435456 (fun j => mostN t (cMinute c + j) (seenN t (cMinute c) vs sz 10) 10) j).2 ↔ mostN t (cMinute c + j) (seenN t (cMinute c) vs sz 10) 10 < (bstF (-1) 268435456 (fun j => mostN t (cMinute c + j) (seenN t (cMinute c) vs sz 10) 10) j).2 := nI_ltI (by omega) (by omega)
            refine ⟨((bstF (-1) 268435456 (fun j => mostN t (cMinute c + j) (seenN t (cMinute c) vs sz 10) 10) (j + 1)).1, nI (bstF (-1) 268435456 (fun j => mostN t (cMinute c + j) (seenN t (cMinute c) vs sz 10) 10) (j + 1)).2, nI (j + 1), mm P I6 J), ?_, I6, rfl, fun a i h1 h2 h3 => by rw [t2 a i h1 h2 h3, q1 a i h1 h2 h3]⟩
            simp only [F_X12_look_34b, F_X12_look_72, ↓reduceIte, c1, nz, ↓bOM hP, ↓bs t1, lt, nI_1, bstF]
            split <;> rfl
          · obtain ⟨I5, rfl, q1⟩ := hq
            have c1 : (100 : Int32) ≤ nI 100 := by decide
            exact ⟨_, by simp only [F_X12_look_34b, F_X12_look_78, ↓reduceIte, c1, Option.map_some], I5, rfl, q1⟩
        obtain ⟨r, h1, I5, rfl, h2⟩ := key
        exact ⟨I5, h1, h2⟩
      have eq := bstF_eq (b0 := 0) (b0' := -1) (f0 := 11) (f0' := 268435456) (q := fun j => mostN t (cMinute c + j) (seenN t (cMinute c) vs sz 10) 10) (by have := ml 0; show _ < 11; omega) (by have := ml 0; show _ < 268435456; omega) 99
      rw [← eq] at c5
      refine ⟨(bstF 0 11 (fun j => mostN t (cMinute c + j) (seenN t (cMinute c) vs sz 10) 10) 100).1, mm P I3 J, mm P I5 J, ?_, Sc_mm (fun k i g => k3 k i (fun z => g (by unfold scr; omega)) (fun z => g (by unfold scr; omega)) (fun z => g (by unfold scr; omega))) (fun _ _ _ => rfl), ?_, Sc_mm (fun k i g => ?_) (fun _ _ _ => rfl)⟩
      · simp only [F_X11_look, ↓bOC hP, ↓bs lc, ↓reduceIte, ↓bs tp, ↓bs s1, nz, c3]
      · simp only [F_X12_look, ↓bOM hP, ↓bs lm', ↓reduceIte, ↓bs m1, c5]
      · rw [k5 k i (fun z => g (by unfold scr; omega)) (fun z => g (by unfold scr; omega)) (fun z => g (by unfold scr; omega)), xu_o (fun z => g (by unfold scr; omega))]
