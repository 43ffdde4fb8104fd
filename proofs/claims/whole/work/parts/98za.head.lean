/-! ===== before the text ===== -/
theorem lm_tab : ∀ w, w < 6 → 1 ≤ w → ∀ j, j < 5 → leftM j w ||| 2 ^ (j * w) = leftM (j + 1) w := by decide +kernel
theorem setSize_C {P : Nat → Nat → Option Nat} (hP : GP P) {I : Nat → Nat → Int32} {J : Nat → Nat → Int64} {r w : Nat} (r1 : 1 ≤ r) (r5 : r ≤ 5) (w1 : 1 ≤ w) (w5 : w ≤ 5) :
    ∃ I', F_X3_setSize 3 (nI r) (nI w) (mm P I J) = some (mm P I' J) ∧ (∀ a i, ¬ (a = 3 ∧ i < 3) → I' a i = I a i) ∧ I' 3 0 = nI r ∧ I' 3 1 = nI w ∧ I' 3 2 = nI (leftM r w) := by
  obtain ⟨I0, hI0⟩ : ∃ I0, I0 = xu (xu (xu I 3 0 (nI r)) 3 1 (nI w)) 3 2 0 := ⟨_, rfl⟩
  have key : ∃ z : xM, xit (F_X3_setSize_17b 3) xFU (nI 0, mm P I0 J) = some z ∧ (∃ I', z = mm P I' J ∧ (∀ a i, ¬ (a = 3 ∧ i < 3) → I' a i = I a i) ∧ I' 3 0 = nI r ∧ I' 3 1 = nI w ∧ I' 3 2 = nI (leftM r w)) := by
    refine xit_inv (fun j z => ∃ I', z = (nI j, mm P I' J) ∧ (∀ a i, ¬ (a = 3 ∧ i < 3) → I' a i = I a i) ∧ I' 3 0 = nI r ∧ I' 3 1 = nI w ∧ I' 3 2 = nI (leftM j w)) _ r ⟨I0, rfl, fun a i z => by rw [hI0, xu_o (by omega), xu_o (by omega), xu_o (by omega)], by rw [hI0, xu_o (by omega), xu_o (by omega), xu_self], by rw [hI0, xu_o (by omega), xu_self], by rw [hI0, xu_self]; rfl⟩ (fun j z hj hz => ?_) (fun z hz => ?_) (by omega)
    · obtain ⟨I1, rfl, g1, g2, g3, g4⟩ := hz
      left
      have c1 : ¬ nI r ≤ nI j := nI_ge hj (by omega)
      have ix : nI j * nI w = nI (j * w) := pk_mul _ _
      have jw : j * w ≤ 4 * 5 := Nat.mul_le_mul (by omega) w5
      have l1 := (left_lt j (by omega) w (by omega)).1
      have p : 2 ^ (j * w) < 2 ^ 25 := Nat.pow_lt_pow_right (by omega) (by omega)
      have tb := lm_tab w (by omega) w1 j (by omega)
      refine ⟨(nI (j + 1), mm P (xu I1 3 2 (nI (leftM (j + 1) w))) J), ?_, _, rfl, fun a i z => by rw [xu_o (by omega)]; exact g1 a i z, by rw [xu_o (by omega)]; exact g2, by rw [xu_o (by omega)]; exact g3, xu_self⟩
      unfold F_X3_setSize_17b
      simp (disch := omega) only [↓bOR hP, g2, c1, ↓reduceIte, g3, g4, ix, one_shl, orN, tb, nI_1]
    · obtain ⟨I1, rfl, g1, g2, g3, g4⟩ := hz
      have c1 : nI r ≤ nI r := nI_le (Nat.le_refl _) (by omega)
      refine ⟨mm P I1 J, ?_, I1, rfl, g1, g2, g3, g4⟩
      unfold F_X3_setSize_17b F_X3_setSize_48
      simp only [↓bOR hP, g2, c1, ↓reduceIte, Option.map_some]
  obtain ⟨z, k1, I', rfl, k2⟩ := key
  refine ⟨I', ?_, k2⟩
  unfold F_X3_setSize F_X3_setSize_17
  simp only [↓bOR hP]
  rw [← hI0]
  exact k1
theorem clearL_C {P : Nat → Nat → Option Nat} (hP : GP P) (I : Nat → Nat → Int32) (J : Nat → Nat → Int64) :
    ∃ I', F_X3_clear 3 (mm P I J) = some (mm P I' J) ∧ (∀ a i, a ≠ 3 → a ≠ 8 → I' a i = I a i) ∧ I' 3 0 = nI 1 ∧ I' 3 1 = nI 1 ∧ I' 3 2 = nI (leftM 1 1) ∧ (∀ i, 3 ≤ i → i ≤ 11 → I' 3 i = 0) ∧ ∀ o, o < 5 → I' 8 o = 0 := by
  obtain ⟨I1, a1, a2, a3, a4, a5⟩ := setSize_C hP (I := I) (J := J) (r := 1) (w := 1) (by omega) (by omega) (by omega) (by omega)
  have a1' : F_X3_setSize 3 (1 : Int32) (1 : Int32) (mm P I J) = some (mm P I1 J) := a1
  obtain ⟨I2, hI2⟩ : ∃ I2, I2 = xu (xu (xu (xu (xu (xu (xu (xu (xu I1 3 3 0) 3 4 0) 3 5 0) 3 6 0) 3 7 0) 3 8 0) 3 9 0) 3 10 0) 3 11 0 := ⟨_, rfl⟩
  have fl : F_J7_fill_53178 8 0 (mm P I2 J) = some (mm P (xfl I2 8 0 5 0) J) := fillI (mm_G hP) (by decide +kernel) (by omega) 0
  have e3 : ∀ a i, a ≠ 8 → xfl I2 8 0 5 0 a i = I2 a i := fun a i h => by unfold xfl; rw [if_neg (by omega)]
  have e4 : ∀ a i, ¬ (a = 3 ∧ 3 ≤ i ∧ i ≤ 11) → I2 a i = I1 a i := fun a i h => by rw [hI2, xu_o (by omega), xu_o (by omega), xu_o (by omega), xu_o (by omega), xu_o (by omega), xu_o (by omega), xu_o (by omega), xu_o (by omega), xu_o (by omega)]
  refine ⟨xfl I2 8 0 5 0, ?_, fun a i h1 h2 => by rw [e3 a i h2, e4 a i (by omega), a2 a i (by omega)], by rw [e3 _ _ (by omega), e4 _ _ (by omega)]; exact a3, by rw [e3 _ _ (by omega), e4 _ _ (by omega)]; exact a4, by rw [e3 _ _ (by omega), e4 _ _ (by omega)]; exact a5, fun i h1 h2 => ?_, fun o ho => ?_⟩
  · unfold F_X3_clear
    simp only [↓bOR hP, ↓bs a1']
    rw [← hI2]
    simp only [↓bOR hP, ↓bs fl]
  · rw [e3 _ _ (by omega), hI2]
    unfold xu
    have : i = 3 ∨ i = 4 ∨ i = 5 ∨ i = 6 ∨ i = 7 ∨ i = 8 ∨ i = 9 ∨ i = 10 ∨ i = 11 := by omega
    rcases this with rfl | rfl | rfl | rfl | rfl | rfl | rfl | rfl | rfl <;> simp
  · unfold xfl
    rw [if_pos (by omega)]
theorem clearC_C {P : Nat → Nat → Option Nat} (hP : GP P) (I : Nat → Nat → Int32) (J : Nat → Nat → Int64) :
    ∃ I', F_X0_clear 10 (mm P I J) = some (mm P I' J) ∧ (∀ a i, a ≠ 10 → a ≠ 11 → I' a i = I a i) ∧ (∀ i, i < 25 → I' 11 i = 0) ∧ I' 10 3 = 0 ∧ I' 10 4 = 0 ∧ I' 10 5 = 0 ∧ I' 10 6 = 0 := by
  have fl : F_J7_fill_53178 11 0 (mm P I J) = some (mm P (xfl I 11 0 25 0) J) := fillI (mm_G hP) (by decide +kernel) (by omega) 0
  refine ⟨xu (xu (xu (xu (xfl I 11 0 25 0) 10 3 0) 10 4 0) 10 5 0) 10 6 0, ?_, fun a i h1 h2 => ?_, fun i hi => ?_, ?_, ?_, ?_, xu_self⟩
  · unfold F_X0_clear
    simp only [↓bOR hP, ↓bs fl]
  · rw [xu_o (by omega), xu_o (by omega), xu_o (by omega), xu_o (by omega)]
    unfold xfl
    rw [if_neg (by omega)]
  · rw [xu_o (by omega), xu_o (by omega), xu_o (by omega), xu_o (by omega)]
    unfold xfl
    rw [if_pos (by omega)]
  · rw [xu_o (by omega), xu_o (by omega), xu_o (by omega), xu_self]
  · rw [xu_o (by omega), xu_o (by omega), xu_self]
  · rw [xu_o (by omega), xu_self]
theorem plain_M {P : Nat → Nat → Option Nat} (hP : GP P) (K : Nat → Nat → Int32) (J : Nat → Nat → Int64) :
    ∃ K', F_X12_plain 168 (mm P K J) = some (mm P K' J) ∧ (∀ a i, a ≠ 168 → K' a i = K a i) ∧ K' 168 1 = 1 ∧ K' 168 2 = 1 ∧ ∀ i, i < 1420 → ¬ (i = 1 ∨ i = 2) → K' 168 i = 0 := by
  have key : ∃ z : xM, xit (F_X12_plain_2b 168) xFU (nI 0, mm P K J) = some z ∧ (∃ K', z = mm P K' J ∧ (∀ a i, a ≠ 168 → K' a i = K a i) ∧ K' 168 1 = 1 ∧ K' 168 2 = 1 ∧ ∀ i, i < 1420 → ¬ (i = 1 ∨ i = 2) → K' 168 i = 0) := by
    refine xit_inv (fun j z => ∃ K', z = (nI j, mm P K' J) ∧ (∀ a i, a ≠ 168 → K' a i = K a i) ∧ ∀ i, i < j → K' 168 i = 0) _ 1420 ⟨K, rfl, fun _ _ _ => rfl, fun i hi => by omega⟩ (fun j z hj hz => ?_) (fun z hz => ?_) (by omega)
    · obtain ⟨K1, rfl, g1, g2⟩ := hz
      left
      have c1 : ¬ (1420 : Int32) ≤ nI j := nI_ge (b := 1420) hj (by omega)
      refine ⟨(nI (j + 1), mm P (xu K1 168 j 0) J), ?_, _, rfl, fun a i z => by rw [xu_o (by omega)]; exact g1 a i z, fun i hi => ?_⟩
      · unfold F_X12_plain_2b
        simp (disch := omega) only [c1, ↓reduceIte, ↓bAM, nI_1]
      · by_cases e : i = j
        · rw [e, xu_self]
        · rw [xu_o (by omega)]; exact g2 i (by omega)
    · obtain ⟨K1, rfl, g1, g2⟩ := hz
      have c1 : (1420 : Int32) ≤ nI 1420 := by decide
      refine ⟨mm P (xu (xu K1 168 1 1) 168 2 1) J, ?_, _, rfl, fun a i z => by rw [xu_o (by omega), xu_o (by omega)]; exact g1 a i z, by rw [xu_o (by omega), xu_self], xu_self, fun i hi hn => by rw [xu_o (by omega), xu_o (by omega)]; exact g2 i hi⟩
      unfold F_X12_plain_2b F_X12_plain_19
      simp only [c1, ↓reduceIte, ↓bAM, Option.map_some]
  obtain ⟨z, k1, K', rfl, k2⟩ := key
  exact ⟨K', k1, k2⟩
/-! ===== the head ===== -/
theorem SB_word {P : Nat → Nat → Option Nat} (hP : GP P) {I K : Nat → Nat → Int32} (J : Nat → Nat → Int64) {b : Nat → Nat} {n fo i : Nat} (h : SB I K b n fo) {w : Int32} (j : Nat) (hj : j < 27) (hi' : kS j = i) (hw : w = nI j) :
    ∃ I1 K1, F_X7_expectWord 1 i (mm P I J) = some (mm P I1 J) ∧ (∀ X : xM → Option (Int32 × xM), ((F_X12_eats 164 w (mm P K J)).bind fun t => if t.1 = 0 then (xck t.2 164 12).bind fun _ => (F_X12_fails 164 2 t.2).bind fun t8 => X t8 else X t.2) = X (mm P K1 J)) ∧ frR I I1 ∧ frQ K K1 ∧ (Bd I K b n → Bd I1 K1 b n) ∧ SB I1 K1 b n fo := by
  rcases h with h | ⟨f, e, k, h, hf⟩
  · refine ⟨I, K, exW_Bd hP J h i, fun X => ?_, frR.rf, frQ.rf, id, Or.inl h⟩
    simp only [↓bs (eats_Bd hP J h w), ↓reduceIte, ↓bOM hP, ↓bs (fails_Bd hP J h 2).2]
  · rcases exW_St hP J h j hj hi' hw with ⟨-, I', K', f', e', k', a1, a2, a3, a4, a5, a6⟩ | ⟨I', K', a1, a2, a3, a4, a5, a6⟩
    · refine ⟨I', K', a1, fun X => ?_, a3, a4, fun z => (z.no h).elim, Or.inr ⟨f', e', k', a5, by omega⟩⟩
      simp only [↓bs a2, one_ne, ↓reduceIte]
    · refine ⟨I', K', a1, fun X => ?_, a4, a5, fun _ => a6, Or.inl a6⟩
      simp only [↓bs a2, ↓reduceIte, ↓bOM hP, ↓bs a3]
theorem SB_sign {P : Nat → Nat → Option Nat} (hP : GP P) {I K : Nat → Nat → Int32} (J : Nat → Nat → Int64) {b : Nat → Nat} {n fo : Nat} (h : SB I K b n fo) {s w : Int32} (j : Nat) (hj : j < 12) (hs : s = nI (sCh 0 j)) (hw : w = nI (32 + j)) :
    ∃ I1 K1, F_X7_expectSign 1 s (mm P I J) = some (mm P I1 J) ∧ (∀ X : xM → Option xM, ((F_X12_eats 164 w (mm P K J)).bind fun t => if t.1 = 0 then (xck t.2 164 12).bind fun _ => (F_X12_fails 164 2 t.2).bind fun t8 => X t8 else X t.2) = X (mm P K1 J)) ∧ frR I I1 ∧ frQ K K1 ∧ (Bd I K b n → Bd I1 K1 b n) ∧ SB I1 K1 b n fo := by
  rcases h with h | ⟨f, e, k, h, hf⟩
  · refine ⟨I, K, exS_Bd hP J h s, fun X => ?_, frR.rf, frQ.rf, id, Or.inl h⟩
    simp only [↓bs (eats_Bd hP J h w), ↓reduceIte, ↓bOM hP, ↓bs (fails_Bd hP J h 2).2]
  · rcases exS_St hP J h j hj hs hw with ⟨-, I', K', f', e', k', a1, a2, a3, a4, a5, a6⟩ | ⟨I', K', a1, a2, a3, a4, a5, a6⟩
    · refine ⟨I', K', a1, fun X => ?_, a3, a4, fun z => (z.no h).elim, Or.inr ⟨f', e', k', a5, by omega⟩⟩
      simp only [↓bs a2, one_ne, ↓reduceIte]
    · refine ⟨I', K', a1, fun X => ?_, a4, a5, fun _ => a6, Or.inl a6⟩
      simp only [↓bs a2, ↓reduceIte, ↓bOM hP, ↓bs a3]
/-- the sand as rows, in the class -/
theorem head59 {P : Nat → Nat → Option Nat} (hP : GP P) {I : Nat → Nat → Int32} {J : Nat → Nat → Int64} {r w : Nat} (r5 : r ≤ 5) (w1 : 1 ≤ w) (w5 : w ≤ 5) (z0 : I 3 0 = nI r) (z1 : I 3 1 = nI w) :
    ∃ I', F_X7_readHead_59 1 (nI w) 0 (mm P I J) = some (mm P I' J) ∧ (∀ a i, a ≠ 11 → I' a i = I a i) ∧ ∀ i, i < r * w → I' 11 i = nI (i / w) := by
  have rw25 : r * w ≤ 5 * 5 := Nat.mul_le_mul r5 w5
  have wz : ¬ nI w = 0 := nI_ne0 (by omega) (by omega)
  have e1 : nI r * nI w = nI (r * w) := pk_mul _ _
  have cl : ∀ {I1 : Nat → Nat → Int32}, (∀ a i, a ≠ 11 → I1 a i = I a i) → F_X3_cells 3 (mm P I1 J) = some (nI (r * w), mm P I1 J) := fun {I1} g => by
    have y0 : I1 3 0 = nI r := by rw [g _ _ (by omega)]; exact z0
    have y1 : I1 3 1 = nI w := by rw [g _ _ (by omega)]; exact z1
    unfold F_X3_cells
    simp only [↓bOR hP, y0, y1, e1]
  have key : ∃ z : xM, xit (F_X7_readHead_59b 1 (nI w)) xFU (nI 0, mm P I J) = some z ∧ (∃ I', z = mm P I' J ∧ (∀ a i, a ≠ 11 → I' a i = I a i) ∧ ∀ i, i < r * w → I' 11 i = nI (i / w)) := by
    refine xit_inv (fun j z => ∃ I', z = (nI j, mm P I' J) ∧ (∀ a i, a ≠ 11 → I' a i = I a i) ∧ ∀ i, i < j → I' 11 i = nI (i / w)) _ (r * w) ⟨I, rfl, fun _ _ _ => rfl, fun i hi => by omega⟩ (fun j z hj hz => ?_) (fun z hz => ?_) (by omega)
    · obtain ⟨I1, rfl, g1, g2⟩ := hz
      left
      have c1 : ¬ nI (r * w) ≤ nI j := nI_ge hj (by omega)
      have c2 : ¬ (25 : Int32) ≤ nI j := nI_ge (b := 25) (by omega) (by omega)
      have dv : nI j / nI w = nI (j / w) := pk_div (by omega) (by omega) (by omega)
      refine ⟨(nI (j + 1), mm P (xu I1 11 j (nI (j / w))) J), ?_, _, rfl, fun a i z => by rw [xu_o (by omega)]; exact g1 a i z, fun i hi => ?_⟩
      · unfold F_X7_readHead_59b
        simp only [↓bOR hP, ↓bs (cl g1), c1, c2, ↓reduceIte]
        rw [if_neg wz, dv]
        simp (disch := omega) only [↓bAR, nI_1]
      · by_cases e : i = j
        · rw [e, xu_self]
        · rw [xu_o (by omega)]; exact g2 i (by omega)
    · obtain ⟨I1, rfl, g1, g2⟩ := hz
      have c1 : nI (r * w) ≤ nI (r * w) := nI_le (Nat.le_refl _) (by omega)
      refine ⟨mm P I1 J, ?_, I1, rfl, g1, g2⟩
      unfold F_X7_readHead_59b F_X7_readHead_94
      simp only [↓bOR hP, ↓bs (cl g1), c1, ↓reduceIte, Option.map_some]
  obtain ⟨z, k1, I', rfl, k2⟩ := key
  exact ⟨I', k1, k2⟩
/-- the same in the model -/
theorem shore98 {P : Nat → Nat → Option Nat} (hP : GP P) {K : Nat → Nat → Int32} {J : Nat → Nat → Int64} {w : Nat} (w1 : 1 ≤ w) (w5 : w ≤ 5) (h11 : K 164 11 = 0) (h2 : K 168 2 = nI w) :
    ∃ K', F_X12_shore_98 164 0 (mm P K J) = F_X12_shore_134 164 (mm P K' J) ∧ (∀ a i, ¬ (a = 168 ∧ 67 ≤ i ∧ i < 92) → K' a i = K a i) ∧ ∀ i, i < 25 → K' 168 (67 + i) = nI (i / w) := by
  have wz : ¬ nI w = 0 := nI_ne0 (by omega) (by omega)
  obtain ⟨S, hS⟩ : ∃ S : Nat → Nat → Nat → Int32, S = fun j a i => if a = 168 ∧ 67 ≤ i ∧ i < 67 + j then nI ((i - 67) / w) else K a i := ⟨_, rfl⟩
  have S0 : S 0 = K := by
    rw [hS]
    funext a i
    show (if a = 168 ∧ 67 ≤ i ∧ i < 67 + 0 then _ else _) = _
    rw [if_neg (by omega)]
  have So : ∀ j a i, ¬ (a = 168 ∧ 67 ≤ i ∧ i < 67 + j) → S j a i = K a i := fun j a i z => by rw [hS]; exact if_neg z
  have Ss : ∀ j, xu (S j) 168 (67 + j) (nI (j / w)) = S (j + 1) := fun j => by
    funext a i
    unfold xu
    rw [hS]
    show (if a = 168 ∧ i = 67 + j then nI (j / w) else if a = 168 ∧ 67 ≤ i ∧ i < 67 + j then nI ((i - 67) / w) else K a i) = if a = 168 ∧ 67 ≤ i ∧ i < 67 + (j + 1) then nI ((i - 67) / w) else K a i
    by_cases z : a = 168 ∧ i = 67 + j
    · rw [if_pos z, if_pos (by omega), z.2, show 67 + j - 67 = j by omega]
    · rw [if_neg z]
      by_cases z2 : a = 168 ∧ 67 ≤ i ∧ i < 67 + j
      · rw [if_pos z2, if_pos (by omega)]
      · rw [if_neg z2, if_neg (by omega)]
  refine ⟨S 25, ?_, fun a i z => So 25 a i (by omega), fun i hi => ?_⟩
  · unfold F_X12_shore_98
    refine xit_run (fun j => (nI j, mm P (S j) J)) 25 (by show (nI 0, mm P (S 0) J) = _; rw [S0]; rfl) (fun j hj => ?_) ?_ (by omega)
    · have c1 : ¬ (25 : Int32) ≤ nI j := nI_ge (b := 25) hj (by omega)
      have y11 : S j 164 11 = 0 := by rw [So _ _ _ (by omega)]; exact h11
      have y2 : S j 168 2 = nI w := by rw [So _ _ _ (by omega)]; exact h2
      have ix : (67 : Int32) + nI j = nI (67 + j) := nI_add 67 j
      have dv : nI j / nI w = nI (j / w) := pk_div (by omega) (by omega) (by omega)
      unfold F_X12_shore_98b
      simp (disch := omega) only [c1, ↓reduceIte, ↓bOM hP, y11, ↓bAM, y2]
      rw [if_neg wz, dv, ix]
      simp (disch := omega) only [↓bAM, nI_1, Ss]
    · have c1 : (25 : Int32) ≤ nI 25 := by decide
      unfold F_X12_shore_98b
      simp only [c1, ↓reduceIte]
  · rw [hS]
    show (if 168 = 168 ∧ 67 ≤ 67 + i ∧ 67 + i < 67 + 25 then nI ((67 + i - 67) / w) else _) = _
    rw [if_pos (by omega), show 67 + i - 67 = i by omega]
