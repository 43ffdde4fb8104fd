/-! ===== a token, in the class and in the model ===== -/
def TkC (I : Nat → Nat → Int32) (b : Nat → Nat) (n f e k : Nat) : Prop := TxC I b n ∧ f ≤ n ∧ tokE b n f e k ∧ I 1 6 = nI f ∧ I 1 7 = nI e ∧ I 1 8 = nI (clsK k)
def TkM (K : Nat → Nat → Int32) (b : Nat → Nat) (n f e k : Nat) : Prop := TxM K b n ∧ f ≤ n ∧ tokE b n f e k ∧ K 164 6 = nI f ∧ K 164 7 = nI e ∧ K 164 9 = nI k ∧ (k = 29 → K 164 10 = nI (numF b f (e - f)))
theorem TkC.fr {I I' : Nat → Nat → Int32} {b : Nat → Nat} {n f e k : Nat} (h : TkC I b n f e k) (g1 : ∀ i, 5 ≤ i → i ≤ 8 → I' 1 i = I 1 i) (g2 : ∀ x, I' 2 x = I 2 x) : TkC I' b n f e k := by
  obtain ⟨h1, h2, h3, h4, h5, h6⟩ := h
  exact ⟨TxC_fr h1 (g1 5 (by omega) (by omega)) g2, h2, h3, by rw [g1 6 (by omega) (by omega)]; exact h4, by rw [g1 7 (by omega) (by omega)]; exact h5, by rw [g1 8 (by omega) (by omega)]; exact h6⟩
theorem TkM.fr {K K' : Nat → Nat → Int32} {b : Nat → Nat} {n f e k : Nat} (h : TkM K b n f e k) (g1 : ∀ i, 6 ≤ i → i ≤ 10 → K' 164 i = K 164 i) (g2 : ∀ x, K' 167 x = K 167 x) : TkM K' b n f e k := by
  obtain ⟨h1, h2, h3, h4, h5, h6, h7⟩ := h
  exact ⟨TxM_fr h1 (g1 8 (by omega) (by omega)) g2, h2, h3, by rw [g1 6 (by omega) (by omega)]; exact h4, by rw [g1 7 (by omega) (by omega)]; exact h5, by rw [g1 9 (by omega) (by omega)]; exact h6, fun z => by rw [g1 10 (by omega) (by omega)]; exact h7 z⟩
theorem word_C {P : Nat → Nat → Option Nat} (hP : GP P) {I : Nat → Nat → Int32} {J : Nat → Nat → Int64} {b : Nat → Nat} {n f e k : Nat} (hC : TkC I b n f e k) {i j : Nat} (hj : j < 27) (hi : kS j = i) : F_X7_atWord 1 i (mm P I J) = some (if k = j then 1 else 0, mm P I J) := by
  obtain ⟨hT, hf, ht, h6, h7, h8⟩ := hC
  have n9 := hT.1
  have i28 : i < 28 := by rw [← hi]; exact kS_lt j hj
  have so := (str_tab i (by omega)).1
  have l9 := (str_tab i (by omega)).2.2
  have ln := lenA (i := i) (by omega) (mm P I J)
  have le := tokE_le ht hf
  by_cases hk : k ≤ 28
  · have h8' : I 1 8 = (2 : Int32) := by rw [h8, clsK_w hk]; rfl
    have kp : keyP b f e k := by
      rcases ht with ⟨z1, z2, z3⟩ | ⟨z1, z2, z3, z4⟩ | ⟨z1, z2, z3, z4⟩ | ⟨z1, z2, z3, z4, z5⟩
      · omega
      · exact z4
      · split at z4 <;> omega
      · rcases z5 with ⟨x, x1, x2, x3⟩ | ⟨x1, x2⟩ <;> omega
    have iff := keyP_iff kp hj
    rw [hi] at iff
    have sb : nI e - nI f = nI (e - f) := pk_sub (by omega)
    by_cases hl : e - f = sLen i
    · have c1 : nI (e - f) = nI (sLen i) := by rw [hl]
      have lp : ∃ r : Int32 × xM, xit (F_X7_atWord_28b 1 i) xFU (nI 0, mm P I J) = some r ∧ r = (if k = j then 1 else 0, mm P I J) := by
        refine xit_inv (fun x z => z = (nI x, mm P I J) ∧ ∀ y, y < x → b (f + y) = sCh i y) _ (sLen i) ⟨rfl, fun y hy => by omega⟩ (fun x z hx hz => ?_) (fun z hz => ?_) (by omega)
        · obtain ⟨rfl, g1⟩ := hz
          have d1 : ¬ nI (sLen i) ≤ nI x := nI_ge hx (by omega)
          have d2 : ¬ nI n ≤ nI (f + x) := nI_ge (by omega) (by omega)
          obtain ⟨b1, b2⟩ := hT.2.2 (f + x) (by omega)
          have ch := chA (i := i) (k := x) (by omega) hx (mm P I J)
          have cl := (str_ch i (by omega) x hx).2
          have h5 := hT.2.1
          by_cases h : b (f + x) = sCh i x
          · left
            have d3 : sx (b (f + x)) = nI (sCh i x) := (sx_eq b1 cl).mpr h
            refine ⟨(nI (x + 1), mm P I J), ?_, rfl, fun y hy => ?_⟩
            · unfold F_X7_atWord_28b
              simp (disch := omega) only [↓bs so, ↓bs ln, d1, ↓reduceIte, ↓bOR hP, h6, h5, nI_add, d2, ↓bAR, b2, ↓bs ch, d3, nI_1]
            · by_cases e2 : y = x
              · rw [e2]; exact h
              · exact g1 y (by omega)
          · right
            have d3 : ¬ sx (b (f + x)) = nI (sCh i x) := fun z => h ((sx_eq b1 cl).mp z)
            refine ⟨(0, mm P I J), ?_, ?_⟩
            · unfold F_X7_atWord_28b F_X7_atWord_68
              simp (disch := omega) only [↓bs so, ↓bs ln, d1, ↓reduceIte, ↓bOR hP, h6, h5, nI_add, d2, ↓bAR, b2, ↓bs ch, d3, xz0, Option.bind_some, Option.map_some]
            · rw [if_neg (fun z => h ((iff.mp z).2 x (by omega)))]
        · obtain ⟨rfl, g1⟩ := hz
          have d1 : nI (sLen i) ≤ nI (sLen i) := nI_le (Nat.le_refl _) (by omega)
          refine ⟨(1, mm P I J), ?_, ?_⟩
          · unfold F_X7_atWord_28b F_X7_atWord_76
            simp (disch := omega) only [↓bs so, ↓bs ln, d1, ↓reduceIte, xz1, Option.bind_some, Option.map_some]
          · rw [if_pos (iff.mpr ⟨hl, fun x hx => g1 x (by omega)⟩)]
      obtain ⟨r, r1, rfl⟩ := lp
      unfold F_X7_atWord
      simp (disch := omega) only [↓bOR hP, h8', ↓reduceIte, h7, h6, ↓bs so, ↓bs ln, sb, c1]
      exact r1
    · have c1 : ¬ nI (e - f) = nI (sLen i) := nI_neI (by omega) (by omega) hl
      have kn : ¬ k = j := fun z => hl (iff.mp z).1
      unfold F_X7_atWord
      simp (disch := omega) only [↓bOR hP, h8', ↓reduceIte, h7, h6, ↓bs so, ↓bs ln, sb, c1, xz0, Option.bind_some, kn]
  · have c0 : ¬ nI (clsK k) = (2 : Int32) := fun z => by
      have := (nI_eqI (b := 2) (by have := clsK_lt k; omega) (by omega)).mp z
      unfold clsK at this
      rw [if_neg hk] at this
      split at this
      · omega
      · split at this
        · omega
        · split at this <;> omega
    have kn : ¬ k = j := by omega
    unfold F_X7_atWord
    simp (disch := omega) only [↓bOR hP, h8, c0, ↓reduceIte, xz0, Option.bind_some, kn]
theorem sign_C {P : Nat → Nat → Option Nat} (hP : GP P) {I : Nat → Nat → Int32} {J : Nat → Nat → Int64} {b : Nat → Nat} {n f e k : Nat} (hC : TkC I b n f e k) {s : Int32} {j : Nat} (hj : j < 12) (hs : s = nI (sCh 0 j)) : F_X7_atSign 1 s (mm P I J) = some (if k = 32 + j then 1 else 0, mm P I J) := by
  obtain ⟨hT, hf, ht, h6, h7, h8⟩ := hC
  have n9 := hT.1
  by_cases hk : 32 ≤ k
  · have h8' : I 1 8 = (4 : Int32) := by rw [h8, clsK_s hk]; rfl
    have sp : f < n ∧ signP (b f) k := by
      rcases ht with ⟨z1, z2, z3⟩ | ⟨z1, z2, z3, z4⟩ | ⟨z1, z2, z3, z4⟩ | ⟨z1, z2, z3, z4, z5⟩
      · omega
      · rcases z4 with ⟨z4, _⟩ | ⟨z4, _⟩ <;> omega
      · split at z4 <;> omega
      · exact ⟨z1, z5⟩
    obtain ⟨fn, sp⟩ := sp
    obtain ⟨j', j1, j2, j3⟩ : ∃ j', j' < 12 ∧ sCh 0 j' = b f ∧ k = 32 + j' := by
      rcases sp with z | ⟨z, _⟩
      · exact z
      · omega
    obtain ⟨b1, b2⟩ := hT.2.2 f fn
    have h5 := hT.2.1
    have c1 : ¬ nI n ≤ nI f := nI_ge fn (by omega)
    have cl := (str_ch 0 (by omega) j (by rw [sign_tab.2.1]; exact hj)).2
    by_cases h : j' = j
    · have c2 : sx (b f) = s := by rw [hs]; exact (sx_eq b1 cl).mpr (by rw [← j2, h])
      have c3 : k = 32 + j := by omega
      unfold F_X7_atSign
      simp (disch := omega) only [↓bOR hP, h8', ↓reduceIte, h6, h5, c1, ↓bAR, b2, c2, xz1, Option.bind_some, c3]
    · have c2 : ¬ sx (b f) = s := fun z => by
        rw [hs] at z
        have := (sx_eq b1 cl).mp z
        rw [← j2] at this
        exact h (sign_tab.2.2.2 j' j1 j hj this)
      have c3 : ¬ k = 32 + j := by omega
      unfold F_X7_atSign F_X7_atSign_36
      simp (disch := omega) only [↓bOR hP, h8', ↓reduceIte, h6, h5, c1, ↓bAR, b2, c2, xz0, Option.bind_some, c3]
  · have c0 : ¬ nI (clsK k) = (4 : Int32) := fun z => by
      have := (nI_eqI (b := 4) (by have := clsK_lt k; omega) (by omega)).mp z
      unfold clsK at this
      split at this
      · omega
      · split at this
        · omega
        · split at this
          · omega
          · split at this <;> omega
    have kn : ¬ k = 32 + j := by omega
    unfold F_X7_atSign F_X7_atSign_36
    simp (disch := omega) only [↓bOR hP, h8, c0, ↓reduceIte, xz0, Option.bind_some, kn]
theorem num_C {P : Nat → Nat → Option Nat} (hP : GP P) {I : Nat → Nat → Int32} {J : Nat → Nat → Int64} {b : Nat → Nat} {n f e : Nat} (hC : TkC I b n f e 29) : F_X7_numberHere 1 (mm P I J) = some (nI (numF b f (e - f)), mm P I J) ∧ numF b f (e - f) < 1000 := by
  obtain ⟨hT, hf, ht, h6, h7, h8⟩ := hC
  have n9 := hT.1
  have z : runE dgP b n f e ∧ e - f ≤ 3 := by
    rcases ht with ⟨z1, z2, z3⟩ | ⟨z1, z2, z3, z4⟩ | ⟨z1, z2, z3, z4⟩ | ⟨z1, z2, z3, z4, z5⟩
    · omega
    · rcases z4 with ⟨z4, _⟩ | ⟨z4, _⟩ <;> omega
    · refine ⟨z3, ?_⟩
      split at z4 <;> omega
    · rcases z5 with ⟨x, x1, x2, x3⟩ | ⟨x1, x2⟩ <;> omega
  obtain ⟨⟨r1, r2, r3, r4⟩, r5⟩ := z
  have lt : ∀ m, m ≤ e - f → numF b f m < 10 ^ m := fun m hm => numF_lt m (fun x hx => (r3 (f + x) (by omega) (by omega)).2)
  have p3 : ∀ m, m ≤ 3 → 10 ^ m ≤ 1000 := by decide
  refine ⟨?_, by have := lt (e - f) (Nat.le_refl _); have := p3 (e - f) r5; omega⟩
  have h5 := hT.2.1
  unfold F_X7_numberHere F_X7_numberHere_7
  simp only [↓bOR hP, h6]
  refine xit_run (fun x => (nI (numF b f x), nI (f + x), mm P I J)) (e - f) rfl (fun x hx => ?_) ?_ (by omega)
  · have c1 : ¬ nI e ≤ nI (f + x) := nI_ge (by omega) (by omega)
    have c2 : ¬ nI n ≤ nI (f + x) := nI_ge (by omega) (by omega)
    obtain ⟨b1, b2⟩ := hT.2.2 (f + x) (by omega)
    have dg := r3 (f + x) (by omega) (by omega)
    have d1 := dg.1
    have d2 := dg.2
    have b3 : sx (b (f + x)) = nI (b (f + x)) := (sx_tab _ b1).1 (by omega)
    have nv : (nI (numF b f x) * (10 : Int32) + nI (b (f + x))) - (48 : Int32) = nI (numF b f (x + 1)) := by
      rw [show (10 : Int32) = nI 10 from rfl, show (48 : Int32) = nI 48 from rfl, pk_mul, nI_add, pk_sub (by omega)]
      congr 1
      show numF b f x * 10 + b (f + x) - 48 = numF b f x * 10 + (b (f + x) - 48)
      omega
    unfold F_X7_numberHere_7b
    simp (disch := omega) only [↓bOR hP, h7, c1, ↓reduceIte, h5, c2, ↓bAR, b2, b3, nv, Option.bind_some, nI_1]
    rfl
  · have c1 : nI e ≤ nI (f + (e - f)) := nI_le (by omega) (by omega)
    unfold F_X7_numberHere_7b F_X7_numberHere_44
    simp (disch := omega) only [↓bOR hP, h7, c1, ↓reduceIte]
/-! ===== where both are alike ===== -/
def frR (I I' : Nat → Nat → Int32) : Prop := ∀ a i, ¬ (a = 1 ∧ (i = 2 ∨ i = 3 ∨ i = 6 ∨ i = 7 ∨ i = 8)) → I' a i = I a i
def frQ (K K' : Nat → Nat → Int32) : Prop := ∀ a i, ¬ (a = 164 ∧ (i = 6 ∨ i = 7 ∨ i = 9 ∨ i = 10 ∨ i = 11 ∨ i = 12)) → K' a i = K a i
theorem frR.rf {I : Nat → Nat → Int32} : frR I I := fun _ _ _ => rfl
theorem frR.tr {I I1 I2 : Nat → Nat → Int32} (h : frR I I1) (g : frR I1 I2) : frR I I2 := fun a i z => (g a i z).trans (h a i z)
theorem frQ.rf {I : Nat → Nat → Int32} : frQ I I := fun _ _ _ => rfl
theorem frQ.tr {I I1 I2 : Nat → Nat → Int32} (h : frQ I I1) (g : frQ I1 I2) : frQ I I2 := fun a i z => (g a i z).trans (h a i z)
theorem frS.R {I I' : Nat → Nat → Int32} (h : frS I I') : frR I I' := fun a i z => h a i (by omega)
theorem frN.Q {K K' : Nat → Nat → Int32} (h : frN K K') : frQ K K' := fun a i z => h a i (by omega)
/-- no fault yet -/
def St (I K : Nat → Nat → Int32) (b : Nat → Nat) (n f e k : Nat) : Prop := TkC I b n f e k ∧ TkM K b n f e k ∧ I 1 2 = 0 ∧ K 164 11 = 0 ∧ ∃ m, m ≤ 900 ∧ I 3 7 = nI m ∧ I 1 3 = -1
/-- a fault, the same -/
def Bd (I K : Nat → Nat → Int32) (b : Nat → Nat) (n : Nat) : Prop := (∃ f e k, TkC I b n f e k) ∧ ¬ I 1 2 = 0 ∧ I 1 2 = K 164 11 ∧ I 1 3 = K 164 12 ∧ ∃ m, m ≤ 900 ∧ I 3 7 = nI m
theorem adv {P : Nat → Nat → Option Nat} (hP : GP P) {I K : Nat → Nat → Int32} (J : Nat → Nat → Int64) {b : Nat → Nat} {n f e k : Nat} (h : St I K b n f e k) :
    ∃ I' K' f' e' k', F_X7_step 1 (mm P I J) = some (mm P I' J) ∧ F_X12_next 164 (mm P K J) = some (mm P K' J) ∧ frS I I' ∧ frN K K' ∧ St I' K' b n f' e' k' ∧ e ≤ f' := by
  obtain ⟨hC, hM, h1, h2, m, m1, m2⟩ := h
  have le := tokE_le hM.2.2.1 hM.2.1
  obtain ⟨K', f', e', k', a1, a2, a3, a4, a5, a6, a7⟩ := nextT_M hP (J := J) hM.1 hM.2.2.2.2.1 (by omega)
  obtain ⟨I', c1, c2, c3, c4, c5⟩ := step_C hP (J := J) hC.1 hC.2.2.2.2.1 a6
  exact ⟨I', K', f', e', k', c1, a1, c2, a2, ⟨⟨hC.1.fr c2, a6.1.2.1, a6.2, c3, c4, c5⟩, ⟨hM.1.fr a2, a6.1.2.1, a6.2, a3, a4, a5, a7⟩, by rw [c2 _ _ (by omega)]; exact h1, by rw [a2 _ _ (by omega)]; exact h2, m, m1, by rw [c2 _ _ (by omega)]; exact m2.1, by rw [c2 _ _ (by omega)]; exact m2.2⟩, a6.1.1⟩
theorem St.pos {I K : Nat → Nat → Int32} {b : Nat → Nat} {n f e k : Nat} (h : St I K b n f e k) : f ≤ e ∧ e ≤ n ∧ n ≤ 900 ∧ k < 44 ∧ (k ≠ 30 → f < e) ∧ (k = 30 → f = n) := by
  have le := tokE_le h.2.1.2.2.1 h.2.1.2.1
  have := h.1.1.1
  exact ⟨le.1, le.2.1, this, le.2.2⟩
theorem fail_St {P : Nat → Nat → Option Nat} (hP : GP P) {I K : Nat → Nat → Int32} (J : Nat → Nat → Int64) {b : Nat → Nat} {n f e k : Nat} (h : St I K b n f e k) {w : Int32} (hw : ¬ w = 0) :
    ∃ I' K', F_X7_fail 1 w (mm P I J) = some (mm P I' J) ∧ F_X12_fails 164 w (mm P K J) = some (mm P K' J) ∧ frR I I' ∧ frQ K K' ∧ Bd I' K' b n := by
  obtain ⟨hC, hM, h1, h2, m, m1, m2⟩ := h
  have k9 := hM.2.2.2.2.2.1
  have k6 := hM.2.2.2.1
  have c8 := hC.2.2.2.2.2
  have c6 := hC.2.2.2.1
  have le := tokE_le hM.2.2.1 hM.2.1
  have fin : ∀ v : Int32, ¬ v = 0 → F_X7_fail_21 1 v 1 (mm P I J) = some (mm P (xu (xu I 1 2 v) 1 3 (nI f)) J) ∧ F_X12_fails_23 164 v 164 (mm P K J) = some (mm P (xu (xu K 164 11 v) 164 12 (nI f)) J) ∧ frR I (xu (xu I 1 2 v) 1 3 (nI f)) ∧ frQ K (xu (xu K 164 11 v) 164 12 (nI f)) ∧ Bd (xu (xu I 1 2 v) 1 3 (nI f)) (xu (xu K 164 11 v) 164 12 (nI f)) b n := fun v hv => by
    have e1 : xu I 1 2 v 1 6 = nI f := by rw [xu_o (by omega)]; exact c6
    have e2 : xu K 164 11 v 164 6 = nI f := by rw [xu_o (by omega)]; exact k6
    refine ⟨?_, ?_, fun a i z => by rw [xu_o (by omega), xu_o (by omega)], fun a i z => by rw [xu_o (by omega), xu_o (by omega)], ⟨f, e, k, hC.fr (fun i i1 i2 => by rw [xu_o (by omega), xu_o (by omega)]) (fun x => by rw [xu_o (by omega), xu_o (by omega)])⟩, by rw [xu_o (by omega), xu_self]; exact hv, by rw [xu_o (by omega), xu_self, xu_o (by omega), xu_self], by rw [xu_self, xu_self], m, m1, by rw [xu_o (by omega), xu_o (by omega)]; exact m2.1⟩
    · unfold F_X7_fail_21
      simp only [↓bOR hP, e1]
    · unfold F_X12_fails_23
      simp only [↓bOM hP, e2]
  by_cases hk : k = 31
  · subst hk
    have d1 : nI (clsK 31) = (1 : Int32) := rfl
    have d2 : nI 31 = (31 : Int32) := rfl
    obtain ⟨a1, a2, a3, a4, a5⟩ := fin 1 (by decide)
    refine ⟨_, _, ?_, ?_, a3, a4, a5⟩
    · unfold F_X7_fail
      simp only [↓bOR hP, h1, ↓reduceIte, c8, d1, a1]
    · unfold F_X12_fails
      simp only [↓bOM hP, h2, ↓reduceIte, k9, d2, a2]
  · have d1 : ¬ nI (clsK k) = (1 : Int32) := fun z => by
      have := (nI_eqI (b := 1) (by have := clsK_lt k; omega) (by omega)).mp z
      unfold clsK at this
      split at this
      · omega
      · split at this
        · omega
        · split at this
          · omega
          · omega
    have d2 : ¬ nI k = (31 : Int32) := fun z => hk ((nI_eqI (b := 31) (by omega) (by omega)).mp z)
    obtain ⟨a1, a2, a3, a4, a5⟩ := fin w hw
    refine ⟨_, _, ?_, ?_, a3, a4, a5⟩
    · unfold F_X7_fail
      simp only [↓bOR hP, h1, ↓reduceIte, c8, d1, a1]
    · unfold F_X12_fails
      simp only [↓bOM hP, h2, ↓reduceIte, k9, d2, a2]
theorem is_M {P : Nat → Nat → Option Nat} (hP : GP P) {I K : Nat → Nat → Int32} (J : Nat → Nat → Int64) {b : Nat → Nat} {n f e k : Nat} (h : St I K b n f e k) {w : Int32} (q : Nat) (hw : w = nI q) (hq : q < 100) : F_X12_is 164 w (mm P K J) = some (if k = q then 1 else 0, mm P K J) := by
  obtain ⟨hC, hM, h1, h2, -⟩ := h
  have k9 := hM.2.2.2.2.2.1
  have le := tokE_le hM.2.2.1 hM.2.1
  unfold F_X12_is F_X12_is_19
  by_cases hk : k = q
  · have d : nI k = w := by rw [hw, hk]
    simp only [↓bOM hP, h2, ↓reduceIte, k9, d, xz1, Option.bind_some, if_pos hk]
  · have d : ¬ nI k = w := fun z => hk ((nI_eqI (by omega) (by omega)).mp (by rw [z, hw]))
    simp only [↓bOM hP, h2, ↓reduceIte, k9, d, xz0, Option.bind_some, if_neg hk]
theorem is_Bd {P : Nat → Nat → Option Nat} (hP : GP P) {I K : Nat → Nat → Int32} (J : Nat → Nat → Int64) {b : Nat → Nat} {n : Nat} (h : Bd I K b n) (w : Int32) : F_X12_is 164 w (mm P K J) = some (0, mm P K J) := by
  have h2 : ¬ K 164 11 = 0 := by rw [← h.2.2.1]; exact h.2.1
  unfold F_X12_is F_X12_is_19
  simp only [↓bOM hP, h2, ↓reduceIte, xz0, Option.bind_some]
theorem eats_Bd {P : Nat → Nat → Option Nat} (hP : GP P) {I K : Nat → Nat → Int32} (J : Nat → Nat → Int64) {b : Nat → Nat} {n : Nat} (h : Bd I K b n) (w : Int32) : F_X12_eats 164 w (mm P K J) = some (0, mm P K J) := by
  unfold F_X12_eats
  simp only [↓bOM hP, ↓bs (is_Bd hP J h w), ↓reduceIte, xz0, Option.bind_some]
theorem fails_Bd {P : Nat → Nat → Option Nat} (hP : GP P) {I K : Nat → Nat → Int32} (J : Nat → Nat → Int64) {b : Nat → Nat} {n : Nat} (h : Bd I K b n) (w : Int32) : F_X7_fail 1 w (mm P I J) = some (mm P I J) ∧ F_X12_fails 164 w (mm P K J) = some (mm P K J) := by
  have h1 := h.2.1
  have h2 : ¬ K 164 11 = 0 := by rw [← h.2.2.1]; exact h.2.1
  refine ⟨?_, ?_⟩
  · unfold F_X7_fail
    simp only [↓bOR hP, h1, ↓reduceIte]
  · unfold F_X12_fails
    simp only [↓bOM hP, h2, ↓reduceIte]
theorem exS_Bd {P : Nat → Nat → Option Nat} (hP : GP P) {I K : Nat → Nat → Int32} (J : Nat → Nat → Int64) {b : Nat → Nat} {n : Nat} (h : Bd I K b n) (s : Int32) : F_X7_expectSign 1 s (mm P I J) = some (mm P I J) := by
  have h1 := h.2.1
  unfold F_X7_expectSign F_X7_expectSign_22
  simp only [↓bOR hP, h1, ↓reduceIte, ↓bs (fails_Bd hP J h 2).1]
theorem exW_Bd {P : Nat → Nat → Option Nat} (hP : GP P) {I K : Nat → Nat → Int32} (J : Nat → Nat → Int64) {b : Nat → Nat} {n : Nat} (h : Bd I K b n) (s : Nat) : F_X7_expectWord 1 s (mm P I J) = some (mm P I J) := by
  have h1 := h.2.1
  unfold F_X7_expectWord F_X7_expectWord_22
  simp only [↓bOR hP, h1, ↓reduceIte, ↓bs (fails_Bd hP J h 2).1]
theorem eats_no {P : Nat → Nat → Option Nat} (hP : GP P) {I K : Nat → Nat → Int32} (J : Nat → Nat → Int64) {b : Nat → Nat} {n f e k : Nat} (h : St I K b n f e k) {w : Int32} (q : Nat) (hw : w = nI q) (hq : q < 100) (hk : k ≠ q) : F_X12_eats 164 w (mm P K J) = some (0, mm P K J) := by
  have i := is_M hP J h q hw hq
  rw [if_neg hk] at i
  unfold F_X12_eats
  simp only [↓bOM hP, ↓bs i, ↓reduceIte, xz0, Option.bind_some]
theorem eats_yes {P : Nat → Nat → Option Nat} (hP : GP P) {I K K' : Nat → Nat → Int32} (J : Nat → Nat → Int64) {b : Nat → Nat} {n f e k : Nat} (h : St I K b n f e k) {w : Int32} (q : Nat) (hw : w = nI q) (hq : q < 100) (hk : k = q) (hn : F_X12_next 164 (mm P K J) = some (mm P K' J)) : F_X12_eats 164 w (mm P K J) = some (1, mm P K' J) := by
  have i := is_M hP J h q hw hq
  rw [if_pos hk] at i
  unfold F_X12_eats
  simp only [↓bOM hP, ↓bs i, one_ne, ↓reduceIte, ↓bs hn, xz1, Option.bind_some]
/-- a sign that must stand here -/
theorem exS_St {P : Nat → Nat → Option Nat} (hP : GP P) {I K : Nat → Nat → Int32} (J : Nat → Nat → Int64) {b : Nat → Nat} {n f e k : Nat} (h : St I K b n f e k) {s w : Int32} (j : Nat) (hj : j < 12) (hs : s = nI (sCh 0 j)) (hw : w = nI (32 + j)) :
    (k = 32 + j ∧ ∃ I' K' f' e' k', F_X7_expectSign 1 s (mm P I J) = some (mm P I' J) ∧ F_X12_eats 164 w (mm P K J) = some (1, mm P K' J) ∧ frR I I' ∧ frQ K K' ∧ St I' K' b n f' e' k' ∧ f + 1 ≤ f') ∨
    (∃ I' K', F_X7_expectSign 1 s (mm P I J) = some (mm P I' J) ∧ F_X12_eats 164 w (mm P K J) = some (0, mm P K J) ∧ F_X12_fails 164 2 (mm P K J) = some (mm P K' J) ∧ frR I I' ∧ frQ K K' ∧ Bd I' K' b n) := by
  have sc := sign_C hP (J := J) h.1 hj hs
  have h1 := h.2.2.1
  have ps := h.pos
  by_cases hk : k = 32 + j
  · left
    rw [if_pos hk] at sc
    obtain ⟨I', K', f', e', k', a1, a2, a3, a4, a5, a6⟩ := adv hP J h
    refine ⟨hk, I', K', f', e', k', ?_, eats_yes hP J h (32 + j) hw (by omega) hk a2, a3.R, a4.Q, a5, by omega⟩
    unfold F_X7_expectSign
    simp only [↓bOR hP, h1, ↓reduceIte, ↓bs sc, one_ne, ↓bs a1]
  · right
    rw [if_neg hk] at sc
    obtain ⟨I', K', a1, a2, a3, a4, a5⟩ := fail_St hP J h (w := 2) (by decide)
    refine ⟨I', K', ?_, eats_no hP J h (32 + j) hw (by omega) hk, a2, a3, a4, a5⟩
    unfold F_X7_expectSign F_X7_expectSign_22
    simp only [↓bOR hP, h1, ↓reduceIte, ↓bs sc, ↓bs a1]
/-- a word that must stand here -/
theorem exW_St {P : Nat → Nat → Option Nat} (hP : GP P) {I K : Nat → Nat → Int32} (J : Nat → Nat → Int64) {b : Nat → Nat} {n f e k : Nat} (h : St I K b n f e k) {i : Nat} {w : Int32} (j : Nat) (hj : j < 27) (hi : kS j = i) (hw : w = nI j) :
    (k = j ∧ ∃ I' K' f' e' k', F_X7_expectWord 1 i (mm P I J) = some (mm P I' J) ∧ F_X12_eats 164 w (mm P K J) = some (1, mm P K' J) ∧ frR I I' ∧ frQ K K' ∧ St I' K' b n f' e' k' ∧ f + 1 ≤ f') ∨
    (∃ I' K', F_X7_expectWord 1 i (mm P I J) = some (mm P I' J) ∧ F_X12_eats 164 w (mm P K J) = some (0, mm P K J) ∧ F_X12_fails 164 2 (mm P K J) = some (mm P K' J) ∧ frR I I' ∧ frQ K K' ∧ Bd I' K' b n) := by
  have sc := word_C hP (J := J) h.1 hj hi
  have h1 := h.2.2.1
  have ps := h.pos
  by_cases hk : k = j
  · left
    rw [if_pos hk] at sc
    obtain ⟨I', K', f', e', k', a1, a2, a3, a4, a5, a6⟩ := adv hP J h
    refine ⟨hk, I', K', f', e', k', ?_, eats_yes hP J h j hw (by omega) hk a2, a3.R, a4.Q, a5, by omega⟩
    unfold F_X7_expectWord
    simp only [↓bOR hP, h1, ↓reduceIte, ↓bs sc, one_ne, ↓bs a1]
  · right
    rw [if_neg hk] at sc
    obtain ⟨I', K', a1, a2, a3, a4, a5⟩ := fail_St hP J h (w := 2) (by decide)
    refine ⟨I', K', ?_, eats_no hP J h j hw (by omega) hk, a2, a3, a4, a5⟩
    unfold F_X7_expectWord F_X7_expectWord_22
    simp only [↓bOR hP, h1, ↓reduceIte, ↓bs sc, ↓bs a1]
