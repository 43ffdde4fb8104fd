/-! ===== colours ===== -/
def tryS {α : Type} (g : Nat → Option α) : Nat → Nat → Option α
  | _, 0 => none
  | c, m + 1 => (g c).or (tryS g (c + 1) m)
def setC (col : Nat → Nat) (p c : Nat) : Nat → Nat := fun q => if q = p then c else col q
/-- may paper p have colour k beside those before it -/
def clearB (t : Txt) (col : Nat → Nat) (p k : Nat) : Bool := allN (fun q => !(decide (col q = k) && ovB t q p)) p
def fitS (t : Txt) (n k : Nat) : Nat → Nat → (Nat → Nat) → Option (Nat → Nat)
  | 0, _, col => some col
  | d + 1, p, col => tryS (fun c => if clearB t col p c then fitS t n k d (p + 1) (setC col p c) else none) 0 k
/-- there is a colour that none of them has -/
theorem spare : ∀ (p : Nat) (f : Nat → Nat), ∃ c, c ≤ p ∧ ∀ q, q < p → f q ≠ c
  | 0, f => ⟨0, Nat.le_refl _, fun q hq => by omega⟩
  | p + 1, f => by
    obtain ⟨c, h1, h2⟩ := spare p (fun q => if f p < f q then f q - 1 else f q)
    refine ⟨if f p ≤ c then c + 1 else c, by split <;> omega, fun q hq => ?_⟩
    by_cases e : q = p
    · subst e
      split <;> omega
    · have h3 := h2 q (by omega)
      have h4 : (if f p < f q then f q - 1 else f q) ≠ c := h3
      split <;> split at h4 <;> omega
theorem try_some {α : Type} {g : Nat → Option α} {c : Nat} (hg : g c ≠ none) : ∀ m b, b ≤ c → c < b + m → tryS g b m ≠ none
  | 0, b, h1, h2 => by omega
  | m + 1, b, h1, h2 => by
    unfold tryS
    cases e : g b with
    | some r => intro z; cases z
    | none =>
      have hne : b ≠ c := fun z => hg (by rw [← z]; exact e)
      exact try_some hg m (b + 1) (by omega) (by omega)
theorem fit_n {t : Txt} {n k : Nat} : ∀ d p col, p + d ≤ k → fitS t n k d p col ≠ none
  | 0, p, col, _ => by intro z; cases z
  | d + 1, p, col, h => by
    obtain ⟨c, c1, c2⟩ := spare p col
    unfold fitS
    refine try_some (c := c) ?_ k 0 (by omega) (by omega)
    have hb : clearB t col p c = true := by
      unfold clearB
      rw [allN_iff]
      intro q hq
      rw [decide_eq_false (c2 q hq)]
      rfl
    show (if clearB t col p c then _ else none) ≠ none
    rw [hb, if_pos rfl]
    exact fit_n d (p + 1) (setC col p c) (by omega)
theorem clear_C {P : Nat → Nat → Option Nat} (hP : GP P) {I : Nat → Nat → Int32} {J : Nat → Nat → Int64} {t : Txt} {col : Nat → Nat} {p k : Nat} (hw : wfT t) (hL : LandC (mm P I J) 14 t) (hp : p < (tPapers t).length) (hc : ∀ q, q < p → I 123 q = nI (col q) ∧ col q < 100) (hk : I 123 p = nI k) (hk2 : k < 100) : F_X9_isClear 122 14 (nI p) (mm P I J) = some (if clearB t col p k then 1 else 0, mm P I J) := by
  have h6 := hw.2.2.2.2.2.1.1
  have L := all_loop (f := F_X9_isClear_2b 122 14 (nI p)) (M := mm P I J) (fun q => !(decide (col q = k) && ovB t q p)) p (1, mm P I J) (0, mm P I J) (fun q hq => ?_) ?_ (by omega)
  · unfold F_X9_isClear F_X9_isClear_2
    rw [L]
    unfold clearB
    cases allN (fun q => !(decide (col q = k) && ovB t q p)) p <;> rfl
  · have c1 : ¬ nI p ≤ nI q := nI_ge hq (by omega)
    obtain ⟨v1, v2⟩ := hc q hq
    have ce : nI (col q) = nI k ↔ col q = k := nI_eqI (by omega) (by omega)
    have pc := paper_C hL (p := q) (q := p) (by omega) hp
    simp (disch := omega) only [F_X9_isClear_2b, F_X9_isClear_40, F_X9_isClear_38, ↓reduceIte, c1, ↓bOX hP, ↓bAX, ↓bOC hP, ↓bAC, v1, hk, ce, pc, nI_1, xz0, Option.bind_some, Option.map_some]
    by_cases h : col q = k
    · rw [if_pos h, decide_eq_true h]
      cases ovB t q p <;> rfl
    · rw [if_neg h, decide_eq_false h]
      rfl
  · have c1 : nI p ≤ nI p := nI_le (Nat.le_refl _) (by omega)
    simp only [F_X9_isClear_2b, F_X9_isClear_46, ↓reduceIte, c1, xz1, Option.bind_some, Option.map_some]
theorem fit_C {P : Nat → Nat → Option Nat} (hP : GP P) {J : Nat → Nat → Int64} {t : Txt} {k : Nat} (hw : wfT t) (hk : k ≤ 6) : ∀ fuel d p (col : Nat → Nat) (I : Nat → Nat → Int32), d < fuel → p + d = (tPapers t).length → LandC (mm P I J) 14 t → (∀ q, q < p → I 123 q = nI (col q) ∧ col q < 100) →
    ∃ I', R_X9_fits fuel 122 14 (nI p) (nI k) (mm P I J) = some (if (fitS t (tPapers t).length k d p col).isSome then 1 else 0, mm P I' J) ∧ (∀ a i, a ≠ 123 → I' a i = I a i) ∧ (∀ q, q < p → I' 123 q = I 123 q) ∧ ∀ r, fitS t (tPapers t).length k d p col = some r → (∀ q, q < (tPapers t).length → I' 123 q = nI (r q) ∧ r q < 100) ∧ ∀ q, q < p → r q = col q
  | 0, d, p, col, I, h, _, _, _ => by omega
  | fuel + 1, d, p, col, I, hf, hd, hL, hc => by
    have h6 := hw.2.2.2.2.2.1.1
    have l6 : I 14 6 = nI (tPapers t).length := hL.2.2.2.2.2.2.1
    show ∃ I', F_X9_fits (R_X9_fits fuel) 122 14 (nI p) (nI k) (mm P I J) = _ ∧ _
    cases d with
    | zero =>
      have c1 : nI (tPapers t).length ≤ nI p := nI_le (by omega) (by omega)
      refine ⟨I, ?_, fun _ _ _ => rfl, fun _ _ => rfl, fun r hr => ?_⟩
      · simp only [F_X9_fits, ↓bOC hP, l6, ↓reduceIte, c1, xz1, Option.bind_some]
        rfl
      · cases hr
        exact ⟨fun q hq => hc q (by omega), fun _ _ => rfl⟩
    | succ d =>
      have hp : p < (tPapers t).length := by omega
      have c1 : ¬ nI (tPapers t).length ≤ nI p := nI_ge hp (by omega)
      have c2 : nI p < (6 : Int32) := nI_lt (b := 6) (by omega) (by omega)
      have key : ∃ r : Int32 × xM, xit (F_X9_fits_19b (R_X9_fits fuel) 122 14 (nI p) (nI k)) xFU (nI 0, mm P I J) = some r ∧ (∃ I', r = (if (fitS t (tPapers t).length k (d + 1) p col).isSome then 1 else 0, mm P I' J) ∧ (∀ a i, a ≠ 123 → I' a i = I a i) ∧ (∀ q, q < p → I' 123 q = I 123 q) ∧ ∀ r, fitS t (tPapers t).length k (d + 1) p col = some r → (∀ q, q < (tPapers t).length → I' 123 q = nI (r q) ∧ r q < 100) ∧ ∀ q, q < p → r q = col q) := by
        refine xit_inv (fun c z => ∃ I', z = (nI c, mm P I' J) ∧ (∀ a i, a ≠ 123 → I' a i = I a i) ∧ (∀ q, q < p → I' 123 q = I 123 q) ∧ fitS t (tPapers t).length k (d + 1) p col = tryS (fun c => if clearB t col p c then fitS t (tPapers t).length k d (p + 1) (setC col p c) else none) c (k - c)) _ k ⟨I, rfl, fun _ _ _ => rfl, fun _ _ => rfl, rfl⟩ (fun c z hj hq => ?_) (fun z hq => ?_) (by omega)
        · obtain ⟨I1, rfl, q1, q2, q3⟩ := hq
          rw [show k - c = (k - (c + 1)) + 1 by omega] at q3
          have q3' : fitS t (tPapers t).length k (d + 1) p col = ((if clearB t col p c then fitS t (tPapers t).length k d (p + 1) (setC col p c) else none).or (tryS (fun c => if clearB t col p c then fitS t (tPapers t).length k d (p + 1) (setC col p c) else none) (c + 1) (k - (c + 1)))) := q3
          have x1 : ¬ nI k ≤ nI c := nI_ge hj (by omega)
          have hL1 : LandC (mm P (xu I1 123 p (nI c)) J) 14 t := LandC_I (fun a i _ _ => by rw [xu_o (by omega), q1 a i (by omega)]) hL
          have hc1 : ∀ q, q < p → (xu I1 123 p (nI c)) 123 q = nI (col q) ∧ col q < 100 := fun q hq => by
            rw [xu_o (by omega), q2 q hq]; exact hc q hq
          have cc := clear_C hP (J := J) (col := col) (k := c) hw hL1 hp hc1 xu_self (by omega)
          have f1 : ∀ a i, a ≠ 123 → (xu I1 123 p (nI c)) a i = I a i := fun a i h => by rw [xu_o (by omega), q1 a i h]
          have f2 : ∀ q, q < p → (xu I1 123 p (nI c)) 123 q = I 123 q := fun q hq => by rw [xu_o (by omega), q2 q hq]
          cases hb : clearB t col p c with
          | false =>
            rw [hb] at cc
            have q3'' : fitS t (tPapers t).length k (d + 1) p col = tryS (fun c => if clearB t col p c then fitS t (tPapers t).length k d (p + 1) (setC col p c) else none) (c + 1) (k - (c + 1)) := by
              rw [q3', hb]
              rfl
            refine Or.inl ⟨(nI (c + 1), mm P (xu I1 123 p (nI c)) J), ?_, _, rfl, f1, f2, q3''⟩
            simp (disch := omega) only [F_X9_fits_19b, F_X9_fits_56, ↓reduceIte, x1, ↓bOX hP, ↓bAX, ↓bs cc, Bool.false_eq_true, nI_1]
          | true =>
            rw [hb] at cc
            have hc2 : ∀ q, q < p + 1 → (xu I1 123 p (nI c)) 123 q = nI (setC col p c q) ∧ setC col p c q < 100 := fun q hq => by
              unfold setC
              by_cases e : q = p
              · rw [if_pos e, e, xu_self]; exact ⟨rfl, by omega⟩
              · rw [if_neg e]; exact hc1 q (by omega)
            obtain ⟨I2, r1, r2, r3, r4⟩ := fit_C hP (J := J) hw hk fuel d (p + 1) (setC col p c) (xu I1 123 p (nI c)) (by omega) (by omega) hL1 hc2
            cases hr : fitS t (tPapers t).length k d (p + 1) (setC col p c) with
            | some r =>
              rw [hr] at r1
              have r1' : R_X9_fits fuel 122 14 (nI (p + 1)) (nI k) (mm P (xu I1 123 p (nI c)) J) = some (1, mm P I2 J) := r1
              have eF : fitS t (tPapers t).length k (d + 1) p col = some r := by rw [q3', hb, if_pos rfl, hr]; rfl
              obtain ⟨w1, w2⟩ := r4 r hr
              refine Or.inr ⟨(1, mm P I2 J), ?_, I2, ?_, fun a i h => by rw [r2 a i h, f1 a i h], fun q hq => by rw [r3 q (by omega), f2 q hq], fun r' hr' => ?_⟩
              · simp (disch := omega) only [F_X9_fits_19b, F_X9_fits_54, ↓reduceIte, x1, ↓bOX hP, ↓bAX, ↓bs cc, one_ne, nI_1, ↓bs r1', xz1, Option.bind_some, Option.map_some]
              · rw [eF]; rfl
              · rw [eF] at hr'
                cases hr'
                refine ⟨w1, fun q hq => ?_⟩
                rw [w2 q (by omega)]
                unfold setC
                rw [if_neg (by omega)]
            | none =>
              rw [hr] at r1
              have r1' : R_X9_fits fuel 122 14 (nI (p + 1)) (nI k) (mm P (xu I1 123 p (nI c)) J) = some (0, mm P I2 J) := r1
              have q3'' : fitS t (tPapers t).length k (d + 1) p col = tryS (fun c => if clearB t col p c then fitS t (tPapers t).length k d (p + 1) (setC col p c) else none) (c + 1) (k - (c + 1)) := by
                rw [q3', hb, if_pos rfl, hr]
                rfl
              refine Or.inl ⟨(nI (c + 1), mm P I2 J), ?_, I2, rfl, fun a i h => by rw [r2 a i h, f1 a i h], fun q hq => by rw [r3 q (by omega), f2 q hq], q3''⟩
              simp (disch := omega) only [F_X9_fits_19b, F_X9_fits_56, ↓reduceIte, x1, ↓bOX hP, ↓bAX, ↓bs cc, one_ne, nI_1, ↓bs r1']
        · obtain ⟨I1, rfl, q1, q2, q3⟩ := hq
          have x1 : nI k ≤ nI k := nI_le (Nat.le_refl _) (by omega)
          rw [Nat.sub_self] at q3
          have q3' : fitS t (tPapers t).length k (d + 1) p col = none := q3
          refine ⟨(0, mm P I1 J), ?_, I1, by rw [q3']; rfl, q1, q2, fun r hr => by rw [q3'] at hr; cases hr⟩
          simp only [F_X9_fits_19b, F_X9_fits_62, ↓reduceIte, x1, xz0, Option.bind_some, Option.map_some]
      obtain ⟨r, h1, I', rfl, h2⟩ := key
      refine ⟨I', ?_, h2⟩
      unfold F_X9_fits F_X9_fits_19
      simp only [↓bOC hP, l6, ↓reduceIte, c1, c2]
      exact h1
theorem fit_M {P : Nat → Nat → Option Nat} (hP : GP P) {J : Nat → Nat → Int64} {t : Txt} {k : Nat} (hw : wfT t) (hk : k ≤ 6) : ∀ fuel d p (col : Nat → Nat) (I : Nat → Nat → Int32), d < fuel → p + d = (tPapers t).length → LandA (I 165) 0 t → (∀ q, q < p → I 178 q = nI (col q) ∧ col q < 100) →
    ∃ I', R_X12_canColour fuel 164 (nI p) (nI k) (mm P I J) = some (if (fitS t (tPapers t).length k d p col).isSome then 1 else 0, mm P I' J) ∧ (∀ a i, a ≠ 178 → I' a i = I a i) ∧ (∀ q, q < p → I' 178 q = I 178 q) ∧ ∀ r, fitS t (tPapers t).length k d p col = some r → (∀ q, q < (tPapers t).length → I' 178 q = nI (r q) ∧ r q < 100) ∧ ∀ q, q < p → r q = col q
  | 0, d, p, col, I, h, _, _, _ => by omega
  | fuel + 1, d, p, col, I, hf, hd, hA, hc => by
    have h6 := hw.2.2.2.2.2.1.1
    have a5 : I 165 5 = nI (tPapers t).length := hA.2.2.2.2.2.1
    have eq : nI p = nI (tPapers t).length ↔ p = (tPapers t).length := nI_eqI (by omega) (by omega)
    show ∃ I', F_X12_canColour (R_X12_canColour fuel) 164 (nI p) (nI k) (mm P I J) = _ ∧ _
    cases d with
    | zero =>
      have c1 : nI p = nI (tPapers t).length := eq.mpr (by omega)
      refine ⟨I, ?_, fun _ _ _ => rfl, fun _ _ => rfl, fun r hr => ?_⟩
      · simp only [F_X12_canColour, ↓bOM hP, ↓bAM, a5, c1, ↓reduceIte, xz1, Option.bind_some]
        rfl
      · cases hr
        exact ⟨fun q hq => hc q (by omega), fun _ _ => rfl⟩
    | succ d =>
      have hp : p < (tPapers t).length := by omega
      have c1 : ¬ nI p = nI (tPapers t).length := fun z => by have := eq.mp z; omega
      have key : ∃ r : Int32 × xM, xit (F_X12_canColour_14b (R_X12_canColour fuel) 164 (nI p) (nI k)) xFU (nI 0, mm P I J) = some r ∧ (∃ I', r = (if (fitS t (tPapers t).length k (d + 1) p col).isSome then 1 else 0, mm P I' J) ∧ (∀ a i, a ≠ 178 → I' a i = I a i) ∧ (∀ q, q < p → I' 178 q = I 178 q) ∧ ∀ r, fitS t (tPapers t).length k (d + 1) p col = some r → (∀ q, q < (tPapers t).length → I' 178 q = nI (r q) ∧ r q < 100) ∧ ∀ q, q < p → r q = col q) := by
        refine xit_inv (fun c z => ∃ I', z = (nI c, mm P I' J) ∧ (∀ a i, a ≠ 178 → I' a i = I a i) ∧ (∀ q, q < p → I' 178 q = I 178 q) ∧ fitS t (tPapers t).length k (d + 1) p col = tryS (fun c => if clearB t col p c then fitS t (tPapers t).length k d (p + 1) (setC col p c) else none) c (k - c)) _ k ⟨I, rfl, fun _ _ _ => rfl, fun _ _ => rfl, rfl⟩ (fun c z hj hq => ?_) (fun z hq => ?_) (by omega)
        · obtain ⟨I1, rfl, q1, q2, q3⟩ := hq
          rw [show k - c = (k - (c + 1)) + 1 by omega] at q3
          have q3' : fitS t (tPapers t).length k (d + 1) p col = ((if clearB t col p c then fitS t (tPapers t).length k d (p + 1) (setC col p c) else none).or (tryS (fun c => if clearB t col p c then fitS t (tPapers t).length k d (p + 1) (setC col p c) else none) (c + 1) (k - (c + 1)))) := q3
          have x1 : ¬ nI k ≤ nI c := nI_ge hj (by omega)
          have hA1 : LandA (I1 165) 0 t := LandA_cg (A := I 165) hw (fun x _ => q1 _ _ (by omega)) hA
          have inner : F_X12_canColour_25 (R_X12_canColour fuel) 164 (nI p) (nI k) (nI c) 1 0 (mm P I1 J) = F_X12_canColour_68 (R_X12_canColour fuel) 164 (nI p) (nI k) (nI c) (if clearB t col p c then 1 else 0) (mm P I1 J) := by
            unfold F_X12_canColour_25 clearB
            refine xit_run (fun q => ((if allN (fun q => !(decide (col q = c) && ovB t q p)) q then 1 else 0), nI q, mm P I1 J)) p rfl (fun q hq => ?_) ?_ (by omega)
            · have y1 : ¬ nI p ≤ nI q := nI_ge hq (by omega)
              have v := hc q hq
              have v1 : I1 178 q = nI (col q) := by rw [q2 q hq]; exact v.1
              have ce : nI (col q) = nI c ↔ col q = c := nI_eqI (by omega) (by omega)
              have ov := overlap_M hP (J := J) hw hA1 hp (q := q) (by omega)
              rw [ovB_comm] at ov
              have ea : allN (fun q => !(decide (col q = c) && ovB t q p)) (q + 1) = (allN (fun q => !(decide (col q = c) && ovB t q p)) q && !(decide (col q = c) && ovB t q p)) := rfl
              simp (disch := omega) only [F_X12_canColour_25b, F_X12_canColour_54, F_X12_canColour_59, ↓reduceIte, y1, ↓bOM hP, ↓bAM, v1, ce, ↓bs ov, ↓Option.bind_some, nI_1, ea]
              by_cases h : col q = c
              · rw [if_pos h, decide_eq_true h]
                cases ovB t q p <;> cases allN (fun q => !(decide (col q = c) && ovB t q p)) q <;> rfl
              · rw [if_neg h, decide_eq_false h]
                cases ovB t q p <;> cases allN (fun q => !(decide (col q = c) && ovB t q p)) q <;> rfl
            · have y1 : nI p ≤ nI p := nI_le (Nat.le_refl _) (by omega)
              simp only [F_X12_canColour_25b, ↓reduceIte, y1]
          cases hb : clearB t col p c with
          | false =>
            rw [hb] at inner
            have q3'' : fitS t (tPapers t).length k (d + 1) p col = tryS (fun c => if clearB t col p c then fitS t (tPapers t).length k d (p + 1) (setC col p c) else none) (c + 1) (k - (c + 1)) := by
              rw [q3', hb]
              rfl
            refine Or.inl ⟨(nI (c + 1), mm P I1 J), ?_, I1, rfl, q1, q2, q3''⟩
            simp only [F_X12_canColour_14b, ↓reduceIte, x1, inner]
            simp only [F_X12_canColour_68, F_X12_canColour_96, Bool.false_eq_true, ↓reduceIte, nI_1]
          | true =>
            rw [hb] at inner
            have f1 : ∀ a i, a ≠ 178 → (xu I1 178 p (nI c)) a i = I a i := fun a i h => by rw [xu_o (by omega), q1 a i h]
            have f2 : ∀ q, q < p → (xu I1 178 p (nI c)) 178 q = I 178 q := fun q hq => by rw [xu_o (by omega), q2 q hq]
            have hc2 : ∀ q, q < p + 1 → (xu I1 178 p (nI c)) 178 q = nI (setC col p c q) ∧ setC col p c q < 100 := fun q hq => by
              unfold setC
              by_cases e : q = p
              · rw [if_pos e, e, xu_self]; exact ⟨rfl, by omega⟩
              · rw [if_neg e, f2 q (by omega)]; exact hc q (by omega)
            obtain ⟨I2, r1, r2, r3, r4⟩ := fit_M hP (J := J) hw hk fuel d (p + 1) (setC col p c) (xu I1 178 p (nI c)) (by omega) (by omega) (LandA_cg (A := I 165) hw (fun x _ => f1 _ _ (by omega)) hA) hc2
            cases hr : fitS t (tPapers t).length k d (p + 1) (setC col p c) with
            | some r =>
              rw [hr] at r1
              have r1' : R_X12_canColour fuel 164 (nI (p + 1)) (nI k) (mm P (xu I1 178 p (nI c)) J) = some (1, mm P I2 J) := r1
              have eF : fitS t (tPapers t).length k (d + 1) p col = some r := by rw [q3', hb, if_pos rfl, hr]; rfl
              obtain ⟨w1, w2⟩ := r4 r hr
              refine Or.inr ⟨(1, mm P I2 J), ?_, I2, ?_, fun a i h => by rw [r2 a i h, f1 a i h], fun q hq => by rw [r3 q (by omega), f2 q hq], fun r' hr' => ?_⟩
              · simp only [F_X12_canColour_14b, ↓reduceIte, x1, inner]
                simp (disch := omega) only [F_X12_canColour_68, F_X12_canColour_94, ↓reduceIte, one_ne, ↓bOM hP, ↓bAM, nI_1, ↓bs r1', xz1, Option.bind_some, Option.map_some]
              · rw [eF]; rfl
              · rw [eF] at hr'
                cases hr'
                refine ⟨w1, fun q hq => ?_⟩
                rw [w2 q (by omega)]
                unfold setC
                rw [if_neg (by omega)]
            | none =>
              rw [hr] at r1
              have r1' : R_X12_canColour fuel 164 (nI (p + 1)) (nI k) (mm P (xu I1 178 p (nI c)) J) = some (0, mm P I2 J) := r1
              have q3'' : fitS t (tPapers t).length k (d + 1) p col = tryS (fun c => if clearB t col p c then fitS t (tPapers t).length k d (p + 1) (setC col p c) else none) (c + 1) (k - (c + 1)) := by
                rw [q3', hb, if_pos rfl, hr]
                rfl
              refine Or.inl ⟨(nI (c + 1), mm P I2 J), ?_, I2, rfl, fun a i h => by rw [r2 a i h, f1 a i h], fun q hq => by rw [r3 q (by omega), f2 q hq], q3''⟩
              simp only [F_X12_canColour_14b, ↓reduceIte, x1, inner]
              simp (disch := omega) only [F_X12_canColour_68, F_X12_canColour_96, ↓reduceIte, one_ne, ↓bOM hP, ↓bAM, nI_1, ↓bs r1']
        · obtain ⟨I1, rfl, q1, q2, q3⟩ := hq
          have x1 : nI k ≤ nI k := nI_le (Nat.le_refl _) (by omega)
          rw [Nat.sub_self] at q3
          have q3' : fitS t (tPapers t).length k (d + 1) p col = none := q3
          refine ⟨(0, mm P I1 J), ?_, I1, by rw [q3']; rfl, q1, q2, fun r hr => by rw [q3'] at hr; cases hr⟩
          simp only [F_X12_canColour_14b, F_X12_canColour_102, ↓reduceIte, x1, xz0, Option.bind_some, Option.map_some]
      obtain ⟨r, h1, I', rfl, h2⟩ := key
      refine ⟨I', ?_, h2⟩
      unfold F_X12_canColour F_X12_canColour_14
      simp only [↓bOM hP, ↓bAM, a5, ↓reduceIte, c1]
      exact h1
