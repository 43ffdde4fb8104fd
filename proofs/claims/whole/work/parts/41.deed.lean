/-! ===== a deed that is done ===== -/
def Ish (n : Nat) (M : xM) (t : Txt) (c : Cst) (cs : List Cst) (nx : Nat) : Prop := wfT t ∧ LandC M 14 t ∧ LandA (M.2.1 165) 0 t ∧ wfC t c n ∧ CoastC M 21 t c ∧ CoastA (M.2.1 165) 67 t c ∧ cs.length ≤ 10 ∧ nx < 11 ∧ M.2.1 35 0 = nI cs.length ∧ M.2.1 35 1 = nI nx ∧ M.2.1 165 108 = nI cs.length ∧
  ∀ (j : Nat) (c : Cst), cs[j]? = some c → wfC t c n ∧ CoastC M (37 + 4 * ((nx + 10 - j) % 11)) t c ∧ CoastA (M.2.1 165) (109 + 41 * (cs.length - 1 - j)) t c
theorem INV_sh {n : Nat} {M : xM} (h : INV n M) : ∃ t c cs nx, Ish n M t c cs nx := by
  obtain ⟨t, ⟨h1, h2, h3, c, h4, h5, h6⟩, cs, nx, p⟩ := h.2.2.2.1
  exact ⟨t, c, cs, nx, h1, h2, h3, h4, h5, h6, p⟩
theorem sh_INV {m : Nat} {M : xM} {t : Txt} {c : Cst} {cs : List Cst} {nx : Nat} (hG : G M) (h1 : Ifault M) (h2 : Itape M) (h : Ish m M t c cs nx) (h3 : Itray M) (h4 : Iimg m M) (h5 : Inim M) : INV m M := by
  obtain ⟨a1, a2, a3, a4, a5, a6, p⟩ := h
  exact ⟨hG, h1, h2, ⟨t, ⟨a1, a2, a3, c, a4, a5, a6⟩, cs, nx, p⟩, h3, h4, h5⟩
theorem Iimg_mono {n : Nat} {M : xM} (h : Iimg n M) : Iimg (n + 1) M := by
  obtain ⟨mk, i1, i2, i3⟩ := h
  refine ⟨mk, i1, i2, fun i hi => ⟨(i3 i hi).1, fun hb => ?_⟩⟩
  obtain ⟨t, c, a1, a2, a3⟩ := (i3 i hi).2 hb
  exact ⟨t, c, a1, wfC_mono a2, a3⟩
/-- what a change of other places leaves as it was -/
theorem rest_fr {n : Nat} {P : Nat → Nat → Option Nat} {I I' : Nat → Nat → Int32} {J : Nat → Nat → Int64} (hI : INV n (mm P I J)) (hk : ∀ k i, ¬ ((14 ≤ k ∧ k ≤ 24) ∨ (35 ≤ k ∧ k ≤ 80) ∨ scr k i ∨ (k = 165 ∧ i < 1420)) → I' k i = I k i) : G (mm P I' J) ∧ Ifault (mm P I' J) ∧ Itape (mm P I' J) ∧ Itray (mm P I' J) ∧ Iimg n (mm P I' J) ∧ Inim (mm P I' J) := by
  obtain ⟨g, f1, f2, -, f4, f5, f6⟩ := hI
  refine ⟨⟨g.1, g.2⟩, Ifault_fr (M := mm P I J) (fun k i h => hk k i (by unfold scr; omega)) f1, Itape_fr (M := mm P I J) (fun k i h => hk k i (by unfold scr; omega)) f2, Itray_fr (M := mm P I J) (fun k i h => hk k i (by unfold scr; omega)) (fun k i h => rfl) f4, Iimg_fr (M := mm P I J) (fun k i h => hk k i (by unfold scr; omega)) f5, Inim_fr (M := mm P I J) (fun i => hk 124 i (by unfold scr; omega)) f6⟩
theorem LandA_cg2 {A A' : Nat → Int32} {B B' : Nat} {t : Txt} (hw : wfT t) (e : ∀ i, i < 67 ∨ (520 ≤ i ∧ i < 1420) → A' (B' + i) = A (B + i)) (h : LandA A B t) : LandA A' B' t := by
  obtain ⟨h0, h1, h2, h3, h4, h5, h6, h7, h8, h9, h10, h11, h12, h13⟩ := h
  have wp := hw.2.2.2.2.1.1
  have wq := hw.2.2.2.2.2.1.1
  have wd := hw.2.2.2.2.2.2.1.1
  have e0 : A' B' = A B := e 0 (by omega)
  have ek : ∀ a i, a + i < 67 ∨ (520 ≤ a + i ∧ a + i < 1420) → A' (B' + a + i) = A (B + a + i) := fun a i hi => by rw [Nat.add_assoc, Nat.add_assoc]; exact e (a + i) hi
  refine ⟨e0.trans h0, (e 1 (by omega)).trans h1, (e 2 (by omega)).trans h2, (e 3 (by omega)).trans h3, (e 4 (by omega)).trans h4, (e 5 (by omega)).trans h5, (e 6 (by omega)).trans h6, fun p q hq => ?_, fun p q hq => ?_, fun p q hq => ?_, (e 7 (by omega)).trans h10, (e 8 (by omega)).trans h11, fun hne => ?_, fun hne => ?_⟩
  · have := getlt hq
    obtain ⟨a, b, c⟩ := h7 p q hq
    exact ⟨(ek 13 (3 * p) (by omega)).trans a, (ek 14 (3 * p) (by omega)).trans b, (ek 15 (3 * p) (by omega)).trans c⟩
  · have := getlt hq
    obtain ⟨a, b⟩ := h8 p q hq
    exact ⟨(ek 31 (2 * p) (by omega)).trans a, (ek 32 (2 * p) (by omega)).trans b⟩
  · have := getlt hq
    obtain ⟨a, b, c⟩ := h9 p q hq
    exact ⟨(ek 43 (3 * p) (by omega)).trans a, (ek 44 (3 * p) (by omega)).trans b, (ek 45 (3 * p) (by omega)).trans c⟩
  · obtain ⟨f, x, a, b, c, d⟩ := h12 hne
    exact ⟨f, x, (e 9 (by omega)).trans a, (e 11 (by omega)).trans b, c, codeAt_cg (fun i hi => ek 520 i (by omega)) d⟩
  · obtain ⟨f, x, a, b, c, d⟩ := h13 hne
    exact ⟨f, x, (e 10 (by omega)).trans a, (e 12 (by omega)).trans b, c, codeAt_cg (fun i hi => ek 520 i (by omega)) d⟩
theorem deed_fin {n : Nat} {P : Nat → Nat → Option Nat} {I I' : Nat → Nat → Int32} {J : Nat → Nat → Int64} {t : Txt} {c c' : Cst} {cs : List Cst} {nx : Nat} (hI : INV n (mm P I J)) (hS : Ish n (mm P I J) t c cs nx)
    (hk : ∀ k i, ¬ ((21 ≤ k ∧ k ≤ 24) ∨ k = 35 ∨ (37 + 4 * nx ≤ k ∧ k ≤ 37 + 4 * nx + 3) ∨ scr k i ∨ (k = 165 ∧ 67 ≤ i ∧ i < 519)) → I' k i = I k i)
    (hr : CoastC (mm P I' J) (37 + 4 * nx) t c) (h0 : I' 35 0 = nI (min (cs.length + 1) 10)) (h1 : I' 35 1 = nI ((nx + 1) % 11))
    (hc' : wfC t c' (n + 1)) (hC' : CoastC (mm P I' J) 21 t c') (hD' : CoastA (I' 165) 67 t c')
    (hf : cs.length = 10 → (∀ i, i < 369 → I' 165 (109 + i) = I 165 (150 + i)) ∧ (∀ i, i < 41 → I' 165 (478 + i) = I 165 (67 + i)) ∧ I' 165 108 = nI 10)
    (hg : cs.length < 10 → (∀ i, i < 41 * cs.length → I' 165 (109 + i) = I 165 (109 + i)) ∧ (∀ i, i < 41 → I' 165 (109 + 41 * cs.length + i) = I 165 (67 + i)) ∧ I' 165 108 = nI (cs.length + 1)) : INV (n + 1) (mm P I' J) := by
  obtain ⟨hw, hL, hA, hc, hC, hD, p1, p2, p3, p4, p5, p6⟩ := hS
  obtain ⟨g, f1, f2, f4, f5, f6⟩ := rest_fr hI (I' := I') (fun k i h => hk k i (by unfold scr at h ⊢; omega))
  refine sh_INV (t := t) (c := c') (cs := (c :: cs).take 10) (nx := (nx + 1) % 11) g f1 f2 ⟨hw, ?_, ?_, hc', hC', hD', ?_, ?_, ?_, h1, ?_, ?_⟩ f4 (Iimg_mono f5) f6
  · exact LandC_cg (M := mm P I J) (fun j hj => funext fun i => hk _ i (by unfold scr; omega)) hL
  · exact LandA_cg2 (A := I 165) (B := 0) hw (fun i hi => hk 165 _ (by unfold scr; omega)) hA
  · rw [List.length_take, List.length_cons]; omega
  · omega
  · show I' 35 0 = _
    rw [h0, List.length_take, List.length_cons, Nat.min_comm]
  · show I' 165 108 = _
    rw [List.length_take, List.length_cons]
    by_cases h : cs.length = 10
    · rw [(hf h).2.2, h]; rfl
    · rw [(hg (by omega)).2.2, Nat.min_eq_right (by omega)]
  · intro j c0 hj
    rw [List.length_take, List.length_cons]
    have hj10 : j < 10 := by
      have := getlt hj
      rw [List.length_take] at this
      omega
    rw [List.getElem?_take_of_lt hj10] at hj
    cases j with
    | zero =>
      rw [List.getElem?_cons_zero] at hj
      cases hj
      refine ⟨wfC_mono hc, ?_, ?_⟩
      · rw [show ((nx + 1) % 11 + 10 - 0) % 11 = nx by omega]
        exact hr
      · refine CoastA_cg (A := I 165) (B := 67) hw hc (fun i hi => ?_) hD
        by_cases h : cs.length = 10
        · rw [show 109 + 41 * (min 10 (cs.length + 1) - 1 - 0) = 478 by omega]
          exact (hf h).2.1 i hi
        · rw [show 109 + 41 * (min 10 (cs.length + 1) - 1 - 0) = 109 + 41 * cs.length by omega]
          exact (hg (by omega)).2.1 i hi
    | succ j =>
      rw [List.getElem?_cons_succ] at hj
      have hjl := getlt hj
      obtain ⟨q1, q2, q3⟩ := p6 j c0 hj
      refine ⟨wfC_mono q1, ?_, ?_⟩
      · rw [show ((nx + 1) % 11 + 10 - (j + 1)) % 11 = (nx + 10 - j) % 11 by omega]
        exact CoastC_cg (M := mm P I J) (fun i hi => funext fun x => hk _ x (by unfold scr; omega)) q2
      · refine CoastA_cg (A := I 165) (B := 109 + 41 * (cs.length - 1 - j)) hw q1 (fun i hi => ?_) q3
        by_cases h : cs.length = 10
        · have e := (hf h).1 (41 * (8 - j) + i) (by omega)
          rw [show 109 + 41 * (min 10 (cs.length + 1) - 1 - (j + 1)) + i = 109 + (41 * (8 - j) + i) by omega, show 109 + 41 * (cs.length - 1 - j) + i = 150 + (41 * (8 - j) + i) by omega]
          exact e
        · have e := (hg (by omega)).1 (41 * (cs.length - 1 - j) + i) (by omega)
          rw [show 109 + 41 * (min 10 (cs.length + 1) - 1 - (j + 1)) + i = 109 + (41 * (cs.length - 1 - j) + i) by omega, show 109 + 41 * (cs.length - 1 - j) + i = 109 + (41 * (cs.length - 1 - j) + i) by omega]
          exact e
/-- the chain of a deed: kept, done, confirmed; stored, done, noted -/
def inD (k i : Nat) : Prop := (21 ≤ k ∧ k ≤ 24) ∨ scr k i
def inE (k i : Nat) : Prop := (k = 165 ∧ 67 ≤ i ∧ i < 108) ∨ (scr k i ∧ k ≠ 173)
theorem noteI_o {I : Nat → Nat → Int32} {s k i : Nat} (hs : s ≤ 10) (h : ¬ (k = 165 ∧ 108 ≤ i ∧ i < 519)) : noteI I s k i = I k i := by
  unfold noteI
  split
  · simp (disch := omega) only [xu_o, cpx_o]
  · simp (disch := omega) only [xu_o, cpx_o]
theorem note_10 {I : Nat → Nat → Int32} : (∀ i, i < 369 → noteI I 10 165 (109 + i) = I 165 (150 + i)) ∧ (∀ i, i < 41 → noteI I 10 165 (478 + i) = I 173 i) ∧ noteI I 10 165 108 = nI 10 := by
  unfold noteI
  rw [if_pos rfl]
  refine ⟨fun i hi => ?_, fun i hi => ?_, xu_self⟩
  · rw [xu_o (by omega), cpx_o (by omega), xu_o (by omega), cpx_in hi]
  · rw [xu_o (by omega), cpx_in hi, xu_o (by omega), cpx_o (by omega), Nat.zero_add]
theorem note_s {I : Nat → Nat → Int32} {s : Nat} (hs : s < 10) : (∀ i, i < 41 * s → noteI I s 165 (109 + i) = I 165 (109 + i)) ∧ (∀ i, i < 41 → noteI I s 165 (109 + 41 * s + i) = I 173 i) ∧ noteI I s 165 108 = nI (s + 1) := by
  unfold noteI
  rw [if_neg (by omega)]
  refine ⟨fun i hi => ?_, fun i hi => ?_, xu_self⟩
  · rw [xu_o (by omega), cpx_o (by omega)]
  · rw [xu_o (by omega), cpx_in hi, Nat.zero_add]
/-- confirmed -/
def cfI (I : Nat → Nat → Int32) (nx l : Nat) : Nat → Nat → Int32 := xu (xu I 35 1 (nI ((nx + 1) % 11))) 35 0 (nI (min (l + 1) 10))
/-- stored -/
def stI (I : Nat → Nat → Int32) : Nat → Nat → Int32 := cpx (xu I 164 0 0) 173 0 165 67 41
theorem deed_all {n : Nat} {P : Nat → Nat → Option Nat} {I I1 I2 I5 : Nat → Nat → Int32} {J : Nat → Nat → Int64} {t : Txt} {c c' : Cst} {cs : List Cst} {nx : Nat} (hI : INV n (mm P I J)) (hS : Ish n (mm P I J) t c cs nx)
    (k1 : Kp nx I I1) (k2 : ∀ k i, ¬ inD k i → I2 k i = I1 k i)
    (k5 : ∀ k i, ¬ inE k i → I5 k i = stI (cfI I2 nx cs.length) k i)
    (hc' : wfC t c' (n + 1)) (hC' : CoastC (mm P I2 J) 21 t c') (hD' : CoastA (I5 165) 67 t c') : INV (n + 1) (mm P (noteI I5 cs.length) J) := by
  have hS' := hS
  obtain ⟨hw, hL, hA, hc, hC, hD, p1, p2, p3, p4, p5, p6⟩ := hS'
  have e5 : ∀ k i, ¬ inE k i → k ≠ 173 → k ≠ 35 → k ≠ 164 → I5 k i = I2 k i := by
    intro k i h1 h2 h3 h4
    rw [k5 k i h1, stI, cfI, cpx_o (by omega), xu_o (by omega), xu_o (by omega), xu_o (by omega)]
  have e2 : ∀ k i, ¬ inD k i → ¬ (37 + 4 * nx ≤ k ∧ k ≤ 37 + 4 * nx + 3) → I2 k i = I k i := fun k i h1 h2 => by rw [k2 k i h1, k1.1 k i h2]
  have eA : ∀ i, ¬ (67 ≤ i ∧ i < 108) → I5 165 i = I 165 i := fun i hi => by
    rw [e5 165 i (by unfold inE scr; omega) (by omega) (by omega) (by omega), e2 165 i (by unfold inD scr; omega) (by omega)]
  have eW : ∀ i, i < 41 → I5 173 i = I 165 (67 + i) := fun i hi => by
    have h := cpx_in (I := xu (xu (xu I2 35 1 (nI ((nx + 1) % 11))) 35 0 (nI (min (cs.length + 1) 10))) 164 0 0) (b := 173) (j0 := 0) (a := 165) (i0 := 67) hi
    rw [Nat.zero_add] at h
    rw [k5 173 i (by unfold inE scr; omega), stI, cfI, h, xu_o (by omega), xu_o (by omega), xu_o (by omega), e2 165 _ (by unfold inD scr; omega) (by omega)]
  have eC : ∀ k i, k < 125 → ¬ scr k i → k ≠ 35 → noteI I5 cs.length k i = I2 k i := fun k i h1 h2 h3 => by
    unfold scr at h2
    rw [noteI_o p1 (by omega), e5 k i (by unfold inE scr; omega) (by omega) h3 (by omega)]
  refine deed_fin hI hS (fun k i h => ?_) ?_ ?_ ?_ hc' ?_ ?_ (fun h => ?_) (fun h => ?_)
  · unfold scr at h
    by_cases h165 : k = 165
    · subst h165
      rw [noteI_o p1 (by omega), eA i (by omega)]
    · by_cases h164 : k = 164
      · subst h164
        have h6 : i ≠ 0 := by omega
        rw [noteI_o p1 (by omega), k5 164 i (by unfold inE scr; omega), stI, cfI, cpx_o (by omega), xu_o (by omega), xu_o (by omega), xu_o (by omega), e2 164 i (by unfold inD scr; omega) (by omega)]
      · have h173 : k ≠ 173 := by
          omega
        rw [noteI_o p1 (by omega), e5 k i (by unfold inE scr; omega) h173 (by omega) h164, e2 k i (by unfold inD scr; omega) (by omega)]
  · refine CoastC_same (M := mm P I J) (b := 21) hw hc (fun i hi => ?_) (fun i hi => ?_) (fun i hi => ?_) ?_ ?_ ?_ ?_ hC
    · show noteI I5 cs.length _ i = I 22 i
      rw [eC _ _ (by omega) (by unfold scr; omega) (by omega), k2 _ _ (by unfold inD scr; omega), k1.2.1 i hi]
    · show noteI I5 cs.length _ i = I 23 i
      rw [eC _ _ (by omega) (by unfold scr; omega) (by omega), k2 _ _ (by unfold inD scr; omega), k1.2.2.1 i hi]
    · show noteI I5 cs.length _ i = I 24 i
      rw [eC _ _ (by omega) (by unfold scr; omega) (by omega), k2 _ _ (by unfold inD scr; omega), k1.2.2.2.1 i hi]
    · show noteI I5 cs.length _ 3 = I 21 3
      rw [eC _ _ (by omega) (by unfold scr; omega) (by omega), k2 _ _ (by unfold inD scr; omega), k1.2.2.2.2.1]
    · show noteI I5 cs.length _ 4 = I 21 4
      rw [eC _ _ (by omega) (by unfold scr; omega) (by omega), k2 _ _ (by unfold inD scr; omega), k1.2.2.2.2.2.1]
    · show noteI I5 cs.length _ 5 = I 21 5
      rw [eC _ _ (by omega) (by unfold scr; omega) (by omega), k2 _ _ (by unfold inD scr; omega), k1.2.2.2.2.2.2.1]
    · show noteI I5 cs.length _ 6 = I 21 6
      rw [eC _ _ (by omega) (by unfold scr; omega) (by omega), k2 _ _ (by unfold inD scr; omega), k1.2.2.2.2.2.2.2]
  · rw [noteI_o p1 (by omega), k5 35 0 (by unfold inE scr; omega), stI, cfI, cpx_o (by omega), xu_o (by omega), xu_self]
  · rw [noteI_o p1 (by omega), k5 35 1 (by unfold inE scr; omega), stI, cfI, cpx_o (by omega), xu_o (by omega), xu_o (by omega), xu_self]
  · exact CoastC_cg (M := mm P I2 J) (fun j hj => funext fun i => eC _ _ (by omega) (by unfold scr; omega) (by omega)) hC'
  · refine CoastA_cg (A := I5 165) (B := 67) hw hc' (fun i hi => ?_) hD'
    rw [noteI_o p1 (by omega)]
  · rw [h]
    obtain ⟨n1, n2, n3⟩ := note_10 (I := I5)
    exact ⟨fun i hi => by rw [n1 i hi, eA _ (by omega)], fun i hi => by rw [n2 i hi, eW i hi], n3⟩
  · obtain ⟨n1, n2, n3⟩ := note_s (I := I5) h
    exact ⟨fun i hi => by rw [n1 i hi, eA _ (by omega)], fun i hi => by rw [n2 i hi, eW i hi], n3⟩
/-- a refused deed: what was kept lies where no undoing looks -/
theorem kept_INV {n : Nat} {P : Nat → Nat → Option Nat} {I I1 : Nat → Nat → Int32} {J : Nat → Nat → Int64} {t : Txt} {c : Cst} {cs : List Cst} {nx : Nat} (hI : INV n (mm P I J)) (hS : Ish n (mm P I J) t c cs nx) (k1 : ∀ k i, ¬ (37 + 4 * nx ≤ k ∧ k ≤ 37 + 4 * nx + 3) → I1 k i = I k i) : INV n (mm P I1 J) := by
  obtain ⟨hw, hL, hA, hc, hC, hD, p1, p2, p3, p4, p5, p6⟩ := hS
  obtain ⟨g, f1, f2, f4, f5, f6⟩ := rest_fr hI (I' := I1) (fun k i h => k1 k i (by omega))
  have e165 : I1 165 = I 165 := funext fun i => k1 165 i (by omega)
  refine sh_INV (t := t) (c := c) (cs := cs) (nx := nx) g f1 f2 ⟨hw, ?_, ?_, hc, ?_, ?_, p1, p2, (k1 35 0 (by omega)).trans p3, (k1 35 1 (by omega)).trans p4, (k1 165 108 (by omega)).trans p5, fun j c0 hj => ?_⟩ f4 f5 f6
  · exact LandC_cg (M := mm P I J) (fun j hj => funext fun i => k1 _ i (by omega)) hL
  · show LandA (I1 165) 0 t
    rw [e165]; exact hA
  · exact CoastC_cg (M := mm P I J) (fun j hj => funext fun i => k1 _ i (by omega)) hC
  · show CoastA (I1 165) 67 t c
    rw [e165]; exact hD
  · obtain ⟨q1, q2, q3⟩ := p6 j c0 hj
    have hjl := getlt hj
    refine ⟨q1, CoastC_cg (M := mm P I J) (fun i hi => funext fun x => k1 _ x (by omega)) q2, ?_⟩
    show CoastA (I1 165) _ t c0
    rw [e165]; exact q3
/-! ===== the chain's steps ===== -/
theorem confirmed_C {P : Nat → Nat → Option Nat} (hP : GP P) {I I1 I2 : Nat → Nat → Int32} {J : Nat → Nat → Int64} {nx l : Nat} (h1 : I 35 1 = nI nx) (h2 : nx < 11) (h3 : I 35 0 = nI l) (h4 : l ≤ 10) (k1 : Kp nx I I1) (k2 : ∀ k i, ¬ inD k i → I2 k i = I1 k i) (r : Int32) : F_X11_confirmed 0 r (mm P I2 J) = some (r, mm P (cfI I2 nx l) J) := by
  have e1 : I2 35 1 = nI nx := by rw [k2 35 1 (by unfold inD scr; omega), k1.1 35 1 (by omega), h1]
  have e0 : I2 35 0 = nI l := by rw [k2 35 0 (by unfold inD scr; omega), k1.1 35 0 (by omega), h3]
  simp only [F_X11_confirmed, OC hP, Option.bind_some, confirm_C hP I2 J e1 h2 e0 h4, cfI]
theorem cf_165 {I I1 I2 : Nat → Nat → Int32} {nx l : Nat} (h : nx < 11) (k1 : Kp nx I I1) (k2 : ∀ k i, ¬ inD k i → I2 k i = I1 k i) : (xu (cfI I2 nx l) 164 0 0) 165 = I 165 := by
  funext i
  rw [cfI, xu_o (by omega), xu_o (by omega), xu_o (by omega), k2 165 i (by unfold inD scr; omega), k1.1 165 i (by omega)]
theorem st_165 {I I1 I2 : Nat → Nat → Int32} {nx l : Nat} (h : nx < 11) (k1 : Kp nx I I1) (k2 : ∀ k i, ¬ inD k i → I2 k i = I1 k i) : stI (cfI I2 nx l) 165 = I 165 := by
  funext i
  rw [stI, cpx_o (by omega), cf_165 h k1 k2]
theorem st_173 {I I1 I2 : Nat → Nat → Int32} {nx l i : Nat} (h : nx < 11) (hi : i < 41) (k1 : Kp nx I I1) (k2 : ∀ k i, ¬ inD k i → I2 k i = I1 k i) : stI (cfI I2 nx l) 173 i = I 165 (67 + i) := by
  have e := cpx_in (I := xu (cfI I2 nx l) 164 0 0) (b := 173) (j0 := 0) (a := 165) (i0 := 67) hi
  rw [Nat.zero_add, cf_165 h k1 k2] at e
  exact e
