/-! ===== what both hold of the text so far ===== -/
def lnk (A : Nat → Int32) (t : Txt) (m : Nat) : Prop := (tTide t ≠ [] → ∃ g, A 9 = nI g ∧ g + (tTide t).length ≤ m) ∧ (tWash t ≠ [] → ∃ g, A 10 = nI g ∧ g + (tWash t).length ≤ m)
theorem LandA_pk {A A' : Nat → Int32} {t : Txt} {m : Nat} (hw : wfT t) (hm : m ≤ 900) (lk : lnk A t m) (e : ∀ i, i < 13 + 3 * (tPlots t).length ∨ (31 ≤ i ∧ i < 31 + 2 * (tPapers t).length) ∨ (43 ≤ i ∧ i < 43 + 3 * (tDebts t).length) ∨ (520 ≤ i ∧ i < 520 + m) → A' i = A i) (h : LandA A 0 t) : LandA A' 0 t := by
  obtain ⟨h0, h1, h2, h3, h4, h5, h6, h7, h8, h9, h10, h11, h12, h13⟩ := h
  have sg : ∀ {f x g : Nat} {l : List Int32}, A 9 = nI f ∨ A 10 = nI f → (A 9 = nI f → A 9 = nI g) → (A 10 = nI f → A 10 = nI g) → x = f + (l.map trC).length → x ≤ 900 → g + l.length ≤ m → x ≤ m := by
    intro f x g l z1 z2 z3 z4 z5 z6
    rw [List.length_map] at z4
    have : nI f = nI g := by
      rcases z1 with z1 | z1
      · rw [← z1]; exact z2 z1
      · rw [← z1]; exact z3 z1
    have := (nI_eqI (a := f) (b := g) (by omega) (by omega)).mp this
    omega
  refine ⟨(e 0 (by omega)).trans h0, (e (0 + 1) (by omega)).trans h1, (e (0 + 2) (by omega)).trans h2, (e (0 + 3) (by omega)).trans h3, (e (0 + 4) (by omega)).trans h4, (e (0 + 5) (by omega)).trans h5, (e (0 + 6) (by omega)).trans h6, fun p q hq => ?_, fun p q hq => ?_, fun p q hq => ?_, (e (0 + 7) (by omega)).trans h10, (e (0 + 8) (by omega)).trans h11, fun hne => ?_, fun hne => ?_⟩
  · have := getlt hq
    obtain ⟨a, b, c⟩ := h7 p q hq
    exact ⟨(e _ (by omega)).trans a, (e _ (by omega)).trans b, (e _ (by omega)).trans c⟩
  · have := getlt hq
    obtain ⟨a, b⟩ := h8 p q hq
    exact ⟨(e _ (by omega)).trans a, (e _ (by omega)).trans b⟩
  · have := getlt hq
    obtain ⟨a, b, c⟩ := h9 p q hq
    exact ⟨(e _ (by omega)).trans a, (e _ (by omega)).trans b, (e _ (by omega)).trans c⟩
  · obtain ⟨f, x, a, b, c, d⟩ := h12 hne
    obtain ⟨g, g1, g2⟩ := lk.1 hne
    have a' : A 9 = nI f := a
    have xm : x ≤ m := by
      have z := d.1
      rw [List.length_map] at z
      have := (nI_eqI (a := f) (b := g) (by omega) (by omega)).mp (a'.symm.trans g1)
      omega
    exact ⟨f, x, (e (0 + 9) (by omega)).trans a, (e (0 + 11) (by omega)).trans b, c, codeAt_cg (fun i hi => e _ (by omega)) d⟩
  · obtain ⟨f, x, a, b, c, d⟩ := h13 hne
    obtain ⟨g, g1, g2⟩ := lk.2 hne
    have a' : A 10 = nI f := a
    have xm : x ≤ m := by
      have z := d.1
      rw [List.length_map] at z
      have := (nI_eqI (a := f) (b := g) (by omega) (by omega)).mp (a'.symm.trans g1)
      omega
    exact ⟨f, x, (e (0 + 10) (by omega)).trans a, (e (0 + 12) (by omega)).trans b, c, codeAt_cg (fun i hi => e _ (by omega)) d⟩
theorem CoastA_pk {A A' : Nat → Int32} {t : Txt} {c : Cst} {n : Nat} (hw : wfT t) (hc : wfC t c n) (e : ∀ i, (67 ≤ i ∧ i < 93 + 2 * (cHouses c).length) ∨ (105 ≤ i ∧ i ≤ 107) → A' i = A i) (h : CoastA A 67 t c) : CoastA A' 67 t c := by
  obtain ⟨h0, h1, h2, ⟨f, f1, f2, f3⟩, h4, h5⟩ := h
  have hN := tN_le hw
  refine ⟨fun i hi => (e _ (by omega)).trans (h0 i hi), (e _ (by omega)).trans h1, fun j q hq => ?_, ⟨f, f1, (e _ (by omega)).trans f2, f3⟩, (e _ (by omega)).trans h4, (e _ (by omega)).trans h5⟩
  have := getlt hq
  obtain ⟨a, b⟩ := h2 j q hq
  exact ⟨(e _ (by omega)).trans a, (e _ (by omega)).trans b⟩
def LB (P : Nat → Nat → Option Nat) (J : Nat → Nat → Int64) (I K : Nat → Nat → Int32) (t : Txt) (c : Cst) (L : List Int32) : Prop :=
  wfT t ∧ wfC t c 0 ∧ LandC (mm P I J) 3 t ∧ LandA (K 168) 0 t ∧ CoI I 10 t c ∧ CoastA (K 168) 67 t c ∧ CodeL I K L ∧ L.length ≤ 900 ∧ I 1 9 = nI (tDebts t).length ∧ lnk (K 168) t L.length ∧ (∀ i, i = 105 ∨ i = 108 → K 168 i = 0) ∧ ∀ h, h < (cHouses c).length → (cStand c).testBit h = true
theorem LB.fr {P : Nat → Nat → Option Nat} {J : Nat → Nat → Int64} {I I' K K' : Nat → Nat → Int32} {t : Txt} {c : Cst} {L : List Int32} (h : LB P J I K t c L) (g1 : ∀ a i, 3 ≤ a → a ≤ 13 → I' a i = I a i) (g2 : I' 1 9 = I 1 9) (g3 : ∀ i, K' 168 i = K 168 i) : LB P J I' K' t c L := by
  obtain ⟨h1, h2, h3, h4, h5, h6, h7, h8, h9, h10, h11, h12⟩ := h
  have e : K' 168 = K 168 := funext g3
  refine ⟨h1, h2, LandC_cg (M := mm P I J) (fun j hj => funext fun i => g1 _ i (by omega) (by omega)) h3, by rw [e]; exact h4, CoastC_cg (M := mm P I J) (M' := mm P I' J) (fun j hj => funext fun i => g1 _ i (by omega) (by omega)) h5, by rw [e]; exact h6, h7.fr (g1 _ _ (by omega) (by omega)) (fun i => g1 _ _ (by omega) (by omega)) g3, h8, by rw [g2]; exact h9, by rw [e]; exact h10, by rw [e]; exact h11, h12⟩
theorem LB.rq {P : Nat → Nat → Option Nat} {J : Nat → Nat → Int64} {I I' K K' : Nat → Nat → Int32} {t : Txt} {c : Cst} {L : List Int32} (h : LB P J I K t c L) (r : frR I I') (q : frQ K K') : LB P J I' K' t c L := h.fr (fun a i h1 h2 => r _ _ (by omega)) (r _ _ (by omega)) (fun i => q _ _ (by omega))
/-- places of the model that no part of the text stands in yet -/
def freeI (t : Txt) (c : Cst) (i : Nat) : Prop := (13 + 3 * (tPlots t).length ≤ i ∧ i < 31) ∨ (31 + 2 * (tPapers t).length ≤ i ∧ i < 43) ∨ (43 + 3 * (tDebts t).length ≤ i ∧ i < 67) ∨ (93 + 2 * (cHouses c).length ≤ i ∧ i < 105)
theorem LB.pk {P : Nat → Nat → Option Nat} {J : Nat → Nat → Int64} {I K K' : Nat → Nat → Int32} {t : Txt} {c : Cst} {L : List Int32} (h : LB P J I K t c L) (g : ∀ i, ¬ freeI t c i → K' 168 i = K 168 i) : LB P J I K' t c L := by
  obtain ⟨h1, h2, h3, h4, h5, h6, ⟨a1, a2, a3⟩, h8, h9, h10, h11, h12⟩ := h
  have wp := h1.2.2.2.2.1.1
  have wq := h1.2.2.2.2.2.1.1
  have wd := h1.2.2.2.2.2.2.1.1
  have wh := h2.2.1.1
  have gg : ∀ i, i < 13 ∨ (67 ≤ i ∧ i < 93) ∨ 105 ≤ i → K' 168 i = K 168 i := fun i hi => g i (by unfold freeI; omega)
  refine ⟨h1, h2, h3, LandA_pk h1 h8 h10 (fun i hi => g i (by unfold freeI; omega)) h4, h5, CoastA_pk h1 h2 (fun i hi => g i (by unfold freeI; omega)) h6, ⟨a1, by rw [gg _ (by omega)]; exact a2, fun j o hj => by rw [gg _ (by omega)]; exact a3 j o hj⟩, h8, h9, ⟨fun z => by rw [gg _ (by omega)]; exact h10.1 z, fun z => by rw [gg _ (by omega)]; exact h10.2 z⟩, (fun i hi => by rw [gg _ (by omega)]; exact h11 i hi), h12⟩
/-! ===== phases of a line ===== -/
def SB (I K : Nat → Nat → Int32) (b : Nat → Nat) (n fo : Nat) : Prop := Bd I K b n ∨ ∃ f e k, St I K b n f e k ∧ fo ≤ f
theorem Bd.no {I K : Nat → Nat → Int32} {b : Nat → Nat} {n f e k : Nat} (h : Bd I K b n) (g : St I K b n f e k) : False := h.2.1 g.2.2.1
theorem SB_num {P : Nat → Nat → Option Nat} (hP : GP P) {I K : Nat → Nat → Int32} (J : Nat → Nat → Int64) {b : Nat → Nat} {n fo : Nat} (h : SB I K b n fo) {l u bar : Int32} (lo hi : Nat) (hl : l = nI lo) (hu : u = nI hi) (lo9 : lo < 1000) (hi9 : hi < 1000)
    (hbar : ∀ f e, St I K b n f e 29 → numF b f (e - f) ≤ hi → ((bar >>> (nI (numF b f (e - f)) &&& 31)) &&& 1) = 0) :
    ∃ r r' I' K', F_X7_expectNumber 1 l u bar (mm P I J) = some (r, mm P I' J) ∧ F_X12_takes 164 l u (mm P K J) = some (r', mm P K' J) ∧ frR I I' ∧ frQ K K' ∧ (Bd I K b n → Bd I' K' b n) ∧ ((Bd I' K' b n ∧ r = l) ∨ ∃ v f' e' k', r = nI v ∧ r' = nI v ∧ lo ≤ v ∧ v ≤ hi ∧ (∃ f e, St I K b n f e 29 ∧ v = numF b f (e - f)) ∧ St I' K' b n f' e' k' ∧ fo + 1 ≤ f') := by
  rcases h with h | ⟨f, e, k, h, hf⟩
  · obtain ⟨a1, a2⟩ := exN_Bd hP J h l u bar
    exact ⟨_, _, I, K, a1, a2, frR.rf, frQ.rf, id, Or.inl ⟨h, rfl⟩⟩
  · rcases exN_St hP J h lo hi hl hu lo9 hi9 (fun hk hv => by subst hk; exact hbar f e h hv) with ⟨v, I', K', f', e', k', a0, a1, a2, a3, a4, a5, a6, a7, a8, a9⟩ | ⟨r, I', K', a1, a2, a3, a4, a5⟩
    · subst a1
      exact ⟨_, _, I', K', a4, a5, a6, a7, fun z => (z.no h).elim, Or.inr ⟨v, f', e', k', rfl, rfl, a2, a3, ⟨f, e, h, a0⟩, a8, by omega⟩⟩
    · exact ⟨_, _, I', K', a1, a2, a3, a4, fun _ => a5, Or.inl ⟨a5, rfl⟩⟩
theorem bar0 {I K : Nat → Nat → Int32} {b : Nat → Nat} {n hi : Nat} (hi9 : hi < 1000) : ∀ f e, St I K b n f e 29 → numF b f (e - f) ≤ hi → (((0 : Int32) >>> (nI (numF b f (e - f)) &&& 31)) &&& 1) = 0 := fun f e _ hv => zbar (by omega)
/-- a word, and a number behind it -/
theorem SB_named {P : Nat → Nat → Option Nat} (hP : GP P) {I K : Nat → Nat → Int32} (J : Nat → Nat → Int64) {b : Nat → Nat} {n fo i : Nat} (h : SB I K b n fo) {w l u : Int32} (j lo hi : Nat) (hj : j < 27) (hi' : kS j = i) (hw : w = nI j) (hl : l = nI lo) (hu : u = nI hi) (lo9 : lo < 1000) (hi9 : hi < 1000) :
    ∃ r r' I1 I' K', F_X7_expectWord 1 i (mm P I J) = some (mm P I1 J) ∧ F_X7_expectNumber 1 l u 0 (mm P I1 J) = some (r, mm P I' J) ∧ F_X12_named 164 w l u (mm P K J) = some (r', mm P K' J) ∧ frR I I' ∧ frQ K K' ∧ (Bd I K b n → Bd I' K' b n) ∧ ((Bd I' K' b n ∧ r = l) ∨ ∃ v f' e' k', r = nI v ∧ r' = nI v ∧ lo ≤ v ∧ v ≤ hi ∧ St I' K' b n f' e' k' ∧ fo + 1 ≤ f') := by
  have word : ∃ I1 K1, F_X7_expectWord 1 i (mm P I J) = some (mm P I1 J) ∧ (∀ X : xM → Option (Int32 × xM), ((F_X12_eats 164 w (mm P K J)).bind fun t => if t.1 = 0 then (xck t.2 164 12).bind fun _ => (F_X12_fails 164 2 t.2).bind fun t8 => X t8 else X t.2) = X (mm P K1 J)) ∧ frR I I1 ∧ frQ K K1 ∧ (Bd I K b n → Bd I1 K1 b n) ∧ SB I1 K1 b n fo := by
    rcases h with h | ⟨f, e, k, h, hf⟩
    · refine ⟨I, K, exW_Bd hP J h i, fun X => ?_, frR.rf, frQ.rf, id, Or.inl h⟩
      simp only [↓bs (eats_Bd hP J h w), ↓reduceIte, ↓bOM hP, ↓bs (fails_Bd hP J h 2).2]
    · rcases exW_St hP J h j hj hi' hw with ⟨-, I', K', f', e', k', a1, a2, a3, a4, a5, a6⟩ | ⟨I', K', a1, a2, a3, a4, a5, a6⟩
      · refine ⟨I', K', a1, fun X => ?_, a3, a4, fun z => (z.no h).elim, Or.inr ⟨f', e', k', a5, by omega⟩⟩
        simp only [↓bs a2, one_ne, ↓reduceIte]
      · refine ⟨I', K', a1, fun X => ?_, a4, a5, fun _ => a6, Or.inl a6⟩
        simp only [↓bs a2, ↓reduceIte, ↓bOM hP, ↓bs a3]
  obtain ⟨I1, K1, a1, a2, a3, a4, a5, a6⟩ := word
  obtain ⟨r, r', I', K', b1, b2, b3, b4, b5, b6⟩ := SB_num hP J a6 lo hi hl hu lo9 hi9 (bar0 hi9)
  refine ⟨r, r', I1, I', K', a1, b1, ?_, a3.tr b3, a4.tr b4, fun z => b5 (a5 z), ?_⟩
  · unfold F_X12_named
    simp only [↓bOM hP]
    refine (a2 (F_X12_named_13 164 l u)).trans ?_
    unfold F_X12_named_13
    simp only [↓bOM hP, ↓bs b2]
  · rcases b6 with b6 | ⟨v, f', e', k', c1, c2, c3, c4, -, c5, c6⟩
    · exact Or.inl b6
    · exact Or.inr ⟨v, f', e', k', c1, c2, c3, c4, c5, c6⟩
/-- a cell -/
theorem SB_cell {P : Nat → Nat → Option Nat} (hP : GP P) {I K : Nat → Nat → Int32} (J : Nat → Nat → Int64) {b : Nat → Nat} {n fo : Nat} {t : Txt} (hw : wfT t) (h : SB I K b n fo) (r0 : I 3 0 = nI (tR t)) (r1 : I 3 1 = nI (tW t)) (m0 : K 168 1 = nI (tR t)) (m1 : K 168 2 = nI (tW t)) {bar : Int32}
    (hbar : ∀ f e, St I K b n f e 29 → numF b f (e - f) ≤ tN t - 1 → ((bar >>> (nI (numF b f (e - f)) &&& 31)) &&& 1) = 0) :
    ∃ r r' I' K', F_X7_expectCell 1 bar (mm P I J) = some (r, mm P I' J) ∧ F_X12_takesCell 164 (mm P K J) = some (r', mm P K' J) ∧ frR I I' ∧ frQ K K' ∧ (Bd I K b n → Bd I' K' b n) ∧ ((Bd I' K' b n ∧ r = 0) ∨ ∃ v f' e' k', r = nI v ∧ r' = nI v ∧ v < tN t ∧ (∃ f e, St I K b n f e 29 ∧ v = numF b f (e - f)) ∧ St I' K' b n f' e' k' ∧ fo + 1 ≤ f') := by
  have hN := tN_le hw
  have e1 : nI (tR t) * nI (tW t) = nI (tN t) := pk_mul _ _
  have e2 : nI (tN t) - 1 = nI (tN t - 1) := pk_sub (b := 1) (by omega)
  obtain ⟨r, r', I', K', b1, b2, b3, b4, b5, b6⟩ := SB_num hP J h (l := 0) (u := nI (tN t - 1)) 0 (tN t - 1) rfl rfl (by omega) (by omega) hbar
  refine ⟨r, r', I', K', ?_, ?_, b3, b4, b5, ?_⟩
  · unfold F_X7_expectCell F_X3_cells
    simp only [↓bOR hP, r0, r1, e1, Option.bind_some, e2, ↓bs b1]
  · unfold F_X12_takesCell F_X12_cellsOf
    simp only [↓bOM hP, ↓bAM, m0, m1, e1, Option.bind_some, e2, ↓bs b2]
  · rcases b6 with b6 | ⟨v, f', e', k', c1, c2, c3, c4, c0, c5, c6⟩
    · exact Or.inl b6
    · exact Or.inr ⟨v, f', e', k', c1, c2, by omega, c0, c5, c6⟩
/-- what a line leaves as it was -/
def frW (I I' : Nat → Nat → Int32) : Prop := ∀ a i, ¬ ((a = 1 ∨ 3 ≤ a) ∧ a ≤ 13) → I' a i = I a i
def frV (K K' : Nat → Nat → Int32) : Prop := ∀ a i, ¬ (a = 164 ∧ (i = 6 ∨ i = 7 ∨ i = 9 ∨ i = 10 ∨ i = 11 ∨ i = 12 ∨ i = 15)) → a ≠ 168 → K' a i = K a i
theorem frW.rf {I : Nat → Nat → Int32} : frW I I := fun _ _ _ => rfl
theorem frW.tr {I I1 I2 : Nat → Nat → Int32} (h : frW I I1) (g : frW I1 I2) : frW I I2 := fun a i z => (g a i z).trans (h a i z)
theorem frV.rf {K : Nat → Nat → Int32} : frV K K := fun _ _ _ _ => rfl
theorem frV.tr {K K1 K2 : Nat → Nat → Int32} (h : frV K K1) (g : frV K1 K2) : frV K K2 := fun a i z1 z2 => (g a i z1 z2).trans (h a i z1 z2)
theorem frR.W {I I' : Nat → Nat → Int32} (h : frR I I') : frW I I' := fun a i z => h a i (by omega)
theorem frQ.V {K K' : Nat → Nat → Int32} (h : frQ K K') : frV K K' := fun a i z1 z2 => h a i (by omega)
theorem frW.pt {I : Nat → Nat → Int32} {k i : Nat} {v : Int32} (h : (k = 1 ∨ 3 ≤ k) ∧ k ≤ 13) : frW I (xu I k i v) := fun a j z => xu_o (fun w => z (by omega))
theorem frV.pt {K : Nat → Nat → Int32} {i : Nat} {v : Int32} : frV K (xu K 168 i v) := fun a j z1 z2 => xu_o (fun w => z2 w.1)
/-- both behind a line -/
def LnO (P : Nat → Nat → Option Nat) (J : Nat → Nat → Int64) (b : Nat → Nat) (n : Nat) (I K I' K' : Nat → Nat → Int32) (f : Nat) (t : Txt) : Prop :=
  frW I I' ∧ frV K K' ∧ (Bd I' K' b n ∨ ∃ f' e' k' t' c' L', St I' K' b n f' e' k' ∧ LB P J I' K' t' c' L' ∧ L'.length ≤ f' ∧ f + 1 ≤ f' ∧ tLines t' = tLines t)
theorem advB {P : Nat → Nat → Option Nat} (hP : GP P) {I K : Nat → Nat → Int32} (J : Nat → Nat → Int64) {b : Nat → Nat} {n f e k : Nat} {t : Txt} {c : Cst} {L : List Int32} (h : St I K b n f e k) (g : LB P J I K t c L) (hk : k ≠ 30) :
    ∃ I' K' f' e' k', F_X7_step 1 (mm P I J) = some (mm P I' J) ∧ F_X12_next 164 (mm P K J) = some (mm P K' J) ∧ frR I I' ∧ frQ K K' ∧ St I' K' b n f' e' k' ∧ LB P J I' K' t c L ∧ f + 1 ≤ f' := by
  obtain ⟨I', K', f', e', k', a1, a2, a3, a4, a5, a6⟩ := adv hP J h
  have ps := h.pos
  exact ⟨I', K', f', e', k', a1, a2, a3.R, a4.Q, a5, g.rq a3.R a4.Q, by have := ps.2.2.2.2.1 hk; omega⟩
/-! ===== sand ===== -/
def cPutSand (c : Cst) (x v : Nat) : Cst := (fun i => if i = x then v else cSand c i, c.2)
theorem line_sand {P : Nat → Nat → Option Nat} (hP : GP P) {I K : Nat → Nat → Int32} (J : Nat → Nat → Int64) {b : Nat → Nat} {n f e k : Nat} {t : Txt} {c : Cst} {L : List Int32} (h : St I K b n f e k) (g : LB P J I K t c L) (hk : k ≠ 30) (hL : L.length ≤ f) :
    ∃ I' K', F_X7_readSand 1 (mm P I J) = some (mm P I' J) ∧ F_X12_readSand 164 (mm P K J) = some (mm P K' J) ∧ LnO P J b n I K I' K' f t := by
  have hw := g.1
  have hN := tN_le hw
  obtain ⟨I1, K1, f1, e1, k1, a1, a2, a3, a4, a5, a6, a7⟩ := advB hP J h g hk
  obtain ⟨r2, r2', I2, K2, b1, b2, b3, b4, b5, b6⟩ := SB_cell hP J hw (Or.inr ⟨f1, e1, k1, a5, Nat.le_refl _⟩) a6.2.2.1.1 a6.2.2.1.2.1 a6.2.2.2.1.2.1 a6.2.2.2.1.2.2.1 (bar := 0) (bar0 (by omega))
  obtain ⟨r3, r3', I3, K3, d1, d2, d3, d4, d5, d6⟩ := SB_num hP J (show SB I2 K2 b n f1 from by
    rcases b6 with b6 | ⟨v, f', e', k', -, -, -, -, c5, c6⟩
    · exact Or.inl b6.1
    · exact Or.inr ⟨f', e', k', c5, by omega⟩) (l := 0) (u := 9) (bar := 0) 0 9 rfl rfl (by omega) (by omega) (bar0 (by omega))
  have g3 : LB P J I3 K3 t c L := (a6.rq b3 b4).rq d3 d4
  rcases d6 with d6 | ⟨v, f3, e3, k3, rfl, rfl, v1, v2, -, s3, s4⟩
  · have q1 := d6.1.2.1
    have q2 : ¬ K3 164 11 = 0 := by rw [← d6.1.2.2.1]; exact q1
    refine ⟨I3, K3, ?_, ?_, (a3.W.tr b3.W).tr d3.W, (a4.V.tr b4.V).tr d4.V, Or.inl d6.1⟩
    · unfold F_X7_readSand
      simp only [↓bOR hP, ↓bs a1, ↓bs b1, ↓bs d1, q1, ↓reduceIte]
    · unfold F_X12_readSand
      simp only [↓bOM hP, ↓bs a2, ↓bs b2, ↓bs d2, q2, ↓reduceIte]
  · rcases b6 with b6 | ⟨x, f2, e2, k2, rfl, rfl, x1, -, s1, s2⟩
    · exact ((d5 b6.1).no s3).elim
    · have q1 := s3.2.2.1
      have q2 := s3.2.2.2.1
      have c1 : ¬ (25 : Int32) ≤ nI x := nI_ge (b := 25) (by omega) (by omega)
      have ix : (67 : Int32) + nI x = nI (67 + x) := nI_add 67 x
      refine ⟨xu I3 11 x (nI v), xu K3 168 (67 + x) (nI v), ?_, ?_, ((a3.W.tr b3.W).tr d3.W).tr (frW.pt (by omega)), ((a4.V.tr b4.V).tr d4.V).tr frV.pt, Or.inr ⟨f3, e3, k3, t, cPutSand c x v, L, s3.fr (fun y => by rw [xu_o (by omega)]) (fun i hi => by rw [xu_o (by omega)]) (by rw [xu_o (by omega)]) (fun i i1 i2 => by rw [xu_o (by omega)]) (fun y => by rw [xu_o (by omega)]), ?_, by omega, by omega, rfl⟩⟩
      · unfold F_X7_readSand
        simp (disch := omega) only [↓bOR hP, ↓bs a1, ↓bs b1, ↓bs d1, q1, ↓reduceIte, c1, ↓bAR]
      · unfold F_X12_readSand
        simp (disch := omega) only [↓bOM hP, ↓bs a2, ↓bs b2, ↓bs d2, q2, ↓reduceIte, ix, ↓bAM]
      · obtain ⟨h1, h2, h3, h4, h5, h6, ⟨l1, l2, l3⟩, h8, h9, h10, h11, h12⟩ := g3
        have wp := h1.2.2.2.2.1.1
        have wq := h1.2.2.2.2.2.1.1
        have wd := h1.2.2.2.2.2.2.1.1
        have ck : ∀ i, ¬ i = 67 + x → xu K3 168 (67 + x) (nI v) 168 i = K3 168 i := fun i hi => xu_o (by omega)
        refine ⟨h1, ⟨fun i hi => ?_, h2.2⟩, LandC_cg (M := mm P I3 J) (fun j hj => funext fun i => xu_o (by omega)) h3, LandA_pk h1 h8 h10 (fun i hi => ck i (by omega)) h4, ?_, ?_, ⟨by rw [xu_o (by omega)]; exact l1, by rw [ck _ (by omega)]; exact l2, fun j o hj => by rw [xu_o (by omega), ck _ (by omega)]; exact l3 j o hj⟩, h8, by rw [xu_o (by omega)]; exact h9, ⟨fun z => by rw [ck _ (by omega)]; exact h10.1 z, fun z => by rw [ck _ (by omega)]; exact h10.2 z⟩, (fun i hi => by rw [ck _ (by omega)]; exact h11 i hi), h12⟩
        · show (if i = x then v else cSand c i) ≤ 9
          split
          · exact v2
          · exact h2.1 i hi
        · obtain ⟨y1, y2, y3, y4, y5, y6⟩ := h5
          refine ⟨fun i hi => ?_, by rw [xu_o (by omega)]; exact y2, fun hh q hq => by rw [xu_o (by omega), xu_o (by omega)]; exact y3 hh q hq, by rw [xu_o (by omega)]; exact y4, by rw [xu_o (by omega)]; exact y5, by rw [xu_o (by omega)]; exact y6⟩
          show xu I3 11 x (nI v) 11 i = nI (if i = x then v else cSand c i)
          by_cases ei : i = x
          · rw [if_pos ei, ei, xu_self]
          · rw [if_neg ei, xu_o (by omega)]; exact y1 i hi
        · obtain ⟨y1, y2, y3, ⟨fl, z1, z2, z3⟩, y5, y6⟩ := h6
          refine ⟨fun i hi => ?_, by rw [ck _ (by omega)]; exact y2, fun hh q hq => by rw [ck _ (by omega), ck _ (by omega)]; exact y3 hh q hq, ⟨fl, z1, by rw [ck _ (by omega)]; exact z2, z3⟩, by rw [ck _ (by omega)]; exact y5, by rw [ck _ (by omega)]; exact y6⟩
          show xu K3 168 (67 + x) (nI v) 168 (67 + i) = nI (if i = x then v else cSand c i)
          by_cases ei : i = x
          · rw [if_pos ei, ei, xu_self]
          · rw [if_neg ei, ck _ (by omega)]; exact y1 i hi
