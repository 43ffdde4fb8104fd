/-! ===== laws, as lines ===== -/
def frX (I I' : Nat → Nat → Int32) : Prop := ∀ a i, ¬ (a = 1 ∧ (i = 2 ∨ i = 3 ∨ i = 6 ∨ i = 7 ∨ i = 8 ∨ i = 10)) → ¬ (a = 3 ∧ i = 7) → a ≠ 9 → I' a i = I a i
def frY (K K' : Nat → Nat → Int32) : Prop := ∀ a i, ¬ (a = 164 ∧ (i = 6 ∨ i = 7 ∨ i = 9 ∨ i = 10 ∨ i = 11 ∨ i = 12 ∨ i = 15)) → ¬ (a = 168 ∧ 519 ≤ i) → K' a i = K a i
theorem law_mid {P : Nat → Nat → Option Nat} (hP : GP P) {I K : Nat → Nat → Int32} (J : Nat → Nat → Int64) {b : Nat → Nat} {n f e k : Nat} {t : Txt} {c : Cst} {L : List Int32} {wa : Int32} (hwa : wa = 0 ∨ wa = 1) (h : St I K b n f e k) (g : LB P J I K t c L) (hk : k ≠ 30) (hL : L.length ≤ f) :
    ∃ I1 I2 I3 K1 K2 K3, xpZ (mm P I J) 1 7 10 wa = some (mm P (xu I 1 10 wa) J) ∧ F_X7_step 1 (mm P (xu I 1 10 wa) J) = some (mm P I1 J) ∧ F_X12_next 164 (mm P K J) = some (mm P K1 J) ∧ F_X7_expectSign 1 58 (mm P I1 J) = some (mm P I2 J) ∧ (∀ X : xM → Option xM, ((F_X12_eats 164 33 (mm P K1 J)).bind fun t => if t.1 = 0 then (xck t.2 164 12).bind fun _ => (F_X12_fails 164 2 t.2).bind fun t8 => X t8 else X t.2) = X (mm P K2 J)) ∧ K2 168 519 = nI L.length ∧ Fx_X7_readSum 1 0 (mm P I2 J) = some (mm P I3 J) ∧ Fx_X12_readSum 164 0 (mm P (xu K2 164 15 wa) J) = some (mm P K3 J) ∧ frX I I3 ∧ frY K K3 ∧ (Bd I3 K3 b n ∨ ∃ f' e' k' cd, Lw I3 K3 b n f' e' k' (L ++ cd) wa ∧ L.length + cd.length ≤ f' ∧ f + 1 ≤ f' ∧ cP 10 false wa cd) := by
  have pz : xpZ (mm P I J) 1 7 10 wa = some (mm P (xu I 1 10 wa) J) := if_pos ⟨(by decide +kernel : (SH[1]?).map Prod.fst = some 7), hwa⟩
  have h' : St (xu I 1 10 wa) K b n f e k := h.fr (fun x => by rw [xu_o (by omega)]) (fun i hi => by rw [xu_o (by omega)]) (by rw [xu_o (by omega)]) (fun _ _ _ => rfl) (fun _ => rfl)
  have ps := h.pos
  have fe := ps.2.2.2.2.1 hk
  obtain ⟨I1, K1, f1, e1, k1, a1, a2, a3, a4, a5, a6⟩ := adv hP J h'
  have ls := law_S hP (J := J) (b := b) (n := n) hwa
  have cl := g.2.2.2.2.2.2.1
  have k519 : ∀ {K' : Nat → Nat → Int32}, frQ K1 K' → K' 168 519 = nI L.length := fun {K'} q => by rw [q _ _ (by omega), a4 _ _ (by omega)]; exact cl.2.1
  rcases exS_St hP J a5 (s := 58) (w := 33) 1 (by omega) (by decide +kernel) rfl with ⟨-, I2, K2, f2, e2, k2, b1, b2, b3, b4, b5, b6⟩ | ⟨I2, K2, b1, b2, b3, b4, b5, b6⟩
  · have s2 : St I2 (xu K2 164 15 wa) b n f2 e2 k2 := b5.fr (fun _ => rfl) (fun _ _ => rfl) rfl (fun i i1 i2 => by rw [xu_o (by omega)]) (fun x => by rw [xu_o (by omega)])
    have lw : Lw I2 (xu K2 164 15 wa) b n f2 e2 k2 L wa := ⟨s2, cl.fr (by rw [b3 _ _ (by omega), a3 _ _ (by omega), xu_o (by omega)]) (fun i => by rw [b3 _ _ (by omega), a3 _ _ (by omega), xu_o (by omega)]) (fun i => by rw [xu_o (by omega), b4 _ _ (by omega), a4 _ _ (by omega)]), by rw [b3 _ _ (by omega), a3 _ _ (by omega), xu_self], xu_self⟩
    obtain ⟨I3, K3, d1, d2, d3, d4, d5⟩ := ls.1 I2 (xu K2 164 15 wa) f2 e2 k2 L lw (by omega)
    refine ⟨I1, I2, I3, K1, K2, K3, pz, a1, a2, b1, fun X => ?_, k519 b4, d1, d2, fun a i z1 z2 z3 => by rw [d3 a i (by omega) z2 z3, b3 a i (by omega), a3 a i (by omega), xu_o (by omega)], fun a i z1 z2 => by rw [d4 a i (by omega) z2, xu_o (by omega), b4 a i (by omega), a4 a i (by omega)], ?_⟩
    · simp only [↓bs b2, one_ne, ↓reduceIte]
    · rcases d5 with d5 | ⟨f3, e3, k3, cd, d5, d6, d7⟩
      · exact Or.inl d5
      · exact Or.inr ⟨f3, e3, k3, cd, d5, by omega, by omega, d7⟩
  · have bd : Bd I2 (xu K2 164 15 wa) b n := b6.fr (fun _ => rfl) (fun _ _ => rfl) rfl (by rw [xu_o (by omega)]) (by rw [xu_o (by omega)])
    obtain ⟨d1, d2⟩ := ls.2 I2 (xu K2 164 15 wa) bd
    refine ⟨I1, I2, I2, K1, K2, xu K2 164 15 wa, pz, a1, a2, b1, fun X => ?_, k519 b5, d1, d2, fun a i z1 z2 z3 => by rw [b4 a i (by omega), a3 a i (by omega), xu_o (by omega)], fun a i z1 z2 => by rw [xu_o (by omega), b5 a i (by omega), a4 a i (by omega)], Or.inl bd⟩
    simp only [↓bs b2, ↓reduceIte, ↓bOM hP, ↓bs b3]
theorem code_old {I K I3 K3 : Nat → Nat → Int32} {L cd : List Int32} (h : CodeL I K L) (h' : CodeL I3 K3 (L ++ cd)) : ∀ j, j < L.length → I3 9 j = I 9 j ∧ K3 168 (520 + j) = K 168 (520 + j) := fun j hj => by
  have e : L[j]? = some L[j] := List.getElem?_eq_getElem hj
  have e' : (L ++ cd)[j]? = some L[j] := by rw [List.getElem?_append_left hj]; exact e
  obtain ⟨a1, a2⟩ := h.2.2 j _ e
  obtain ⟨b1, b2⟩ := h'.2.2 j _ e'
  exact ⟨b1.trans a1.symm, b2.trans a2.symm⟩
theorem code_new {I3 K3 : Nat → Nat → Int32} {L cd : List Int32} (h' : CodeL I3 K3 (L ++ cd)) : codeAt (I3 9) L.length (L.length + cd.length) cd ∧ codeAt (fun i => K3 168 (520 + i)) L.length (L.length + cd.length) (cd.map trC) := by
  have e : ∀ j, (L ++ cd)[L.length + j]? = cd[j]? := fun j => by rw [List.getElem?_append_right (by omega), show L.length + j - L.length = j by omega]
  refine ⟨⟨rfl, fun j o hj => (h'.2.2 _ o ((e j).trans hj)).1⟩, ⟨by rw [List.length_map], fun j o hj => ?_⟩⟩
  rw [List.getElem?_map] at hj
  cases hc : cd[j]? with
  | none => rw [hc] at hj; cases hj
  | some x =>
    rw [hc] at hj
    have : trC x = o := Option.some.inj hj
    rw [← this]
    exact (h'.2.2 _ x ((e j).trans hc)).2
def tSetTide (t : Txt) (cd : List Int32) : Txt := (t.1, t.2.1, t.2.2.1, t.2.2.2.1, t.2.2.2.2.1, t.2.2.2.2.2.1, t.2.2.2.2.2.2.1, cd, tWash t)
def tSetWash (t : Txt) (cd : List Int32) : Txt := (t.1, t.2.1, t.2.2.1, t.2.2.2.1, t.2.2.2.2.1, t.2.2.2.2.2.1, t.2.2.2.2.2.2.1, tTide t, cd)
theorem LB_tide {P : Nat → Nat → Option Nat} {J : Nat → Nat → Int64} {I K I3 K3 : Nat → Nat → Int32} {t : Txt} {c : Cst} {L cd : List Int32} (g : LB P J I K t c L) (fx : frX I I3) (fy : frY K K3) (cl : CodeL I3 K3 (L ++ cd)) (l9 : (L ++ cd).length ≤ 900) (hc : cP 10 false 0 cd) :
    LB P J (xu (xu I3 3 8 (nI L.length)) 3 9 (nI (L ++ cd).length)) (xu (xu (xu K3 168 7 1) 168 9 (nI L.length)) 168 11 (nI cd.length)) (tSetTide t cd) c (L ++ cd) := by
  obtain ⟨h1, h2, h3, h4, h5, h6, h7, h8, h9, h10, h11, h12⟩ := g
  have wp := h1.2.2.2.2.1.1
  have wq := h1.2.2.2.2.2.1.1
  have wd := h1.2.2.2.2.2.2.1.1
  have wh := h2.2.1.1
  have hN := tN_le h1
  have old := code_old h7 cl
  obtain ⟨n1, n2⟩ := code_new cl
  have len : (L ++ cd).length = L.length + cd.length := List.length_append
  have ne : cd ≠ [] := fun z => by have := hc.1; rw [z] at this; exact absurd this (by decide)
  have A3 : LandA (K3 168) 0 t := LandA_pk h1 h8 h10 (fun i hi => by
    by_cases z : i < 519
    · exact fy _ _ (by omega) (by omega)
    · have := (old (i - 520) (by omega)).2
      rw [show 520 + (i - 520) = i by omega] at this
      exact this) h4
  have ck : ∀ i, ¬ (i = 7 ∨ i = 9 ∨ i = 11) → xu (xu (xu K3 168 7 1) 168 9 (nI L.length)) 168 11 (nI cd.length) 168 i = K3 168 i := fun i hi => by rw [xu_o (by omega), xu_o (by omega), xu_o (by omega)]
  have cI : ∀ a i, ¬ (a = 3 ∧ (i = 8 ∨ i = 9)) → xu (xu I3 3 8 (nI L.length)) 3 9 (nI (L ++ cd).length) a i = I3 a i := fun a i hi => by rw [xu_o (by omega), xu_o (by omega)]
  have cX : ∀ a i, 3 ≤ a → a ≤ 13 → ¬ (a = 3 ∧ (i = 8 ∨ i = 9)) → ¬ (a = 3 ∧ i = 7) → a ≠ 9 → xu (xu I3 3 8 (nI L.length)) 3 9 (nI (L ++ cd).length) a i = I a i := fun a i z1 z2 z3 z4 z5 => (cI a i z3).trans (fx a i (by omega) z4 z5)
  refine ⟨?_, h2, ?_, ?_, ?_, ?_, ⟨by rw [cI _ _ (by omega)]; exact cl.1, by rw [ck _ (by omega)]; exact cl.2.1, fun j o hj => by rw [cI _ _ (by omega), ck _ (by omega)]; exact cl.2.2 j o hj⟩, l9, ?_, ?_, ?_, h12⟩
  · obtain ⟨x1, x2, x3, x4, x5, x6, x7, x8, x9, x10⟩ := h1
    exact ⟨x1, x2, x3, x4, x5, x6, x7, Or.inr (hc.2.1 [] (by decide)), x9, hc.2.2 rfl⟩
  · obtain ⟨x0, x1, x2, x3, x4, x5, x6, x7, x8, x9, f1', e1', f2', e2', m', y1, y2, y3, y4, y5, y6, y7, y8, y9, y10⟩ := h3
    have em : m' = L.length := (nI_eqI (by omega) (by omega)).mp ((show I 3 7 = nI m' from y1).symm.trans h7.1)
    subst em
    have o9 : ∀ i, i < L.length → xu (xu I3 3 8 (nI L.length)) 3 9 (nI (L ++ cd).length) 9 i = I 9 i := fun i hi => (cI 9 i (by omega)).trans (old i hi).1
    refine ⟨(cX 3 0 (by omega) (by omega) (by omega) (by omega) (by omega)).trans x0, (cX 3 1 (by omega) (by omega) (by omega) (by omega) (by omega)).trans x1, (cX 3 2 (by omega) (by omega) (by omega) (by omega) (by omega)).trans x2, (cX 3 3 (by omega) (by omega) (by omega) (by omega) (by omega)).trans x3, (cX 3 4 (by omega) (by omega) (by omega) (by omega) (by omega)).trans x4, (cX 3 5 (by omega) (by omega) (by omega) (by omega) (by omega)).trans x5, (cX 3 6 (by omega) (by omega) (by omega) (by omega) (by omega)).trans x6, fun p' q hq => ?_, fun p' q hq => ?_, fun o ho => ?_, ?_⟩
    · obtain ⟨u1, u2, u3⟩ := x7 p' q hq
      exact ⟨(cX 4 _ (by omega) (by omega) (by omega) (by omega) (by omega)).trans u1, (cX 5 _ (by omega) (by omega) (by omega) (by omega) (by omega)).trans u2, (cX 6 _ (by omega) (by omega) (by omega) (by omega) (by omega)).trans u3⟩
    · obtain ⟨s', u1, u2, u3⟩ := x8 p' q hq
      exact ⟨s', u1, (cX 7 _ (by omega) (by omega) (by omega) (by omega) (by omega)).trans u2, u3⟩
    · exact (congrArg Int32.toInt (cX 8 o (by omega) (by omega) (by omega) (by omega) (by omega))).trans (x9 o ho)
    · refine ⟨L.length, L.length + cd.length, f2', e2', (L ++ cd).length, (cI 3 7 (by omega)).trans cl.1, l9, ?_, ?_, (cX 3 10 (by omega) (by omega) (by omega) (by omega) (by omega)).trans y5, (cX 3 11 (by omega) (by omega) (by omega) (by omega) (by omega)).trans y6, by omega, by omega, codeAt_cg (fun i hi => cI 9 i (by omega)) n1, codeAt_cg (fun i hi => o9 i (by omega)) y10⟩
      · show xu (xu I3 3 8 (nI L.length)) 3 9 (nI (L ++ cd).length) 3 8 = nI L.length
        rw [xu_o (by omega), xu_self]
      · show xu (xu I3 3 8 (nI L.length)) 3 9 (nI (L ++ cd).length) 3 9 = nI (L.length + cd.length)
        rw [xu_self, len]
  · obtain ⟨x0, x1, x2, x3, x4, x5, x6, x7, x8, x9, x10, x11, x12, x13⟩ := A3
    refine ⟨(ck 0 (by omega)).trans x0, (ck _ (by omega)).trans x1, (ck _ (by omega)).trans x2, (ck _ (by omega)).trans x3, (ck _ (by omega)).trans x4, (ck _ (by omega)).trans x5, (ck _ (by omega)).trans x6, fun p' q hq => ?_, fun p' q hq => ?_, fun p' q hq => ?_, ?_, ?_, fun hne => ?_, fun hne => ?_⟩
    · obtain ⟨u1, u2, u3⟩ := x7 p' q hq
      exact ⟨(ck _ (by omega)).trans u1, (ck _ (by omega)).trans u2, (ck _ (by omega)).trans u3⟩
    · obtain ⟨u1, u2⟩ := x8 p' q hq
      exact ⟨(ck _ (by omega)).trans u1, (ck _ (by omega)).trans u2⟩
    · obtain ⟨u1, u2, u3⟩ := x9 p' q hq
      exact ⟨(ck _ (by omega)).trans u1, (ck _ (by omega)).trans u2, (ck _ (by omega)).trans u3⟩
    · show xu (xu (xu K3 168 7 1) 168 9 (nI L.length)) 168 11 (nI cd.length) 168 7 = if cd = [] then 0 else 1
      rw [xu_o (by omega), xu_o (by omega), xu_self, if_neg ne]
    · exact (ck _ (by omega)).trans x11
    · refine ⟨L.length, L.length + cd.length, ?_, ?_, by omega, codeAt_cg (fun i hi => ck _ (by omega)) ?_⟩
      · show xu (xu (xu K3 168 7 1) 168 9 (nI L.length)) 168 11 (nI cd.length) 168 9 = nI L.length
        rw [xu_o (by omega), xu_self]
      · show xu (xu (xu K3 168 7 1) 168 9 (nI L.length)) 168 11 (nI cd.length) 168 11 = nI cd.length
        rw [xu_self]
      · exact codeAt_cg (A := fun i => K3 168 (520 + i)) (fun i hi => by show K3 168 (0 + 520 + i) = K3 168 (520 + i); rw [Nat.zero_add]) n2
    · obtain ⟨ff, ee, u1, u2, u3, u4⟩ := x13 hne
      exact ⟨ff, ee, (ck _ (by omega)).trans u1, (ck _ (by omega)).trans u2, u3, codeAt_cg (fun i hi => ck _ (by omega)) u4⟩
  · obtain ⟨y1, y2, y3, y4, y5, y6⟩ := h5
    exact ⟨fun i hi => (cX 11 i (by omega) (by omega) (by omega) (by omega) (by omega)).trans (y1 i hi), (cX 10 3 (by omega) (by omega) (by omega) (by omega) (by omega)).trans y2, fun hh q hq => ⟨(cX 12 _ (by omega) (by omega) (by omega) (by omega) (by omega)).trans (y3 hh q hq).1, (cX 13 _ (by omega) (by omega) (by omega) (by omega) (by omega)).trans (y3 hh q hq).2⟩, (cX 10 4 (by omega) (by omega) (by omega) (by omega) (by omega)).trans y4, (cX 10 5 (by omega) (by omega) (by omega) (by omega) (by omega)).trans y5, (cX 10 6 (by omega) (by omega) (by omega) (by omega) (by omega)).trans y6⟩
  · exact CoastA_pk (t := t) h1 h2 (fun i hi => (ck i (by omega)).trans (fy _ _ (by omega) (by omega))) h6
  · rw [cI _ _ (by omega), fx _ _ (by omega) (by omega) (by omega)]; exact h9
  · refine ⟨fun z => ?_, fun z => ?_⟩
    · refine ⟨L.length, ?_, by show L.length + cd.length ≤ _; omega⟩
      show xu (xu (xu K3 168 7 1) 168 9 (nI L.length)) 168 11 (nI cd.length) 168 9 = nI L.length
      rw [xu_o (by omega), xu_self]
    · obtain ⟨gg, g1, g2⟩ := h10.2 z
      refine ⟨gg, ?_, ?_⟩
      · rw [ck _ (by omega), fy _ _ (by omega) (by omega)]; exact g1
      · have g2' : gg + (tWash t).length ≤ L.length := g2
        show gg + (tWash t).length ≤ _
        omega
  · exact fun i hi => by rw [ck _ (by omega), fy _ _ (by omega) (by omega)]; exact h11 i hi
theorem line_tide {P : Nat → Nat → Option Nat} (hP : GP P) {I K : Nat → Nat → Int32} (J : Nat → Nat → Int64) {b : Nat → Nat} {n f e k : Nat} {t : Txt} {c : Cst} {L : List Int32} (h : St I K b n f e k) (g : LB P J I K t c L) (hk : k ≠ 30) (hL : L.length ≤ f) :
    ∃ I' K', F_X7_readLaw 1 0 (mm P I J) = some (mm P I' J) ∧ F_X12_readLaw 164 0 (mm P K J) = some (mm P K' J) ∧ LnO P J b n I K I' K' f t := by
  obtain ⟨I1, I2, I3, K1, K2, K3, a0, a1, a2, a3, a4, a5, a6, a7, a8, a9, a10⟩ := law_mid hP J (wa := 0) (Or.inl rfl) h g hk hL
  have i37 : I 3 7 = nI L.length := g.2.2.2.2.2.2.1.1
  have k519' : xu K2 164 15 0 168 519 = nI L.length := by rw [xu_o (by omega)]; exact a5
  have fw : frW I I3 := fun a i z => a8 a i (by omega) (by omega) (by omega)
  have fv : frV K K3 := fun a i z1 z2 => a9 a i z1 (by omega)
  have m18 : F_X12_readLaw 164 0 (mm P K J) = F_X12_readLaw_18 164 0 (mm P K2 J) := by
    unfold F_X12_readLaw
    simp only [↓bOM hP, ↓bs a2]
    exact a4 (F_X12_readLaw_18 164 0)
  rcases a10 with bd | ⟨f', e', k', cd, lw, b1, b2, b3⟩
  · have q2 : ¬ K3 164 11 = 0 := by rw [← bd.2.2.1]; exact bd.2.1
    refine ⟨xu (xu I3 3 8 (nI L.length)) 3 9 (I3 3 7), K3, ?_, ?_, (fw.tr (frW.pt (by omega))).tr (frW.pt (by omega)), fv, Or.inl (bd.fr (fun x => by rw [xu_o (by omega), xu_o (by omega)]) (fun i hi => by rw [xu_o (by omega), xu_o (by omega)]) (by rw [xu_o (by omega), xu_o (by omega)]) rfl rfl)⟩
    · have e37 : xu I3 3 8 (nI L.length) 3 7 = I3 3 7 := by rw [xu_o (by omega)]
      unfold F_X7_readLaw
      simp only [↓bOR hP, i37, ↓bs a0, ↓bs a1, ↓bs a3, ↓bs a6, ↓reduceIte, e37]
    · rw [m18]
      unfold F_X12_readLaw_18
      simp only [↓bOM hP, ↓bAM, a5, ↓bs a7, q2, ↓reduceIte]
  · have q2 := lw.1.2.2.2.1
    have ps := lw.1.pos
    have cl := lw.2.1
    have len : (L ++ cd).length = L.length + cd.length := List.length_append
    have lb := LB_tide g a8 a9 cl (by omega) b3
    have i37' : I3 3 7 = nI (L ++ cd).length := cl.1
    have k3 : K3 168 519 = nI (L ++ cd).length := cl.2.1
    have ix7 : (7 : Int32) + 0 = nI 7 := by decide
    have ix9 : (9 : Int32) + 0 = nI 9 := by decide
    have ix11 : (11 : Int32) + 0 = nI 11 := by decide
    have sb : nI (L ++ cd).length - nI L.length = nI cd.length := by
      rw [pk_sub (by omega)]
      congr 1
      omega
    have k3' : ∀ v v', xu (xu K3 168 7 v) 168 9 v' 168 519 = nI (L ++ cd).length := fun v v' => by rw [xu_o (by omega), xu_o (by omega)]; exact k3
    refine ⟨_, _, ?_, ?_, (fw.tr (frW.pt (by omega))).tr (frW.pt (by omega)), ((fv.tr frV.pt).tr frV.pt).tr frV.pt, Or.inr ⟨f', e', k', _, c, _, ?_, lb, by omega, by omega, rfl⟩⟩
    · have e37 : xu I3 3 8 (nI L.length) 3 7 = nI (L ++ cd).length := by rw [xu_o (by omega)]; exact i37'
      unfold F_X7_readLaw
      simp only [↓bOR hP, i37, ↓bs a0, ↓bs a1, ↓bs a3, ↓bs a6, ↓reduceIte, e37]
    · rw [m18]
      unfold F_X12_readLaw_18
      rw [ix7, ix9, ix11]
      simp (disch := omega) only [↓bOM hP, ↓bAM, a5, ↓bs a7, q2, ↓reduceIte, k3', sb]
    · exact lw.1.fr (fun x => by rw [xu_o (by omega), xu_o (by omega)]) (fun i hi => by rw [xu_o (by omega), xu_o (by omega)]) (by rw [xu_o (by omega), xu_o (by omega)]) (fun i i1 i2 => by rw [xu_o (by omega), xu_o (by omega), xu_o (by omega)]) (fun y => by rw [xu_o (by omega), xu_o (by omega), xu_o (by omega)])
theorem LB_wash {P : Nat → Nat → Option Nat} {J : Nat → Nat → Int64} {I K I3 K3 : Nat → Nat → Int32} {t : Txt} {c : Cst} {L cd : List Int32} (g : LB P J I K t c L) (fx : frX I I3) (fy : frY K K3) (cl : CodeL I3 K3 (L ++ cd)) (l9 : (L ++ cd).length ≤ 900) (hc : cP 10 false 1 cd) :
    LB P J (xu (xu I3 3 10 (nI L.length)) 3 11 (nI (L ++ cd).length)) (xu (xu (xu K3 168 8 1) 168 10 (nI L.length)) 168 12 (nI cd.length)) (tSetWash t cd) c (L ++ cd) := by
  obtain ⟨h1, h2, h3, h4, h5, h6, h7, h8, h9, h10, h11, h12⟩ := g
  have wp := h1.2.2.2.2.1.1
  have wq := h1.2.2.2.2.2.1.1
  have wd := h1.2.2.2.2.2.2.1.1
  have wh := h2.2.1.1
  have hN := tN_le h1
  have old := code_old h7 cl
  obtain ⟨n1, n2⟩ := code_new cl
  have len : (L ++ cd).length = L.length + cd.length := List.length_append
  have ne : cd ≠ [] := fun z => by have := hc.1; rw [z] at this; exact absurd this (by decide)
  have A3 : LandA (K3 168) 0 t := LandA_pk h1 h8 h10 (fun i hi => by
    by_cases z : i < 519
    · exact fy _ _ (by omega) (by omega)
    · have := (old (i - 520) (by omega)).2
      rw [show 520 + (i - 520) = i by omega] at this
      exact this) h4
  have ck : ∀ i, ¬ (i = 8 ∨ i = 10 ∨ i = 12) → xu (xu (xu K3 168 8 1) 168 10 (nI L.length)) 168 12 (nI cd.length) 168 i = K3 168 i := fun i hi => by rw [xu_o (by omega), xu_o (by omega), xu_o (by omega)]
  have cI : ∀ a i, ¬ (a = 3 ∧ (i = 10 ∨ i = 11)) → xu (xu I3 3 10 (nI L.length)) 3 11 (nI (L ++ cd).length) a i = I3 a i := fun a i hi => by rw [xu_o (by omega), xu_o (by omega)]
  have cX : ∀ a i, 3 ≤ a → a ≤ 13 → ¬ (a = 3 ∧ (i = 10 ∨ i = 11)) → ¬ (a = 3 ∧ i = 7) → a ≠ 9 → xu (xu I3 3 10 (nI L.length)) 3 11 (nI (L ++ cd).length) a i = I a i := fun a i z1 z2 z3 z4 z5 => (cI a i z3).trans (fx a i (by omega) z4 z5)
  refine ⟨?_, h2, ?_, ?_, ?_, ?_, ⟨by rw [cI _ _ (by omega)]; exact cl.1, by rw [ck _ (by omega)]; exact cl.2.1, fun j o hj => by rw [cI _ _ (by omega), ck _ (by omega)]; exact cl.2.2 j o hj⟩, l9, ?_, ?_, ?_, h12⟩
  · obtain ⟨x1, x2, x3, x4, x5, x6, x7, x8, x9, x10⟩ := h1
    exact ⟨x1, x2, x3, x4, x5, x6, x7, x8, Or.inr (hc.2.1 [] (by decide)), x10⟩
  · obtain ⟨x0, x1, x2, x3, x4, x5, x6, x7, x8, x9, f1', e1', f2', e2', m', y1, y2, y3, y4, y5, y6, y7, y8, y9, y10⟩ := h3
    have em : m' = L.length := (nI_eqI (by omega) (by omega)).mp ((show I 3 7 = nI m' from y1).symm.trans h7.1)
    subst em
    have o9 : ∀ i, i < L.length → xu (xu I3 3 10 (nI L.length)) 3 11 (nI (L ++ cd).length) 9 i = I 9 i := fun i hi => (cI 9 i (by omega)).trans (old i hi).1
    refine ⟨(cX 3 0 (by omega) (by omega) (by omega) (by omega) (by omega)).trans x0, (cX 3 1 (by omega) (by omega) (by omega) (by omega) (by omega)).trans x1, (cX 3 2 (by omega) (by omega) (by omega) (by omega) (by omega)).trans x2, (cX 3 3 (by omega) (by omega) (by omega) (by omega) (by omega)).trans x3, (cX 3 4 (by omega) (by omega) (by omega) (by omega) (by omega)).trans x4, (cX 3 5 (by omega) (by omega) (by omega) (by omega) (by omega)).trans x5, (cX 3 6 (by omega) (by omega) (by omega) (by omega) (by omega)).trans x6, fun p' q hq => ?_, fun p' q hq => ?_, fun o ho => ?_, ?_⟩
    · obtain ⟨u1, u2, u3⟩ := x7 p' q hq
      exact ⟨(cX 4 _ (by omega) (by omega) (by omega) (by omega) (by omega)).trans u1, (cX 5 _ (by omega) (by omega) (by omega) (by omega) (by omega)).trans u2, (cX 6 _ (by omega) (by omega) (by omega) (by omega) (by omega)).trans u3⟩
    · obtain ⟨s', u1, u2, u3⟩ := x8 p' q hq
      exact ⟨s', u1, (cX 7 _ (by omega) (by omega) (by omega) (by omega) (by omega)).trans u2, u3⟩
    · exact (congrArg Int32.toInt (cX 8 o (by omega) (by omega) (by omega) (by omega) (by omega))).trans (x9 o ho)
    · refine ⟨f1', e1', L.length, L.length + cd.length, (L ++ cd).length, (cI 3 7 (by omega)).trans cl.1, l9, (cX 3 8 (by omega) (by omega) (by omega) (by omega) (by omega)).trans y3, (cX 3 9 (by omega) (by omega) (by omega) (by omega) (by omega)).trans y4, ?_, ?_, by omega, by omega, codeAt_cg (fun i hi => o9 i (by omega)) y9, codeAt_cg (fun i hi => cI 9 i (by omega)) n1⟩
      · show xu (xu I3 3 10 (nI L.length)) 3 11 (nI (L ++ cd).length) 3 10 = nI L.length
        rw [xu_o (by omega), xu_self]
      · show xu (xu I3 3 10 (nI L.length)) 3 11 (nI (L ++ cd).length) 3 11 = nI (L.length + cd.length)
        rw [xu_self, len]
  · obtain ⟨x0, x1, x2, x3, x4, x5, x6, x7, x8, x9, x10, x11, x12, x13⟩ := A3
    refine ⟨(ck 0 (by omega)).trans x0, (ck _ (by omega)).trans x1, (ck _ (by omega)).trans x2, (ck _ (by omega)).trans x3, (ck _ (by omega)).trans x4, (ck _ (by omega)).trans x5, (ck _ (by omega)).trans x6, fun p' q hq => ?_, fun p' q hq => ?_, fun p' q hq => ?_, ?_, ?_, fun hne => ?_, fun hne => ?_⟩
    · obtain ⟨u1, u2, u3⟩ := x7 p' q hq
      exact ⟨(ck _ (by omega)).trans u1, (ck _ (by omega)).trans u2, (ck _ (by omega)).trans u3⟩
    · obtain ⟨u1, u2⟩ := x8 p' q hq
      exact ⟨(ck _ (by omega)).trans u1, (ck _ (by omega)).trans u2⟩
    · obtain ⟨u1, u2, u3⟩ := x9 p' q hq
      exact ⟨(ck _ (by omega)).trans u1, (ck _ (by omega)).trans u2, (ck _ (by omega)).trans u3⟩
    · exact (ck _ (by omega)).trans x10
    · show xu (xu (xu K3 168 8 1) 168 10 (nI L.length)) 168 12 (nI cd.length) 168 8 = if cd = [] then 0 else 1
      rw [xu_o (by omega), xu_o (by omega), xu_self, if_neg ne]
    · obtain ⟨ff, ee, u1, u2, u3, u4⟩ := x12 hne
      exact ⟨ff, ee, (ck _ (by omega)).trans u1, (ck _ (by omega)).trans u2, u3, codeAt_cg (fun i hi => ck _ (by omega)) u4⟩
    · refine ⟨L.length, L.length + cd.length, ?_, ?_, by omega, codeAt_cg (fun i hi => ck _ (by omega)) ?_⟩
      · show xu (xu (xu K3 168 8 1) 168 10 (nI L.length)) 168 12 (nI cd.length) 168 10 = nI L.length
        rw [xu_o (by omega), xu_self]
      · show xu (xu (xu K3 168 8 1) 168 10 (nI L.length)) 168 12 (nI cd.length) 168 12 = nI cd.length
        rw [xu_self]
      · exact codeAt_cg (A := fun i => K3 168 (520 + i)) (fun i hi => by show K3 168 (0 + 520 + i) = K3 168 (520 + i); rw [Nat.zero_add]) n2
  · obtain ⟨y1, y2, y3, y4, y5, y6⟩ := h5
    exact ⟨fun i hi => (cX 11 i (by omega) (by omega) (by omega) (by omega) (by omega)).trans (y1 i hi), (cX 10 3 (by omega) (by omega) (by omega) (by omega) (by omega)).trans y2, fun hh q hq => ⟨(cX 12 _ (by omega) (by omega) (by omega) (by omega) (by omega)).trans (y3 hh q hq).1, (cX 13 _ (by omega) (by omega) (by omega) (by omega) (by omega)).trans (y3 hh q hq).2⟩, (cX 10 4 (by omega) (by omega) (by omega) (by omega) (by omega)).trans y4, (cX 10 5 (by omega) (by omega) (by omega) (by omega) (by omega)).trans y5, (cX 10 6 (by omega) (by omega) (by omega) (by omega) (by omega)).trans y6⟩
  · exact CoastA_pk (t := t) h1 h2 (fun i hi => (ck i (by omega)).trans (fy _ _ (by omega) (by omega))) h6
  · rw [cI _ _ (by omega), fx _ _ (by omega) (by omega) (by omega)]; exact h9
  · refine ⟨fun z => ?_, fun z => ?_⟩
    · obtain ⟨gg, g1, g2⟩ := h10.1 z
      refine ⟨gg, ?_, ?_⟩
      · rw [ck _ (by omega), fy _ _ (by omega) (by omega)]; exact g1
      · have g2' : gg + (tTide t).length ≤ L.length := g2
        show gg + (tTide t).length ≤ _
        omega
    · refine ⟨L.length, ?_, by show L.length + cd.length ≤ _; omega⟩
      show xu (xu (xu K3 168 8 1) 168 10 (nI L.length)) 168 12 (nI cd.length) 168 10 = nI L.length
      rw [xu_o (by omega), xu_self]
  · exact fun i hi => by rw [ck _ (by omega), fy _ _ (by omega) (by omega)]; exact h11 i hi
theorem line_wash {P : Nat → Nat → Option Nat} (hP : GP P) {I K : Nat → Nat → Int32} (J : Nat → Nat → Int64) {b : Nat → Nat} {n f e k : Nat} {t : Txt} {c : Cst} {L : List Int32} (h : St I K b n f e k) (g : LB P J I K t c L) (hk : k ≠ 30) (hL : L.length ≤ f) :
    ∃ I' K', F_X7_readLaw 1 1 (mm P I J) = some (mm P I' J) ∧ F_X12_readLaw 164 1 (mm P K J) = some (mm P K' J) ∧ LnO P J b n I K I' K' f t := by
  obtain ⟨I1, I2, I3, K1, K2, K3, a0, a1, a2, a3, a4, a5, a6, a7, a8, a9, a10⟩ := law_mid hP J (wa := 1) (Or.inr rfl) h g hk hL
  have i37 : I 3 7 = nI L.length := g.2.2.2.2.2.2.1.1
  have k519' : xu K2 164 15 1 168 519 = nI L.length := by rw [xu_o (by omega)]; exact a5
  have fw : frW I I3 := fun a i z => a8 a i (by omega) (by omega) (by omega)
  have fv : frV K K3 := fun a i z1 z2 => a9 a i z1 (by omega)
  have m18 : F_X12_readLaw 164 1 (mm P K J) = F_X12_readLaw_18 164 1 (mm P K2 J) := by
    unfold F_X12_readLaw
    simp only [↓bOM hP, ↓bs a2]
    exact a4 (F_X12_readLaw_18 164 1)
  rcases a10 with bd | ⟨f', e', k', cd, lw, b1, b2, b3⟩
  · have q2 : ¬ K3 164 11 = 0 := by rw [← bd.2.2.1]; exact bd.2.1
    refine ⟨xu (xu I3 3 10 (nI L.length)) 3 11 (I3 3 7), K3, ?_, ?_, (fw.tr (frW.pt (by omega))).tr (frW.pt (by omega)), fv, Or.inl (bd.fr (fun x => by rw [xu_o (by omega), xu_o (by omega)]) (fun i hi => by rw [xu_o (by omega), xu_o (by omega)]) (by rw [xu_o (by omega), xu_o (by omega)]) rfl rfl)⟩
    · have e37 : xu I3 3 10 (nI L.length) 3 7 = I3 3 7 := by rw [xu_o (by omega)]
      unfold F_X7_readLaw
      simp only [↓bOR hP, i37, ↓bs a0, ↓bs a1, ↓bs a3, ↓bs a6, one_ne, ↓reduceIte, e37]
    · rw [m18]
      unfold F_X12_readLaw_18
      simp only [↓bOM hP, ↓bAM, a5, ↓bs a7, q2, ↓reduceIte]
  · have q2 := lw.1.2.2.2.1
    have ps := lw.1.pos
    have cl := lw.2.1
    have len : (L ++ cd).length = L.length + cd.length := List.length_append
    have lb := LB_wash g a8 a9 cl (by omega) b3
    have i37' : I3 3 7 = nI (L ++ cd).length := cl.1
    have k3 : K3 168 519 = nI (L ++ cd).length := cl.2.1
    have ix7 : (7 : Int32) + 1 = nI 8 := by decide
    have ix9 : (9 : Int32) + 1 = nI 10 := by decide
    have ix11 : (11 : Int32) + 1 = nI 12 := by decide
    have sb : nI (L ++ cd).length - nI L.length = nI cd.length := by
      rw [pk_sub (by omega)]
      congr 1
      omega
    have k3' : ∀ v v', xu (xu K3 168 8 v) 168 10 v' 168 519 = nI (L ++ cd).length := fun v v' => by rw [xu_o (by omega), xu_o (by omega)]; exact k3
    refine ⟨_, _, ?_, ?_, (fw.tr (frW.pt (by omega))).tr (frW.pt (by omega)), ((fv.tr frV.pt).tr frV.pt).tr frV.pt, Or.inr ⟨f', e', k', _, c, _, ?_, lb, by omega, by omega, rfl⟩⟩
    · have e37 : xu I3 3 10 (nI L.length) 3 7 = nI (L ++ cd).length := by rw [xu_o (by omega)]; exact i37'
      unfold F_X7_readLaw
      simp only [↓bOR hP, i37, ↓bs a0, ↓bs a1, ↓bs a3, ↓bs a6, one_ne, ↓reduceIte, e37]
    · rw [m18]
      unfold F_X12_readLaw_18
      rw [ix7, ix9, ix11]
      simp (disch := omega) only [↓bOM hP, ↓bAM, a5, ↓bs a7, q2, ↓reduceIte, k3', sb]
    · exact lw.1.fr (fun x => by rw [xu_o (by omega), xu_o (by omega)]) (fun i hi => by rw [xu_o (by omega), xu_o (by omega)]) (by rw [xu_o (by omega), xu_o (by omega)]) (fun i i1 i2 => by rw [xu_o (by omega), xu_o (by omega), xu_o (by omega)]) (fun y => by rw [xu_o (by omega), xu_o (by omega), xu_o (by omega)])
