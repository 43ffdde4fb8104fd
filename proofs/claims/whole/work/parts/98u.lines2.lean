/-! ===== moon, gale ===== -/
theorem line_moon {P : Nat → Nat → Option Nat} (hP : GP P) {I K : Nat → Nat → Int32} (J : Nat → Nat → Int64) {b : Nat → Nat} {n f e k : Nat} {t : Txt} {c : Cst} {L : List Int32} (h : St I K b n f e k) (g : LB P J I K t c L) (hk : k ≠ 30) (hL : L.length ≤ f) :
    ∃ I1 K1 r r' I2 K2, F_X7_step 1 (mm P I J) = some (mm P I1 J) ∧ F_X12_next 164 (mm P K J) = some (mm P K1 J) ∧ F_X7_expectNumber 1 0 9 0 (mm P I1 J) = some (r, mm P I2 J) ∧ F_X12_takes 164 0 9 (mm P K1 J) = some (r', mm P K2 J) ∧ LnO P J b n I K (xu I2 10 5 r) (xu K2 168 106 r') f t := by
  obtain ⟨I1, K1, f1, e1, k1, a1, a2, a3, a4, a5, a6, a7⟩ := advB hP J h g hk
  obtain ⟨r, r', I2, K2, d1, d2, d3, d4, d5, d6⟩ := SB_num hP J (Or.inr ⟨f1, e1, k1, a5, Nat.le_refl _⟩) (l := 0) (u := 9) (bar := 0) 0 9 rfl rfl (by omega) (by omega) (bar0 (by omega))
  refine ⟨I1, K1, r, r', I2, K2, a1, a2, d1, d2, (a3.W.tr d3.W).tr (frW.pt (by omega)), (a4.V.tr d4.V).tr frV.pt, ?_⟩
  rcases d6 with d6 | ⟨v, f3, e3, k3, rfl, rfl, v1, v2, -, s3, s4⟩
  · exact Or.inl (d6.1.fr (fun x => by rw [xu_o (by omega)]) (fun i hi => by rw [xu_o (by omega)]) (by rw [xu_o (by omega)]) (by rw [xu_o (by omega)]) (by rw [xu_o (by omega)]))
  · obtain ⟨h1, h2, h3, h4, h5, h6, ⟨l1, l2, l3⟩, h8, h9, h10, h11, h12⟩ := a6.rq d3 d4
    have wp := h1.2.2.2.2.1.1
    have wq := h1.2.2.2.2.2.1.1
    have wd := h1.2.2.2.2.2.2.1.1
    have wh := h2.2.1.1
    have hN := tN_le h1
    have ck : ∀ i, ¬ i = 106 → xu K2 168 106 (nI v) 168 i = K2 168 i := fun i hi => xu_o (by omega)
    refine Or.inr ⟨f3, e3, k3, t, cSetMoon c v, L, s3.fr (fun y => by rw [xu_o (by omega)]) (fun i hi => by rw [xu_o (by omega)]) (by rw [xu_o (by omega)]) (fun i i1 i2 => by rw [xu_o (by omega)]) (fun y => by rw [xu_o (by omega)]), ⟨h1, ⟨h2.1, h2.2.1, h2.2.2.1, v2, h2.2.2.2.2⟩, LandC_cg (M := mm P I2 J) (fun j hj => funext fun i => xu_o (by omega)) h3, LandA_pk h1 h8 h10 (fun i hi => ck i (by omega)) h4, ?_, ?_, ⟨by rw [xu_o (by omega)]; exact l1, by rw [ck _ (by omega)]; exact l2, fun j o hj => by rw [xu_o (by omega), ck _ (by omega)]; exact l3 j o hj⟩, h8, by rw [xu_o (by omega)]; exact h9, ⟨fun z => by rw [ck _ (by omega)]; exact h10.1 z, fun z => by rw [ck _ (by omega)]; exact h10.2 z⟩, (fun i hi => by rw [ck _ (by omega)]; exact h11 i hi), h12⟩, by omega, by omega, rfl⟩
    · obtain ⟨y1, y2, y3, y4, y5, y6⟩ := h5
      exact ⟨fun i hi => by rw [xu_o (by omega)]; exact y1 i hi, by rw [xu_o (by omega)]; exact y2, fun hh q hq => by rw [xu_o (by omega), xu_o (by omega)]; exact y3 hh q hq, by rw [xu_o (by omega)]; exact y4, xu_self, by rw [xu_o (by omega)]; exact y6⟩
    · obtain ⟨y1, y2, y3, ⟨fl, z1, z2, z3⟩, y5, y6⟩ := h6
      exact ⟨fun i hi => by rw [ck _ (by omega)]; exact y1 i hi, by rw [ck _ (by omega)]; exact y2, fun hh q hq => by
        have hl : hh < (cHouses c).length := getlt hq
        rw [ck _ (by omega), ck _ (by omega)]
        exact y3 hh q hq, ⟨fl, z1, by rw [ck _ (by omega)]; exact z2, z3⟩, xu_self, by rw [ck _ (by omega)]; exact y6⟩
def tSetGale (t : Txt) (v : Nat) : Txt := (t.1, t.2.1, t.2.2.1, v, t.2.2.2.2)
theorem line_gale {P : Nat → Nat → Option Nat} (hP : GP P) {I K : Nat → Nat → Int32} (J : Nat → Nat → Int64) {b : Nat → Nat} {n f e k : Nat} {t : Txt} {c : Cst} {L : List Int32} (h : St I K b n f e k) (g : LB P J I K t c L) (hk : k ≠ 30) (hL : L.length ≤ f) :
    ∃ I1 K1 r r' I2 K2, F_X7_step 1 (mm P I J) = some (mm P I1 J) ∧ F_X12_next 164 (mm P K J) = some (mm P K1 J) ∧ F_X7_expectNumber 1 0 10 0 (mm P I1 J) = some (r, mm P I2 J) ∧ F_X12_takes 164 0 10 (mm P K1 J) = some (r', mm P K2 J) ∧ LnO P J b n I K (xu I2 3 4 r) (xu K2 168 3 r') f t := by
  obtain ⟨I1, K1, f1, e1, k1, a1, a2, a3, a4, a5, a6, a7⟩ := advB hP J h g hk
  obtain ⟨r, r', I2, K2, d1, d2, d3, d4, d5, d6⟩ := SB_num hP J (Or.inr ⟨f1, e1, k1, a5, Nat.le_refl _⟩) (l := 0) (u := 10) (bar := 0) 0 10 rfl rfl (by omega) (by omega) (bar0 (by omega))
  refine ⟨I1, K1, r, r', I2, K2, a1, a2, d1, d2, (a3.W.tr d3.W).tr (frW.pt (by omega)), (a4.V.tr d4.V).tr frV.pt, ?_⟩
  rcases d6 with d6 | ⟨v, f3, e3, k3, rfl, rfl, v1, v2, -, s3, s4⟩
  · exact Or.inl (d6.1.fr (fun x => by rw [xu_o (by omega)]) (fun i hi => by rw [xu_o (by omega)]) (by rw [xu_o (by omega)]) (by rw [xu_o (by omega)]) (by rw [xu_o (by omega)]))
  · obtain ⟨h1, h2, h3, h4, h5, h6, ⟨l1, l2, l3⟩, h8, h9, h10, h11, h12⟩ := a6.rq d3 d4
    have wp := h1.2.2.2.2.1.1
    have wq := h1.2.2.2.2.2.1.1
    have wd := h1.2.2.2.2.2.2.1.1
    have wh := h2.2.1.1
    have hN := tN_le h1
    have ck : ∀ i, ¬ i = 3 → xu K2 168 3 (nI v) 168 i = K2 168 i := fun i hi => xu_o (by omega)
    have cI : ∀ a i, ¬ (a = 3 ∧ i = 4) → xu I2 3 4 (nI v) a i = I2 a i := fun a i hi => xu_o (by omega)
    refine Or.inr ⟨f3, e3, k3, tSetGale t v, c, L, s3.fr (fun y => by rw [xu_o (by omega)]) (fun i hi => by rw [xu_o (by omega)]) (by rw [xu_o (by omega)]) (fun i i1 i2 => by rw [xu_o (by omega)]) (fun y => by rw [xu_o (by omega)]), ⟨?_, h2, ?_, ?_, ?_, ?_, ⟨by rw [xu_o (by omega)]; exact l1, by rw [ck _ (by omega)]; exact l2, fun j o hj => by rw [xu_o (by omega), ck _ (by omega)]; exact l3 j o hj⟩, h8, by rw [xu_o (by omega)]; exact h9, ⟨fun z => by rw [ck _ (by omega)]; exact h10.1 z, fun z => by rw [ck _ (by omega)]; exact h10.2 z⟩, (fun i hi => by rw [ck _ (by omega)]; exact h11 i hi), h12⟩, by omega, by omega, rfl⟩
    · obtain ⟨x1, x2, x3, x4, x5⟩ := h1
      exact ⟨x1, x2, x3, v2, x5⟩
    · obtain ⟨x0, x1, x2, x3, x4, x5, x6, x7, x8, x9, f1', e1', f2', e2', m', y1, y2, y3, y4, y5, y6, y7, y8, y9, y10⟩ := h3
      refine ⟨?_, ?_, ?_, ?_, (show xu I2 3 4 (nI v) 3 4 = nI v from xu_self), ?_, ?_, fun p q hq => ?_, fun p q hq => ?_, fun o ho => ?_, f1', e1', f2', e2', m', ?_, y2, ?_, ?_, ?_, ?_, y7, y8, codeAt_cg (fun i hi => cI 9 i (by omega)) y9, codeAt_cg (fun i hi => cI 9 i (by omega)) y10⟩
      · exact (cI 3 0 (by omega)).trans x0
      · exact (cI 3 1 (by omega)).trans x1
      · exact (cI 3 2 (by omega)).trans x2
      · exact (cI 3 3 (by omega)).trans x3
      · exact (cI 3 5 (by omega)).trans x5
      · exact (cI 3 6 (by omega)).trans x6
      · obtain ⟨u1, u2, u3⟩ := x7 p q hq
        exact ⟨(cI _ _ (by omega)).trans u1, (cI _ _ (by omega)).trans u2, (cI _ _ (by omega)).trans u3⟩
      · obtain ⟨s, u1, u2, u3⟩ := x8 p q hq
        exact ⟨s, u1, (cI _ _ (by omega)).trans u2, u3⟩
      · exact (congrArg Int32.toInt (cI 8 o (by omega))).trans (x9 o ho)
      · exact (cI 3 7 (by omega)).trans y1
      · exact (cI 3 8 (by omega)).trans y3
      · exact (cI 3 9 (by omega)).trans y4
      · exact (cI 3 10 (by omega)).trans y5
      · exact (cI 3 11 (by omega)).trans y6
    · obtain ⟨x0, x1, x2, x3, x4, x5, x6, x7, x8, x9, x10, x11, x12, x13⟩ := h4
      refine ⟨(ck 0 (by omega)).trans x0, (ck _ (by omega)).trans x1, (ck _ (by omega)).trans x2, xu_self, (ck _ (by omega)).trans x4, (ck _ (by omega)).trans x5, (ck _ (by omega)).trans x6, fun p q hq => ?_, fun p q hq => ?_, fun p q hq => ?_, (ck _ (by omega)).trans x10, (ck _ (by omega)).trans x11, fun hne => ?_, fun hne => ?_⟩
      · obtain ⟨u1, u2, u3⟩ := x7 p q hq
        exact ⟨(ck _ (by omega)).trans u1, (ck _ (by omega)).trans u2, (ck _ (by omega)).trans u3⟩
      · obtain ⟨u1, u2⟩ := x8 p q hq
        exact ⟨(ck _ (by omega)).trans u1, (ck _ (by omega)).trans u2⟩
      · obtain ⟨u1, u2, u3⟩ := x9 p q hq
        exact ⟨(ck _ (by omega)).trans u1, (ck _ (by omega)).trans u2, (ck _ (by omega)).trans u3⟩
      · obtain ⟨ff, ee, u1, u2, u3, u4⟩ := x12 hne
        exact ⟨ff, ee, (ck _ (by omega)).trans u1, (ck _ (by omega)).trans u2, u3, codeAt_cg (fun i hi => ck _ (by omega)) u4⟩
      · obtain ⟨ff, ee, u1, u2, u3, u4⟩ := x13 hne
        exact ⟨ff, ee, (ck _ (by omega)).trans u1, (ck _ (by omega)).trans u2, u3, codeAt_cg (fun i hi => ck _ (by omega)) u4⟩
    · obtain ⟨y1, y2, y3, y4, y5, y6⟩ := h5
      exact ⟨fun i hi => by rw [xu_o (by omega)]; exact y1 i hi, by rw [xu_o (by omega)]; exact y2, fun hh q hq => by rw [xu_o (by omega), xu_o (by omega)]; exact y3 hh q hq, by rw [xu_o (by omega)]; exact y4, by rw [xu_o (by omega)]; exact y5, by rw [xu_o (by omega)]; exact y6⟩
    · exact CoastA_pk (t := t) h1 h2 (fun i hi => ck i (by omega)) h6
/-! ===== plot ===== -/
theorem get_snoc {α : Type} {l : List α} {x q : α} {p : Nat} (h : (l ++ [x])[p]? = some q) : (p < l.length ∧ l[p]? = some q) ∨ (p = l.length ∧ x = q) := by
  by_cases hp : p < l.length
  · rw [List.getElem?_append_left hp] at h
    exact Or.inl ⟨hp, h⟩
  · have lt := getlt h
    rw [List.length_append] at lt
    have : [x].length = 1 := rfl
    have ep : p = l.length := by omega
    subst ep
    rw [List.getElem?_append_right (Nat.le_refl _), Nat.sub_self] at h
    exact Or.inr ⟨rfl, Option.some.inj h⟩
def tAddPlot (t : Txt) (q : Nat × Nat × Nat) : Txt := (t.1, t.2.1, t.2.2.1, t.2.2.2.1, tPlots t ++ [q], t.2.2.2.2.2)
theorem LB_plot {P : Nat → Nat → Option Nat} {J : Nat → Nat → Int64} {I K : Nat → Nat → Int32} {t : Txt} {c : Cst} {L : List Int32} {p x mi wo : Nat} (g : LB P J I K t c L) (hp : (tPlots t).length = p) (p6 : p < 6) (q1 : K 168 (13 + 3 * p) = nI x) (q2 : K 168 (14 + 3 * p) = nI mi) (q3 : K 168 (15 + 3 * p) = nI wo) (hx : x < tN t) (m1 : 1 ≤ mi) (m2 : mi ≤ 9) (w9 : wo ≤ 9) :
    LB P J (xu (xu (xu (xu I 4 p (nI x)) 5 p (nI mi)) 6 p (nI wo)) 3 5 (nI (p + 1))) (xu K 168 4 (nI (p + 1))) (tAddPlot t (x, mi, wo)) c L := by
  obtain ⟨h1, h2, h3, h4, h5, h6, ⟨l1, l2, l3⟩, h8, h9, h10, h11, h12⟩ := g
  have wq := h1.2.2.2.2.2.1.1
  have wd := h1.2.2.2.2.2.2.1.1
  have wh := h2.2.1.1
  have hN := tN_le h1
  have len : (tPlots t ++ [(x, mi, wo)]).length = p + 1 := by rw [List.length_append, hp]; rfl
  have ck : ∀ i, ¬ i = 4 → xu K 168 4 (nI (p + 1)) 168 i = K 168 i := fun i hi => xu_o (by omega)
  have cI : ∀ a i, ¬ ((a = 3 ∧ i = 5) ∨ (4 ≤ a ∧ a ≤ 6 ∧ i = p)) → xu (xu (xu (xu I 4 p (nI x)) 5 p (nI mi)) 6 p (nI wo)) 3 5 (nI (p + 1)) a i = I a i := fun a i hi => by rw [xu_o (by omega), xu_o (by omega), xu_o (by omega), xu_o (by omega)]
  refine ⟨?_, h2, ?_, ?_, ?_, CoastA_pk (t := t) h1 h2 (fun i hi => ck i (by omega)) h6, ⟨by rw [cI _ _ (by omega)]; exact l1, by rw [ck _ (by omega)]; exact l2, fun j o hj => by rw [cI _ _ (by omega), ck _ (by omega)]; exact l3 j o hj⟩, h8, by rw [cI _ _ (by omega)]; exact h9, ⟨fun z => by rw [ck _ (by omega)]; exact h10.1 z, fun z => by rw [ck _ (by omega)]; exact h10.2 z⟩, (fun i hi => by rw [ck _ (by omega)]; exact h11 i hi), h12⟩
  · obtain ⟨x1, x2, x3, x4, ⟨x5, x6⟩, x7⟩ := h1
    refine ⟨x1, x2, x3, x4, ⟨by show (tPlots t ++ [(x, mi, wo)]).length ≤ 6; omega, fun q hq => ?_⟩, x7⟩
    have hq' : q ∈ tPlots t ++ [(x, mi, wo)] := hq
    rcases List.mem_append.mp hq' with hq | hq
    · exact x6 q hq
    · rw [List.mem_singleton.mp hq]
      exact ⟨hx, ⟨m1, m2⟩, w9⟩
  · obtain ⟨x0, x1, x2, x3, x4, x5, x6, x7, x8, x9, f1', e1', f2', e2', m', y1, y2, y3, y4, y5, y6, y7, y8, y9, y10⟩ := h3
    refine ⟨(cI _ _ (by omega)).trans x0, (cI _ _ (by omega)).trans x1, (cI _ _ (by omega)).trans x2, (cI _ _ (by omega)).trans x3, (cI _ _ (by omega)).trans x4, ?_, (cI _ _ (by omega)).trans x6, fun p' q hq => ?_, fun p' q hq => ?_, fun o ho => ?_, f1', e1', f2', e2', m', (cI _ _ (by omega)).trans y1, y2, (cI _ _ (by omega)).trans y3, (cI _ _ (by omega)).trans y4, (cI _ _ (by omega)).trans y5, (cI _ _ (by omega)).trans y6, y7, y8, codeAt_cg (fun i hi => cI 9 i (by omega)) y9, codeAt_cg (fun i hi => cI 9 i (by omega)) y10⟩
    · show xu (xu (xu (xu I 4 p (nI x)) 5 p (nI mi)) 6 p (nI wo)) 3 5 (nI (p + 1)) 3 5 = nI (tPlots t ++ [(x, mi, wo)]).length
      rw [xu_self, len]
    · rcases get_snoc (show (tPlots t ++ [(x, mi, wo)])[p']? = some q from hq) with ⟨z1, z2⟩ | ⟨z1, z2⟩
      · obtain ⟨u1, u2, u3⟩ := x7 p' q z2
        exact ⟨(cI _ _ (by omega)).trans u1, (cI _ _ (by omega)).trans u2, (cI _ _ (by omega)).trans u3⟩
      · rw [← z2, z1, hp]
        exact ⟨by show xu (xu (xu (xu I 4 p (nI x)) 5 p (nI mi)) 6 p (nI wo)) 3 5 (nI (p + 1)) 4 p = nI x; rw [xu_o (by omega), xu_o (by omega), xu_o (by omega), xu_self], by show xu (xu (xu (xu I 4 p (nI x)) 5 p (nI mi)) 6 p (nI wo)) 3 5 (nI (p + 1)) 5 p = nI mi; rw [xu_o (by omega), xu_o (by omega), xu_self], by show xu (xu (xu (xu I 4 p (nI x)) 5 p (nI mi)) 6 p (nI wo)) 3 5 (nI (p + 1)) 6 p = nI wo; rw [xu_o (by omega), xu_self]⟩
    · obtain ⟨s, u1, u2, u3⟩ := x8 p' q hq
      exact ⟨s, u1, (cI _ _ (by omega)).trans u2, u3⟩
    · exact (congrArg Int32.toInt (cI 8 o (by omega))).trans (x9 o ho)
  · obtain ⟨x0, x1, x2, x3, x4, x5, x6, x7, x8, x9, x10, x11, x12, x13⟩ := h4
    refine ⟨(ck 0 (by omega)).trans x0, (ck _ (by omega)).trans x1, (ck _ (by omega)).trans x2, (ck _ (by omega)).trans x3, ?_, (ck _ (by omega)).trans x5, (ck _ (by omega)).trans x6, fun p' q hq => ?_, fun p' q hq => ?_, fun p' q hq => ?_, (ck _ (by omega)).trans x10, (ck _ (by omega)).trans x11, fun hne => ?_, fun hne => ?_⟩
    · show xu K 168 4 (nI (p + 1)) 168 4 = nI (tPlots t ++ [(x, mi, wo)]).length
      rw [xu_self, len]
    · rcases get_snoc (show (tPlots t ++ [(x, mi, wo)])[p']? = some q from hq) with ⟨z1, z2⟩ | ⟨z1, z2⟩
      · obtain ⟨u1, u2, u3⟩ := x7 p' q z2
        exact ⟨(ck _ (by omega)).trans u1, (ck _ (by omega)).trans u2, (ck _ (by omega)).trans u3⟩
      · rw [← z2, z1, hp]
        exact ⟨(ck _ (by omega)).trans (by rw [Nat.zero_add]; exact q1), (ck _ (by omega)).trans (by rw [Nat.zero_add]; exact q2), (ck _ (by omega)).trans (by rw [Nat.zero_add]; exact q3)⟩
    · obtain ⟨u1, u2⟩ := x8 p' q hq
      exact ⟨(ck _ (by omega)).trans u1, (ck _ (by omega)).trans u2⟩
    · obtain ⟨u1, u2, u3⟩ := x9 p' q hq
      exact ⟨(ck _ (by omega)).trans u1, (ck _ (by omega)).trans u2, (ck _ (by omega)).trans u3⟩
    · obtain ⟨ff, ee, u1, u2, u3, u4⟩ := x12 hne
      exact ⟨ff, ee, (ck _ (by omega)).trans u1, (ck _ (by omega)).trans u2, u3, codeAt_cg (fun i hi => ck _ (by omega)) u4⟩
    · obtain ⟨ff, ee, u1, u2, u3, u4⟩ := x13 hne
      exact ⟨ff, ee, (ck _ (by omega)).trans u1, (ck _ (by omega)).trans u2, u3, codeAt_cg (fun i hi => ck _ (by omega)) u4⟩
  · obtain ⟨y1, y2, y3, y4, y5, y6⟩ := h5
    exact ⟨fun i hi => by rw [cI _ _ (by omega)]; exact y1 i hi, by rw [cI _ _ (by omega)]; exact y2, fun hh q hq => by rw [cI _ _ (by omega), cI _ _ (by omega)]; exact y3 hh q hq, by rw [cI _ _ (by omega)]; exact y4, by rw [cI _ _ (by omega)]; exact y5, by rw [cI _ _ (by omega)]; exact y6⟩
theorem SB.pk {I K K' : Nat → Nat → Int32} {b : Nat → Nat} {n fo : Nat} (h : SB I K b n fo) (g : ∀ a i, a ≠ 168 → K' a i = K a i) : SB I K' b n fo := by
  rcases h with h | ⟨f, e, k, h, hf⟩
  · exact Or.inl (h.fr (fun _ => rfl) (fun _ _ => rfl) rfl (g _ _ (by omega)) (g _ _ (by omega)))
  · exact Or.inr ⟨f, e, k, h.fr (fun _ => rfl) (fun _ _ => rfl) rfl (fun i _ _ => g _ _ (by omega)) (fun x => g _ _ (by omega)), hf⟩
theorem Bd.pk {I K K' : Nat → Nat → Int32} {b : Nat → Nat} {n : Nat} (h : Bd I K b n) (g : ∀ a i, a ≠ 168 → K' a i = K a i) : Bd I K' b n := h.fr (fun _ => rfl) (fun _ _ => rfl) rfl (g _ _ (by omega)) (g _ _ (by omega))
theorem St.pk {I K K' : Nat → Nat → Int32} {b : Nat → Nat} {n f e k : Nat} (h : St I K b n f e k) (g : ∀ a i, a ≠ 168 → K' a i = K a i) : St I K' b n f e k := h.fr (fun _ => rfl) (fun _ _ => rfl) rfl (fun i _ _ => g _ _ (by omega)) (fun x => g _ _ (by omega))
theorem pk168 {K : Nat → Nat → Int32} {i : Nat} {v : Int32} : ∀ a j, a ≠ 168 → xu K 168 i v a j = K a j := fun a j h => xu_o (fun z => h z.1)
theorem SB_of {I K : Nat → Nat → Int32} {b : Nat → Nat} {n fo : Nat} {A : Prop} {B : Nat → Nat → Nat → Nat → Prop} (h : (Bd I K b n ∧ A) ∨ ∃ v f' e' k', B v f' e' k' ∧ St I K b n f' e' k' ∧ fo + 1 ≤ f') : SB I K b n fo := by
  rcases h with h | ⟨v, f', e', k', -, h1, h2⟩
  · exact Or.inl h.1
  · exact Or.inr ⟨f', e', k', h1, by omega⟩
theorem line_plot {P : Nat → Nat → Option Nat} (hP : GP P) {I K : Nat → Nat → Int32} (J : Nat → Nat → Int64) {b : Nat → Nat} {n f e k : Nat} {t : Txt} {c : Cst} {L : List Int32} (h : St I K b n f e k) (g : LB P J I K t c L) (hk : k ≠ 30) (hL : L.length ≤ f) :
    ∃ I' K', F_X7_readPlot 1 (mm P I J) = some (mm P I' J) ∧ F_X12_readPlot 164 (mm P K J) = some (mm P K' J) ∧ LnO P J b n I K I' K' f t := by
  have hw := g.1
  have hN := tN_le hw
  obtain ⟨p, hp⟩ : ∃ p, (tPlots t).length = p := ⟨_, rfl⟩
  have pl := hw.2.2.2.2.1.1
  have c5 : I 3 5 = nI p := by rw [← hp]; exact g.2.2.1.2.2.2.2.2.1
  have k4 : K 168 4 = nI p := by rw [← hp]; exact g.2.2.2.1.2.2.2.2.1
  by_cases p6 : p < 6
  · obtain ⟨I1, K1, f1, e1, k1, a1, a2, a3, a4, a5, a6, a7⟩ := advB hP J h g hk
    obtain ⟨r2, r2', I2, K2, b1, b2, b3, b4, b5, b6⟩ := SB_cell hP J hw (Or.inr ⟨f1, e1, k1, a5, Nat.le_refl _⟩) a6.2.2.1.1 a6.2.2.1.2.1 a6.2.2.2.1.2.1 a6.2.2.2.1.2.2.1 (bar := 0) (bar0 (by omega))
    have g2 : LB P J I2 (xu K2 168 (13 + 3 * p) r2') t c L := (a6.rq b3 b4).pk (fun i hi => xu_o (fun z => hi (by unfold freeI; omega)))
    have sb2 : SB I2 (xu K2 168 (13 + 3 * p) r2') b n f1 := SB.pk (K := K2) (by
      rcases b6 with b6 | ⟨v, f', e', k', -, -, -, -, s1, s2⟩
      · exact Or.inl b6.1
      · exact Or.inr ⟨f', e', k', s1, by omega⟩) pk168
    obtain ⟨r3, r3', I3a, I3, K3, d1, d2, d3, d4, d5, d6, d7⟩ := SB_named hP J sb2 (i := 8) (w := 7) (l := 1) (u := 9) 7 1 9 (by omega) rfl rfl rfl rfl (by omega) (by omega)
    have g3 : LB P J I3 (xu K3 168 (14 + 3 * p) r3') t c L := (g2.rq d4 d5).pk (fun i hi => xu_o (fun z => hi (by unfold freeI; omega)))
    have sb3 : SB I3 (xu K3 168 (14 + 3 * p) r3') b n f1 := SB.pk (K := K3) (by
      rcases d7 with d7 | ⟨v, f', e', k', -, -, -, -, s1, s2⟩
      · exact Or.inl d7.1
      · exact Or.inr ⟨f', e', k', s1, by omega⟩) pk168
    obtain ⟨r4, r4', I4a, I4, K4, j1, j2, j3, j4, j5, j6, j7⟩ := SB_named hP J sb3 (i := 9) (w := 8) (l := 0) (u := 9) 8 0 9 (by omega) rfl rfl rfl rfl (by omega) (by omega)
    have g4 : LB P J I4 (xu K4 168 (15 + 3 * p) r4') t c L := (g3.rq j4 j5).pk (fun i hi => xu_o (fun z => hi (by unfold freeI; omega)))
    have c1 : nI p < (6 : Int32) := nI_lt (b := 6) p6 (by omega)
    have c2 : ¬ nI p = (6 : Int32) := fun z => by have := (nI_eqI (b := 6) (by omega) (by omega)).mp z; omega
    have ix : (13 : Int32) + (3 : Int32) * nI p = nI (13 + 3 * p) := by rw [show (3 : Int32) = nI 3 from rfl, pk_mul]; exact nI_add 13 _
    have ix1 : nI (13 + 3 * p) + 1 = nI (14 + 3 * p) := by rw [nI_1]; congr 1; omega
    have ix2 : nI (13 + 3 * p) + (2 : Int32) = nI (15 + 3 * p) := by rw [show (2 : Int32) = nI 2 from rfl, nI_add]; congr 1; omega
    have h0 := h.2.2.2.1
    have fw : frW I I4 := ((a3.W.tr b3.W).tr d4.W).tr j4.W
    have fv : frV K (xu K4 168 (15 + 3 * p) r4') := (((((a4.V.tr b4.V).tr frV.pt).tr d5.V).tr frV.pt).tr j5.V).tr frV.pt
    rcases j7 with j7 | ⟨wo, f4, e4, k4'', rfl, rfl, v1, v2, s3, s4⟩
    · have bd := j7.1.pk (K' := xu K4 168 (15 + 3 * p) r4') pk168
      have q1 := bd.2.1
      have q2 : ¬ xu K4 168 (15 + 3 * p) r4' 164 11 = 0 := by rw [← bd.2.2.1]; exact q1
      refine ⟨I4, xu K4 168 (15 + 3 * p) r4', ?_, ?_, fw, fv, Or.inl bd⟩
      · unfold F_X7_readPlot
        simp (disch := omega) only [↓bOR hP, c5, c1, ↓reduceIte, ↓bs a1, ↓bs b1, ↓bs d1, ↓bs d2, ↓bs j1, ↓bs j2, q1]
      · unfold F_X12_readPlot F_X12_readPlot_28
        simp (disch := omega) only [↓bOM hP, ↓bAM, k4, ↓Option.bind_some, ix, ix1, ix2, c2, ↓reduceIte, h0, ↓bs a2, ↓bs b2, ↓bs d3, ↓bs j3, q2]
    · have st := s3.pk (K' := xu K4 168 (15 + 3 * p) (nI wo)) pk168
      have nb3 : ¬ Bd I3 (xu K3 168 (14 + 3 * p) r3') b n := fun z => (j6 z).no s3
      rcases d7 with d7 | ⟨mi, f3, e3, k3, rfl, rfl, m1, m2, -, -⟩
      · exact (nb3 (d7.1.pk pk168)).elim
      have nb2 : ¬ Bd I2 (xu K2 168 (13 + 3 * p) r2') b n := fun z => nb3 ((d6 z).pk pk168)
      rcases b6 with b6 | ⟨x, f2, e2, k2, rfl, rfl, x1, -, -, -⟩
      · exact (nb2 (b6.1.pk pk168)).elim
      have q1 := st.2.2.1
      have q2 := st.2.2.2.1
      have w1 : xu K4 168 (15 + 3 * p) (nI wo) 168 (13 + 3 * p) = nI x := by rw [xu_o (by omega), j5 _ _ (by omega), xu_o (by omega), d5 _ _ (by omega), xu_self]
      have w2 : xu K4 168 (15 + 3 * p) (nI wo) 168 (14 + 3 * p) = nI mi := by rw [xu_o (by omega), j5 _ _ (by omega), xu_self]
      have lb := LB_plot g4 hp p6 w1 w2 xu_self x1 m1 m2 v2
      have c5' : I4 3 5 = nI p := by rw [← hp]; exact g4.2.2.1.2.2.2.2.2.1
      have k4' : xu K4 168 (15 + 3 * p) (nI wo) 168 4 = nI p := by have z := g4.2.2.2.1.2.2.2.2.1; rw [hp] at z; exact z
      have c3 : ¬ (6 : Int32) ≤ nI p := nI_ge (b := 6) p6 (by omega)
      have y1 : ∀ v, xu I4 4 p v 3 5 = nI p := fun v => by rw [xu_o (by omega)]; exact c5'
      have y2 : ∀ v v', xu (xu I4 4 p v) 5 p v' 3 5 = nI p := fun v v' => by rw [xu_o (by omega)]; exact y1 v
      have y3 : ∀ v v' v'', xu (xu (xu I4 4 p v) 5 p v') 6 p v'' 3 5 = nI p := fun v v' v'' => by rw [xu_o (by omega)]; exact y2 v v'
      refine ⟨_, _, ?_, ?_, fw.tr ?_, fv.tr frV.pt, Or.inr ⟨f4, e4, k4'', _, c, L, ?_, lb, by omega, by omega, rfl⟩⟩
      · unfold F_X7_readPlot F_X3_addPlot
        simp (disch := omega) only [↓bOR hP, c5, c1, ↓reduceIte, ↓bs a1, ↓bs b1, ↓bs d1, ↓bs d2, ↓bs j1, ↓bs j2, q1, c5', c3, ↓bAR, y1, y2, y3, nI_1, ↓Option.bind_some]
      · unfold F_X12_readPlot F_X12_readPlot_28
        simp (disch := omega) only [↓bOM hP, ↓bAM, k4, ↓Option.bind_some, ix, ix1, ix2, c2, ↓reduceIte, h0, ↓bs a2, ↓bs b2, ↓bs d3, ↓bs j3, q2, k4', nI_1]
      · exact fun a i z => by rw [xu_o (by omega), xu_o (by omega), xu_o (by omega), xu_o (by omega)]
      · exact st.fr (fun y => by rw [xu_o (by omega), xu_o (by omega), xu_o (by omega), xu_o (by omega)]) (fun i hi => by rw [xu_o (by omega), xu_o (by omega), xu_o (by omega), xu_o (by omega)]) (by rw [xu_o (by omega), xu_o (by omega), xu_o (by omega), xu_o (by omega)]) (fun i i1 i2 => by rw [xu_o (by omega)]) (fun y => by rw [xu_o (by omega)])
  · have ep : p = 6 := by omega
    subst ep
    obtain ⟨I1, K1, a1, a2, a3, a4, a5⟩ := fail_St hP J h (w := 4) (by decide)
    have q2 : ¬ K1 164 11 = 0 := by rw [← a5.2.2.1]; exact a5.2.1
    have c1 : ¬ nI 6 < (6 : Int32) := by decide
    have c2 : nI 6 = (6 : Int32) := rfl
    refine ⟨I1, K1, ?_, ?_, a3.W, a4.V, Or.inl a5⟩
    · unfold F_X7_readPlot
      simp only [↓bOR hP, c5, c1, ↓reduceIte, ↓bs a1]
    · unfold F_X12_readPlot F_X12_readPlot_28
      simp only [↓bOM hP, ↓bAM, k4, ↓Option.bind_some, c2, ↓reduceIte, ↓bs a2, q2]
