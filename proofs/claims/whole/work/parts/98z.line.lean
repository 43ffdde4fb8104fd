/-! ===== a line ===== -/
theorem LnO_fail {P : Nat → Nat → Option Nat} {J : Nat → Nat → Int64} {b : Nat → Nat} {n : Nat} {I K I' K' : Nat → Nat → Int32} {f : Nat} {t : Txt} (r : frR I I') (q : frQ K K') (h : Bd I' K' b n) : LnO P J b n I K I' K' f t := ⟨r.W, q.V, Or.inl h⟩
theorem line_all {P : Nat → Nat → Option Nat} (hP : GP P) {I K : Nat → Nat → Int32} (J : Nat → Nat → Int64) {b : Nat → Nat} {n f e k : Nat} {t : Txt} {c : Cst} {L : List Int32} (h : St I K b n f e k) (g : LB P J I K t c L) (hk : k ≠ 30) (hL : L.length ≤ f) :
    ∃ I' K', F_X7_readLine 1 (mm P I J) = some (mm P I' J) ∧ F_X12_readLine 164 (mm P K J) = some (mm P K' J) ∧ LnO P J b n I K I' K' f t := by
  have h0 := h.2.2.2.1
  have kk9 := h.2.1.2.2.2.2.2.1
  have w4 := word_C hP (J := J) h.1 (i := 4) (j := 3) (by omega) rfl
  have m3 := is_M hP J h (w := 3) 3 rfl (by omega)
  have w5 := word_C hP (J := J) h.1 (i := 5) (j := 4) (by omega) rfl
  have m4 := is_M hP J h (w := 4) 4 rfl (by omega)
  have w7 := word_C hP (J := J) h.1 (i := 7) (j := 6) (by omega) rfl
  have m6 := is_M hP J h (w := 6) 6 rfl (by omega)
  have w10 := word_C hP (J := J) h.1 (i := 10) (j := 9) (by omega) rfl
  have m9 := is_M hP J h (w := 9) 9 rfl (by omega)
  have w11 := word_C hP (J := J) h.1 (i := 11) (j := 10) (by omega) rfl
  have m10 := is_M hP J h (w := 10) 10 rfl (by omega)
  have w12 := word_C hP (J := J) h.1 (i := 12) (j := 11) (by omega) rfl
  have w13 := word_C hP (J := J) h.1 (i := 13) (j := 12) (by omega) rfl
  have w14 := word_C hP (J := J) h.1 (i := 14) (j := 13) (by omega) rfl
  have m13 := is_M hP J h (w := 13) 13 rfl (by omega)
  have w27 := word_C hP (J := J) h.1 (i := 27) (j := 14) (by omega) rfl
  have m14 := is_M hP J h (w := 14) 14 rfl (by omega)
  by_cases k3 : k = 3
  · rw [if_pos k3] at w4 m3
    obtain ⟨I', K', a1, a2, a3⟩ := line_sand hP J h g hk hL
    refine ⟨I', K', ?_, ?_, a3⟩
    · unfold F_X7_readLine
      simp only [↓bOR hP, ↓bs w4, one_ne, ↓reduceIte, ↓bs a1]
    · unfold F_X12_readLine
      simp only [↓bOM hP, h0, ↓bs m3, one_ne, ↓reduceIte, ↓bs a2]
  rw [if_neg k3] at w4 m3
  by_cases k4 : k = 4
  · rw [if_pos k4] at w5 m4
    obtain ⟨I', K', a1, a2, a3⟩ := line_house hP J h g hk hL
    refine ⟨I', K', ?_, ?_, a3⟩
    · unfold F_X7_readLine
      simp only [↓bOR hP, ↓bs w4, ↓bs w5, one_ne, ↓reduceIte, ↓bs a1]
    · unfold F_X12_readLine
      simp only [↓bOM hP, h0, ↓bs m3, ↓bs m4, one_ne, ↓reduceIte, ↓bs a2]
  rw [if_neg k4] at w5 m4
  by_cases k6 : k = 6
  · rw [if_pos k6] at w7 m6
    obtain ⟨I', K', a1, a2, a3⟩ := line_plot hP J h g hk hL
    refine ⟨I', K', ?_, ?_, a3⟩
    · unfold F_X7_readLine
      simp only [↓bOR hP, ↓bs w4, ↓bs w5, ↓bs w7, one_ne, ↓reduceIte, ↓bs a1]
    · unfold F_X12_readLine
      simp only [↓bOM hP, h0, ↓bs m3, ↓bs m4, ↓bs m6, one_ne, ↓reduceIte, ↓bs a2]
  rw [if_neg k6] at w7 m6
  by_cases k9 : k = 9
  · rw [if_pos k9] at w10 m9
    obtain ⟨I', K', a1, a2, a3⟩ := line_paper hP J h g hk hL
    refine ⟨I', K', ?_, ?_, a3⟩
    · unfold F_X7_readLine
      simp only [↓bOR hP, ↓bs w4, ↓bs w5, ↓bs w7, ↓bs w10, one_ne, ↓reduceIte, ↓bs a1]
    · unfold F_X12_readLine
      simp only [↓bOM hP, h0, ↓bs m3, ↓bs m4, ↓bs m6, ↓bs m9, one_ne, ↓reduceIte, ↓bs a2]
  rw [if_neg k9] at w10 m9
  by_cases k10 : k = 10
  · rw [if_pos k10] at w11 m10
    obtain ⟨I', K', a1, a2, a3⟩ := line_owes hP J h g hk hL
    refine ⟨I', K', ?_, ?_, a3⟩
    · unfold F_X7_readLine
      simp only [↓bOR hP, ↓bs w4, ↓bs w5, ↓bs w7, ↓bs w10, ↓bs w11, one_ne, ↓reduceIte, ↓bs a1]
    · unfold F_X12_readLine
      simp only [↓bOM hP, h0, ↓bs m3, ↓bs m4, ↓bs m6, ↓bs m9, ↓bs m10, one_ne, ↓reduceIte, ↓bs a2]
  rw [if_neg k10] at w11 m10
  by_cases k11 : k = 11
  · rw [if_pos k11] at w12
    obtain ⟨I1, K1, r, r', I2, K2, a1, a2, a3, a4, a5⟩ := line_moon hP J h g hk hL
    have m11 := eats_yes hP J h (w := 11) 11 rfl (by omega) k11 a2
    refine ⟨_, _, ?_, ?_, a5⟩
    · unfold F_X7_readLine
      simp only [↓bOR hP, ↓bs w4, ↓bs w5, ↓bs w7, ↓bs w10, ↓bs w11, ↓bs w12, one_ne, ↓reduceIte, ↓bs a1, ↓bs a3]
    · unfold F_X12_readLine
      simp only [↓bOM hP, h0, ↓bs m3, ↓bs m4, ↓bs m6, ↓bs m9, ↓bs m10, ↓bs m11, one_ne, ↓reduceIte, ↓bs a4, ↓bAM]
  rw [if_neg k11] at w12
  have m11 := eats_no hP J h (w := 11) 11 rfl (by omega) k11
  by_cases k12 : k = 12
  · rw [if_pos k12] at w13
    obtain ⟨I1, K1, r, r', I2, K2, a1, a2, a3, a4, a5⟩ := line_gale hP J h g hk hL
    have m12 := eats_yes hP J h (w := 12) 12 rfl (by omega) k12 a2
    refine ⟨_, _, ?_, ?_, a5⟩
    · unfold F_X7_readLine
      simp only [↓bOR hP, ↓bs w4, ↓bs w5, ↓bs w7, ↓bs w10, ↓bs w11, ↓bs w12, ↓bs w13, one_ne, ↓reduceIte, ↓bs a1, ↓bs a3]
    · unfold F_X12_readLine
      simp only [↓bOM hP, h0, ↓bs m3, ↓bs m4, ↓bs m6, ↓bs m9, ↓bs m10, ↓bs m11, ↓bs m12, one_ne, ↓reduceIte, ↓bs a4, ↓bAM]
  rw [if_neg k12] at w13
  have m12 := eats_no hP J h (w := 12) 12 rfl (by omega) k12
  by_cases k13 : k = 13
  · rw [if_pos k13] at w14 m13
    obtain ⟨I', K', a1, a2, a3⟩ := line_tide hP J h g hk hL
    have kk : K 164 9 - (13 : Int32) = 0 := by rw [kk9, k13]; decide
    refine ⟨I', K', ?_, ?_, a3⟩
    · unfold F_X7_readLine
      simp only [↓bOR hP, ↓bs w4, ↓bs w5, ↓bs w7, ↓bs w10, ↓bs w11, ↓bs w12, ↓bs w13, ↓bs w14, one_ne, ↓reduceIte, ↓bs a1]
    · unfold F_X12_readLine F_X12_readLine_155
      simp only [↓bOM hP, h0, ↓bs m3, ↓bs m4, ↓bs m6, ↓bs m9, ↓bs m10, ↓bs m11, ↓bs m12, ↓bs m13, one_ne, ↓reduceIte, kk, ↓bs a2]
  rw [if_neg k13] at w14 m13
  by_cases k14 : k = 14
  · rw [if_pos k14] at w27 m14
    obtain ⟨I', K', a1, a2, a3⟩ := line_wash hP J h g hk hL
    have kk : K 164 9 - (13 : Int32) = 1 := by rw [kk9, k14]; decide
    refine ⟨I', K', ?_, ?_, a3⟩
    · unfold F_X7_readLine
      simp only [↓bOR hP, ↓bs w4, ↓bs w5, ↓bs w7, ↓bs w10, ↓bs w11, ↓bs w12, ↓bs w13, ↓bs w14, ↓bs w27, one_ne, ↓reduceIte, ↓bs a1]
    · unfold F_X12_readLine F_X12_readLine_155
      simp only [↓bOM hP, h0, ↓bs m3, ↓bs m4, ↓bs m6, ↓bs m9, ↓bs m10, ↓bs m11, ↓bs m12, ↓bs m13, ↓bs m14, one_ne, ↓reduceIte, kk, ↓bs a2]
  rw [if_neg k14] at w27 m14
  obtain ⟨I', K', a1, a2, a3, a4, a5⟩ := fail_St hP J h (w := 2) (by decide)
  refine ⟨I', K', ?_, ?_, LnO_fail a3 a4 a5⟩
  · unfold F_X7_readLine
    simp only [↓bOR hP, ↓bs w4, ↓bs w5, ↓bs w7, ↓bs w10, ↓bs w11, ↓bs w12, ↓bs w13, ↓bs w14, ↓bs w27, ↓reduceIte, ↓bs a1]
  · unfold F_X12_readLine
    simp only [↓bOM hP, h0, ↓bs m3, ↓bs m4, ↓bs m6, ↓bs m9, ↓bs m10, ↓bs m11, ↓bs m12, ↓bs m13, ↓bs m14, ↓reduceIte, ↓bs a2]
/-! ===== lines are counted ===== -/
def tSetLines (t : Txt) (v : Nat) : Txt := (t.1, t.2.1, v, t.2.2.2)
theorem LB_lines {P : Nat → Nat → Option Nat} {J : Nat → Nat → Int64} {I K : Nat → Nat → Int32} {t : Txt} {c : Cst} {L : List Int32} {v : Nat} (g : LB P J I K t c L) (hv : v ≤ 900) : LB P J (xu I 3 3 (nI v)) (xu K 168 0 (nI v)) (tSetLines t v) c L := by
  obtain ⟨h1, h2, h3, h4, h5, h6, ⟨l1, l2, l3⟩, h8, h9, h10, h11, h12⟩ := g
  have wp := h1.2.2.2.2.1.1
  have wq := h1.2.2.2.2.2.1.1
  have wd := h1.2.2.2.2.2.2.1.1
  have wh := h2.2.1.1
  have hN := tN_le h1
  have ck : ∀ i, ¬ i = 0 → xu K 168 0 (nI v) 168 i = K 168 i := fun i hi => xu_o (by omega)
  have cI : ∀ a i, ¬ (a = 3 ∧ i = 3) → xu I 3 3 (nI v) a i = I a i := fun a i hi => xu_o (by omega)
  refine ⟨?_, h2, ?_, ?_, ?_, CoastA_pk (t := t) h1 h2 (fun i hi => ck i (by omega)) h6, ⟨by rw [cI _ _ (by omega)]; exact l1, by rw [ck _ (by omega)]; exact l2, fun j o hj => by rw [cI _ _ (by omega), ck _ (by omega)]; exact l3 j o hj⟩, h8, by rw [cI _ _ (by omega)]; exact h9, ⟨fun z => by rw [ck _ (by omega)]; exact h10.1 z, fun z => by rw [ck _ (by omega)]; exact h10.2 z⟩, (fun i hi => by rw [ck _ (by omega)]; exact h11 i hi), h12⟩
  · obtain ⟨x1, x2, x3, x4⟩ := h1
    exact ⟨x1, x2, hv, x4⟩
  · obtain ⟨x0, x1, x2, x3, x4, x5, x6, x7, x8, x9, f1', e1', f2', e2', m', y1, y2, y3, y4, y5, y6, y7, y8, y9, y10⟩ := h3
    refine ⟨(cI _ _ (by omega)).trans x0, (cI _ _ (by omega)).trans x1, (cI _ _ (by omega)).trans x2, (show xu I 3 3 (nI v) 3 3 = nI v from xu_self), (cI _ _ (by omega)).trans x4, (cI _ _ (by omega)).trans x5, (cI _ _ (by omega)).trans x6, fun p' q hq => ?_, fun p' q hq => ?_, fun o ho => ?_, f1', e1', f2', e2', m', (cI _ _ (by omega)).trans y1, y2, (cI _ _ (by omega)).trans y3, (cI _ _ (by omega)).trans y4, (cI _ _ (by omega)).trans y5, (cI _ _ (by omega)).trans y6, y7, y8, codeAt_cg (fun i hi => cI 9 i (by omega)) y9, codeAt_cg (fun i hi => cI 9 i (by omega)) y10⟩
    · obtain ⟨u1, u2, u3⟩ := x7 p' q hq
      exact ⟨(cI _ _ (by omega)).trans u1, (cI _ _ (by omega)).trans u2, (cI _ _ (by omega)).trans u3⟩
    · obtain ⟨s', u1, u2, u3⟩ := x8 p' q hq
      exact ⟨s', u1, (cI _ _ (by omega)).trans u2, u3⟩
    · exact (congrArg Int32.toInt (cI 8 o (by omega))).trans (x9 o ho)
  · obtain ⟨x0, x1, x2, x3, x4, x5, x6, x7, x8, x9, x10, x11, x12, x13⟩ := h4
    refine ⟨(show xu K 168 0 (nI v) 168 0 = nI v from xu_self), (ck _ (by omega)).trans x1, (ck _ (by omega)).trans x2, (ck _ (by omega)).trans x3, (ck _ (by omega)).trans x4, (ck _ (by omega)).trans x5, (ck _ (by omega)).trans x6, fun p' q hq => ?_, fun p' q hq => ?_, fun p' q hq => ?_, (ck _ (by omega)).trans x10, (ck _ (by omega)).trans x11, fun hne => ?_, fun hne => ?_⟩
    · obtain ⟨u1, u2, u3⟩ := x7 p' q hq
      exact ⟨(ck _ (by omega)).trans u1, (ck _ (by omega)).trans u2, (ck _ (by omega)).trans u3⟩
    · obtain ⟨u1, u2⟩ := x8 p' q hq
      exact ⟨(ck _ (by omega)).trans u1, (ck _ (by omega)).trans u2⟩
    · obtain ⟨u1, u2, u3⟩ := x9 p' q hq
      exact ⟨(ck _ (by omega)).trans u1, (ck _ (by omega)).trans u2, (ck _ (by omega)).trans u3⟩
    · obtain ⟨ff, ee, u1, u2, u3, u4⟩ := x12 hne
      exact ⟨ff, ee, (ck _ (by omega)).trans u1, (ck _ (by omega)).trans u2, u3, codeAt_cg (fun i hi => ck _ (by omega)) u4⟩
    · obtain ⟨ff, ee, u1, u2, u3, u4⟩ := x13 hne
      exact ⟨ff, ee, (ck _ (by omega)).trans u1, (ck _ (by omega)).trans u2, u3, codeAt_cg (fun i hi => ck _ (by omega)) u4⟩
  · obtain ⟨y1, y2, y3, y4, y5, y6⟩ := h5
    exact ⟨fun i hi => by rw [cI _ _ (by omega)]; exact y1 i hi, by rw [cI _ _ (by omega)]; exact y2, fun hh q hq => by rw [cI _ _ (by omega), cI _ _ (by omega)]; exact y3 hh q hq, by rw [cI _ _ (by omega)]; exact y4, by rw [cI _ _ (by omega)]; exact y5, by rw [cI _ _ (by omega)]; exact y6⟩
/-! ===== the end of the text, in the model ===== -/
theorem s161_Bd {P : Nat → Nat → Option Nat} (hP : GP P) {K : Nat → Nat → Int32} (J : Nat → Nat → Int64) (h : ¬ K 164 11 = 0) : F_X12_shore_161 164 (mm P K J) = some ((-30 : Int32) - K 164 11, mm P (xu (xu K 164 13 (K 164 11)) 164 14 (K 164 12)) J) := by
  have e1 : ∀ v, xu K 164 13 v 164 11 = K 164 11 := fun v => xu_o (by omega)
  have e2 : ∀ v, xu K 164 13 v 164 12 = K 164 12 := fun v => xu_o (by omega)
  have e3 : ∀ v v', xu (xu K 164 13 v) 164 14 v' 164 11 = K 164 11 := fun v v' => by rw [xu_o (by omega), xu_o (by omega)]
  unfold F_X12_shore_161 F_X12_shore_185
  simp only [↓bOM hP, e1, e2, e3, h, ↓reduceIte]
theorem s161_ok {P : Nat → Nat → Option Nat} (hP : GP P) {K : Nat → Nat → Int32} (J : Nat → Nat → Int64) (h : K 164 11 = 0) :
    ∃ K', F_X12_shore_161 164 (mm P K J) = some (K 168 0, mm P K' J) ∧ (∀ a i, a ≠ 165 → ¬ (a = 164 ∧ (i = 13 ∨ i = 14)) → K' a i = K a i) ∧ K' 164 13 = 0 ∧ K' 164 14 = -1 ∧ (∀ i, i < 1420 → K' 165 i = K 168 i) ∧ ∀ i, 1420 ≤ i → K' 165 i = K 165 i := by
  obtain ⟨K0, hK0⟩ : ∃ K0, K0 = xu (xu K 164 13 0) 164 14 (-1) := ⟨_, rfl⟩
  have f0 : ∀ a i, ¬ (a = 164 ∧ (i = 13 ∨ i = 14)) → K0 a i = K a i := fun a i z => by rw [hK0, xu_o (by omega), xu_o (by omega)]
  have c13 : K0 164 13 = 0 := by rw [hK0, xu_o (by omega), xu_self]
  have c14 : K0 164 14 = -1 := by rw [hK0, xu_self]
  have key : ∃ r : Int32 × xM, xit (F_X12_shore_205b 164) xFU (nI 0, mm P K0 J) = some r ∧ (∃ K', r = (K 168 0, mm P K' J) ∧ (∀ a i, a ≠ 165 → K' a i = K0 a i) ∧ (∀ i, i < 1420 → K' 165 i = K 168 i) ∧ ∀ i, 1420 ≤ i → K' 165 i = K 165 i) := by
    refine xit_inv (fun j z => ∃ K', z = (nI j, mm P K' J) ∧ (∀ a i, a ≠ 165 → K' a i = K0 a i) ∧ (∀ i, i < j → K' 165 i = K 168 i) ∧ ∀ i, j ≤ i → K' 165 i = K 165 i) _ 1420 ⟨K0, rfl, fun _ _ _ => rfl, fun i hi => by omega, fun i _ => f0 _ _ (by omega)⟩ (fun j z hj hz => ?_) (fun z hz => ?_) (by omega)
    · obtain ⟨K1, rfl, g1, g2, g3⟩ := hz
      left
      have c1 : ¬ (1420 : Int32) ≤ nI j := nI_ge (b := 1420) hj (by omega)
      have e1 : K1 168 j = K 168 j := by rw [g1 _ _ (by omega)]; exact f0 _ _ (by omega)
      refine ⟨(nI (j + 1), mm P (xu K1 165 j (K 168 j)) J), ?_, _, rfl, fun a i z => by rw [xu_o (by omega)]; exact g1 a i z, fun i hi => ?_, fun i hi => by rw [xu_o (by omega)]; exact g3 i (by omega)⟩
      · unfold F_X12_shore_205b
        simp (disch := omega) only [c1, ↓reduceIte, ↓bOM hP, ↓bAM, e1, nI_1]
      · by_cases ei : i = j
        · rw [ei, xu_self]
        · rw [xu_o (by omega)]; exact g2 i (by omega)
    · obtain ⟨K1, rfl, g1, g2, g3⟩ := hz
      have c1 : (1420 : Int32) ≤ nI 1420 := by decide
      have e0 : K1 165 0 = K 168 0 := g2 0 (by omega)
      refine ⟨(K 168 0, mm P K1 J), ?_, K1, rfl, g1, g2, g3⟩
      unfold F_X12_shore_205b F_X12_shore_230
      simp only [c1, ↓reduceIte, ↓bOM hP, ↓bAM, e0, Option.map_some]
  obtain ⟨r, k1, K', rfl, k2, k3, k4⟩ := key
  refine ⟨K', ?_, fun a i z1 z2 => (k2 a i z1).trans (f0 a i z2), (k2 _ _ (by omega)).trans c13, (k2 _ _ (by omega)).trans c14, k3, k4⟩
  have e1 : ∀ v, xu K 164 13 v 164 11 = 0 := fun v => by rw [xu_o (by omega)]; exact h
  have e3 : ∀ v v', xu (xu K 164 13 v) 164 14 v' 164 11 = 0 := fun v v' => by rw [xu_o (by omega)]; exact e1 v
  unfold F_X12_shore_161 F_X12_shore_185
  simp only [↓bOM hP, e1, e3, h, ↓reduceIte]
  rw [← hK0]
  exact k1
/-- the end, in both -/
def EndS (P : Nat → Nat → Option Nat) (J : Nat → Nat → Int64) (b : Nat → Nat) (n : Nat) (I K I' : Nat → Nat → Int32) (r : Int32) (q : Int32 × xM) : Prop :=
  ∃ K1 K', frW I I' ∧ frV K K1 ∧ (∃ m, m ≤ 900 ∧ I' 3 7 = nI m) ∧
    ((r = 0 ∧ Bd I' K1 b n ∧ q = ((-30 : Int32) - K1 164 11, mm P K' J) ∧ K' = xu (xu K1 164 13 (K1 164 11)) 164 14 (K1 164 12)) ∨
     (r = 1 ∧ (∃ f e k t c L, St I' K1 b n f e k ∧ LB P J I' K1 t c L) ∧ q = (K1 168 0, mm P K' J) ∧ (∀ a i, a ≠ 165 → ¬ (a = 164 ∧ (i = 13 ∨ i = 14)) → K' a i = K1 a i) ∧ K' 164 13 = 0 ∧ K' 164 14 = -1 ∧ (∀ i, i < 1420 → K' 165 i = K1 168 i) ∧ ∀ i, 1420 ≤ i → K' 165 i = K1 165 i))
theorem lines_loop {P : Nat → Nat → Option Nat} (hP : GP P) {I K : Nat → Nat → Int32} (J : Nat → Nat → Int64) {b : Nat → Nat} {n : Nat} (h : Bd I K b n ∨ ∃ f e k t c L, St I K b n f e k ∧ LB P J I K t c L ∧ L.length ≤ f ∧ tLines t ≤ f) :
    ∃ r I' q, F_X7_reads_61 1 0 (mm P I J) = some (r, mm P I' J) ∧ F_X12_shore_134 164 (mm P K J) = some q ∧ EndS P J b n I K I' r q := by
  have stop : ∀ {I1 K1 : Nat → Nat → Int32} (j : Nat), frW I I1 → frV K K1 → (Bd I1 K1 b n ∨ ∃ f e t c L, St I1 K1 b n f e 30 ∧ LB P J I1 K1 t c L) → ∃ r r', F_X7_reads_61b 1 (nI j, mm P I1 J) = some (.inr r) ∧ F_X12_shore_134b 164 (mm P K1 J) = some (.inr r') ∧ ∃ v I', r = (v, mm P I' J) ∧ EndS P J b n I K I' v r' := by
    intro I1 K1 j fw fv hb
    rcases hb with bd | ⟨f, e, t, c, L, st, lb⟩
    · have q1 := bd.2.1
      have q2 : ¬ K1 164 11 = 0 := by rw [← bd.2.2.1]; exact q1
      have s := s161_Bd hP J q2
      refine ⟨(0, mm P I1 J), _, ?_, ?_, 0, I1, rfl, K1, _, fw, fv, bd.2.2.2.2, Or.inl ⟨rfl, bd, rfl, rfl⟩⟩
      · unfold F_X7_reads_61b F_X7_reads_111
        by_cases c1 : (900 : Int32) ≤ nI j
        · simp only [c1, ↓reduceIte, ↓bOR hP, q1, xz0, Option.bind_some, Option.map_some]
        · simp only [c1, ↓reduceIte, ↓bOR hP, q1, xz0, Option.bind_some, Option.map_some]
      · unfold F_X12_shore_134b
        simp only [↓bOM hP, q2, ↓reduceIte, s, Option.map_some]
    · have q1 := st.2.2.1
      have q2 := st.2.2.2.1
      have c8 : I1 1 8 = (0 : Int32) := st.1.2.2.2.2.2
      have k9 : K1 164 9 = (30 : Int32) := st.2.1.2.2.2.2.2.1
      obtain ⟨K', s1, s2⟩ := s161_ok hP J q2
      obtain ⟨m, m1, m2, -⟩ := st.2.2.2.2
      refine ⟨(1, mm P I1 J), _, ?_, ?_, 1, I1, rfl, K1, K', fw, fv, ⟨m, m1, m2⟩, Or.inr ⟨rfl, ⟨f, e, 30, t, c, L, st, lb⟩, rfl, s2⟩⟩
      · unfold F_X7_reads_61b F_X7_reads_111
        by_cases c1 : (900 : Int32) ≤ nI j
        · simp only [c1, ↓reduceIte, ↓bOR hP, q1, xz1, Option.bind_some, Option.map_some]
        · simp only [c1, ↓reduceIte, ↓bOR hP, q1, c8, xz1, Option.bind_some, Option.map_some]
      · unfold F_X12_shore_134b
        simp only [↓bOM hP, q2, ↓reduceIte, k9, s1, Option.map_some]
  have key := xit_sim (f := F_X7_reads_61b 1) (g := F_X12_shore_134b 164) (fun j z z' => ∃ I1 K1, z = (nI j, mm P I1 J) ∧ z' = mm P K1 J ∧ frW I I1 ∧ frV K K1 ∧ (Bd I1 K1 b n ∨ ∃ f e k t c L, St I1 K1 b n f e k ∧ LB P J I1 K1 t c L ∧ L.length ≤ f ∧ tLines t ≤ f ∧ j ≤ f)) (fun r r' => ∃ v I', r = (v, mm P I' J) ∧ EndS P J b n I K I' v r') 900 (fun j s s' hq => ?_) (by omega) (s0 := (nI 0, mm P I J)) (s0' := mm P K J) ⟨I, K, rfl, rfl, frW.rf, frV.rf, ?_⟩
  · obtain ⟨r, r', k1, k2, v, I', rfl, k3⟩ := key
    exact ⟨v, I', r', k1, k2, k3⟩
  · obtain ⟨I1, K1, rfl, rfl, fw, fv, hb⟩ := hq
    rcases hb with bd | ⟨f, e, k, t, c, L, st, lb, g1, g2, g3⟩
    · exact Or.inr (stop j fw fv (Or.inl bd))
    · by_cases k30 : k = 30
      · subst k30
        exact Or.inr (stop j fw fv (Or.inr ⟨f, e, t, c, L, st, lb⟩))
      · left
        have ps := st.pos
        have fe := ps.2.2.2.2.1 k30
        have q1 := st.2.2.1
        have q2 := st.2.2.2.1
        have c8 : ¬ I1 1 8 = (0 : Int32) := by
          rw [st.1.2.2.2.2.2]
          intro z
          have := (nI_eqI (b := 0) (by have := clsK_lt k; omega) (by omega)).mp z
          unfold clsK at this
          rw [if_neg k30] at this
          split at this
          · omega
          · split at this
            · omega
            · split at this <;> omega
        have k9 : ¬ K1 164 9 = (30 : Int32) := by
          rw [st.2.1.2.2.2.2.2.1]
          exact fun z => k30 ((nI_eqI (b := 30) (by omega) (by omega)).mp z)
        obtain ⟨I2, K2, a1, a2, a3, a4, a5⟩ := line_all hP J st lb k30 g1
        have c0 : ¬ (900 : Int32) ≤ nI j := nI_ge (b := 900) (by omega) (by omega)
        -- the sign behind the line
        have sg : ∃ I3 K3, F_X7_expectSign 1 59 (mm P I2 J) = some (mm P I3 J) ∧ (∀ X : xM → Option xM, ((F_X12_eats 164 32 (mm P K2 J)).bind fun t => if t.1 = 0 then (xck t.2 164 12).bind fun _ => (F_X12_fails 164 2 t.2).bind fun t8 => X t8 else X t.2) = X (mm P K3 J)) ∧ frR I2 I3 ∧ frQ K2 K3 ∧ (Bd I3 K3 b n ∨ ∃ f' e' k' t' c' L', St I3 K3 b n f' e' k' ∧ LB P J I3 K3 t' c' L' ∧ L'.length ≤ f' ∧ f + 1 ≤ f' ∧ tLines t' = tLines t) := by
          rcases a5 with bd | ⟨f', e', k', t', c', L', s1, s2, s3, s4, s5⟩
          · refine ⟨I2, K2, exS_Bd hP J bd 59, fun X => ?_, frR.rf, frQ.rf, Or.inl bd⟩
            simp only [↓bs (eats_Bd hP J bd 32), ↓reduceIte, ↓bOM hP, ↓bs (fails_Bd hP J bd 2).2]
          · rcases exS_St hP J s1 (s := 59) (w := 32) 0 (by omega) (by decide +kernel) rfl with ⟨-, I3, K3, f3, e3, k3, b1, b2, b3, b4, b5, b6⟩ | ⟨I3, K3, b1, b2, b3, b4, b5, b6⟩
            · refine ⟨I3, K3, b1, fun X => ?_, b3, b4, Or.inr ⟨f3, e3, k3, t', c', L', b5, s2.rq b3 b4, by omega, by omega, s5⟩⟩
              simp only [↓bs b2, one_ne, ↓reduceIte]
            · refine ⟨I3, K3, b1, fun X => ?_, b4, b5, Or.inl b6⟩
              simp only [↓bs b2, ↓reduceIte, ↓bOM hP, ↓bs b3]
        obtain ⟨I3, K3, b1, b2, b3, b4, b5⟩ := sg
        refine ⟨by omega, (nI (j + 1), mm P (xu I3 3 3 (I3 3 3 + 1)) J), mm P (xu K3 168 0 (K3 168 0 + 1)) J, ?_, ?_, _, _, rfl, rfl, ((fw.tr a3).tr b3.W).tr (frW.pt (by omega)), ((fv.tr a4).tr b4.V).tr frV.pt, ?_⟩
        · unfold F_X7_reads_61b
          simp only [c0, ↓reduceIte, ↓bOR hP, q1, c8, ↓bs a1, ↓bs b1, nI_1]
        · have cl : F_X12_closes 164 (mm P K2 J) = some (mm P (xu K3 168 0 (K3 168 0 + 1)) J) := by
            unfold F_X12_closes
            simp only [↓bOM hP]
            refine (b2 (F_X12_closes_14 164)).trans ?_
            unfold F_X12_closes_14
            simp only [↓bOM hP, ↓bAM]
          unfold F_X12_shore_134b
          simp only [↓bOM hP, q2, ↓reduceIte, k9, ↓bs a2, ↓bs cl]
        · rcases b5 with bd | ⟨f', e', k', t', c', L', s1, s2, s3, s4, s5⟩
          · exact Or.inl (bd.fr (fun x => by rw [xu_o (by omega)]) (fun i hi => by rw [xu_o (by omega)]) (by rw [xu_o (by omega)]) (by rw [xu_o (by omega)]) (by rw [xu_o (by omega)]))
          · have ps' := s1.pos
            have i33 : I3 3 3 = nI (tLines t') := s2.2.2.1.2.2.2.1
            have k0 : K3 168 0 = nI (tLines t') := s2.2.2.2.1.1
            have e1 : nI (tLines t') + 1 = nI (tLines t' + 1) := nI_1 _
            rw [i33, k0, e1]
            exact Or.inr ⟨f', e', k', tSetLines t' (tLines t' + 1), c', L', s1.fr (fun x => by rw [xu_o (by omega)]) (fun i hi => by rw [xu_o (by omega)]) (by rw [xu_o (by omega)]) (fun i i1 i2 => by rw [xu_o (by omega)]) (fun x => by rw [xu_o (by omega)]), LB_lines s2 (by omega), by omega, by show tLines t' + 1 ≤ f'; omega, by omega⟩
  · rcases h with bd | ⟨f, e, k, t, c, L, s1, s2, s3, s4⟩
    · exact Or.inl bd
    · exact Or.inr ⟨f, e, k, t, c, L, s1, s2, s3, s4, by omega⟩
