/-! ===== houses ===== -/
theorem held_up {c : Cst} {x h : Nat} (hh : heldN c x h = true) : ∀ d, heldN c x (h + d) = true
  | 0 => hh
  | d + 1 => by
    have ih := held_up hh d
    show (heldN c x (h + d) || _) = true
    rw [ih]
    rfl
theorem held_lt {t : Txt} {c : Cst} {n x : Nat} (hc : wfC t c n) : ∀ h, h ≤ (cHouses c).length → heldN c x h = true → x < tN t
  | 0, _, z => by cases z
  | h + 1, hl, z => by
    have z' : (heldN c x h || ((cStand c).testBit h && decide (cellH c h = x))) = true := z
    rcases Bool.or_eq_true_iff.mp z' with z1 | z1
    · exact held_lt hc h (by omega) z1
    · have z2 := of_decide_eq_true (Bool.and_eq_true_iff.mp z1).2
      rw [← z2]
      exact cellH_lt hc (by omega)
theorem isBuilt_M {P : Nat → Nat → Option Nat} (hP : GP P) {K : Nat → Nat → Int32} {J : Nat → Nat → Int64} {t : Txt} {c : Cst} {n v : Nat} (hw : wfT t) (hc : wfC t c n) (hD : CoastA (K 168) 67 t c) (al : ∀ h, h < (cHouses c).length → (cStand c).testBit h = true) (hv : v < 2 ^ 31) : F_X12_isBuiltOn 164 (nI v) (mm P K J) = some (if heldN c v (cHouses c).length then 1 else 0, mm P K J) := by
  have hl := hc.2.1.1
  have hN := tN_le hw
  obtain ⟨-, b1', b2, -⟩ := hD
  have b1 : K 168 92 = nI (cHouses c).length := b1'
  have key : ∃ r : Int32 × xM, xit (F_X12_isBuiltOn_2b 164 (nI v)) xFU (nI 0, mm P K J) = some r ∧ r = (if heldN c v (cHouses c).length then 1 else 0, mm P K J) := by
    refine xit_inv (fun j z => z = (nI j, mm P K J) ∧ heldN c v j = false) _ (cHouses c).length ⟨rfl, rfl⟩ (fun j z hj hz => ?_) (fun z hz => ?_) (by omega)
    · obtain ⟨rfl, g1⟩ := hz
      obtain ⟨q, hq, hcell⟩ := house_at hj
      have bo : K 168 (93 + 2 * j) = nI (cellH c j) := by rw [hcell]; exact (b2 j q hq).1
      have cl := cellH_lt hc hj
      have c1 : ¬ nI (cHouses c).length ≤ nI j := nI_ge hj (by omega)
      have ix : (93 : Int32) + (2 : Int32) * nI j = nI (93 + 2 * j) := by rw [show (2 : Int32) = nI 2 from rfl, pk_mul]; exact nI_add 93 _
      have ce : nI (cellH c j) = nI v ↔ cellH c j = v := nI_eqI (by omega) hv
      have hs : heldN c v (j + 1) = (heldN c v j || ((cStand c).testBit j && decide (cellH c j = v))) := rfl
      by_cases h1 : cellH c j = v
      · right
        have d1 := ce.mpr h1
        refine ⟨(1, mm P K J), ?_, ?_⟩
        · simp (disch := omega) only [F_X12_isBuiltOn_2b, F_X12_isBuiltOn_28, ↓bOM hP, ↓bAM, b1, c1, ↓reduceIte, ix, bo, d1, xz1, Option.bind_some, Option.map_some]
        · have e := held_up (c := c) (x := v) (h := j + 1) (by rw [hs, al j hj, decide_eq_true h1]; cases heldN c v j <;> rfl) ((cHouses c).length - (j + 1))
          rw [show j + 1 + ((cHouses c).length - (j + 1)) = (cHouses c).length by omega] at e
          rw [e]
          rfl
      · left
        have d1 : ¬ nI (cellH c j) = nI v := fun z => h1 (ce.mp z)
        refine ⟨(nI (j + 1), mm P K J), ?_, rfl, by rw [hs, g1, decide_eq_false h1, Bool.and_false]; rfl⟩
        simp (disch := omega) only [F_X12_isBuiltOn_2b, ↓bOM hP, ↓bAM, b1, c1, ↓reduceIte, ix, bo, d1, nI_1]
    · obtain ⟨rfl, g1⟩ := hz
      have c1 : nI (cHouses c).length ≤ nI (cHouses c).length := nI_le (Nat.le_refl _) (by omega)
      refine ⟨(0, mm P K J), ?_, by rw [g1]; rfl⟩
      simp only [F_X12_isBuiltOn_2b, F_X12_isBuiltOn_36, ↓bOM hP, ↓bAM, b1, c1, ↓reduceIte, xz0, Option.bind_some, Option.map_some]
  obtain ⟨r, k1, rfl⟩ := key
  exact k1
theorem LB_house {P : Nat → Nat → Option Nat} {J : Nat → Nat → Int64} {I I' K : Nat → Nat → Int32} {t : Txt} {c : Cst} {L : List Int32} {h x o : Nat} (g : LB P J I K t c L) (hh : (cHouses c).length = h) (h6 : h < 6) (q1 : K 168 (93 + 2 * h) = nI x) (q2 : K 168 (94 + 2 * h) = nI o) (hx : x < tN t) (ho : o < 5) (fr : ∀ y i, ¬ (10 ≤ y ∧ y ≤ 10 + 3) → I' y i = I y i) (co : CoI I' 10 t (cBuild c x o)) :
    LB P J I' (xu K 168 92 (nI (h + 1))) t (cBuild c x o) L := by
  obtain ⟨h1, h2, h3, h4, h5, h6', ⟨l1, l2, l3⟩, h8, h9, h10, h11, h12⟩ := g
  have wp := h1.2.2.2.2.1.1
  have wq := h1.2.2.2.2.2.1.1
  have wd := h1.2.2.2.2.2.2.1.1
  have hN := tN_le h1
  have ck : ∀ i, ¬ i = 92 → xu K 168 92 (nI (h + 1)) 168 i = K 168 i := fun i hi => xu_o (by omega)
  have bits : ∀ j, j < h + 1 → (cStand c ||| 2 ^ (cHouses c).length).testBit j = true := fun j hj => by
    rw [Nat.testBit_or, hh]
    by_cases e : j = h
    · rw [e, two_bit.mpr rfl, Bool.or_true]
    · rw [h12 j (by omega), Bool.true_or]
  have len : (cHouses c ++ [(x, o)]).length = h + 1 := by rw [List.length_append, hh]; rfl
  refine ⟨h1, build_wf h2 (Nat.le_refl _) hx ho (by omega), LandC_cg (M := mm P I J) (fun j hj => funext fun i => fr _ i (by omega)) h3, LandA_pk h1 h8 h10 (fun i hi => ck i (by omega)) h4, co, ?_, ⟨by rw [fr _ _ (by omega)]; exact l1, by rw [ck _ (by omega)]; exact l2, fun j o hj => by rw [fr _ _ (by omega), ck _ (by omega)]; exact l3 j o hj⟩, h8, by rw [fr _ _ (by omega)]; exact h9, ⟨fun z => by rw [ck _ (by omega)]; exact h10.1 z, fun z => by rw [ck _ (by omega)]; exact h10.2 z⟩, (fun i hi => by rw [ck _ (by omega)]; exact h11 i hi), fun j hj => ?_⟩
  · obtain ⟨y1, y2, y3, -, y5, y6⟩ := h6'
    refine ⟨fun i hi => (ck _ (by omega)).trans (y1 i hi), ?_, fun j q hq => ?_, ⟨0, by omega, (ck _ (by omega)).trans (h11 105 (by omega)), fun j hj => ?_⟩, (ck _ (by omega)).trans y5, (ck _ (by omega)).trans y6⟩
    · show xu K 168 92 (nI (h + 1)) 168 92 = nI (cHouses c ++ [(x, o)]).length
      rw [xu_self, len]
    · rcases get_snoc (show (cHouses c ++ [(x, o)])[j]? = some q from hq) with ⟨z1, z2⟩ | ⟨z1, z2⟩
      · obtain ⟨u1, u2⟩ := y3 j q z2
        exact ⟨(ck _ (by omega)).trans u1, (ck _ (by omega)).trans u2⟩
      · rw [← z2, z1, hh]
        exact ⟨(ck _ (by omega)).trans q1, (ck _ (by omega)).trans q2⟩
    · have hj' : j < (cHouses c ++ [(x, o)]).length := hj
      rw [Nat.zero_testBit]
      show false = !(cStand c ||| 2 ^ (cHouses c).length).testBit j
      rw [bits j (by omega)]
      rfl
  · have hj' : j < (cHouses c ++ [(x, o)]).length := hj
    exact bits j (by omega)
theorem line_house {P : Nat → Nat → Option Nat} (hP : GP P) {I K : Nat → Nat → Int32} (J : Nat → Nat → Int64) {b : Nat → Nat} {n f e k : Nat} {t : Txt} {c : Cst} {L : List Int32} (h : St I K b n f e k) (g : LB P J I K t c L) (hk : k ≠ 30) (hL : L.length ≤ f) :
    ∃ I' K', F_X7_readHouse 1 (mm P I J) = some (mm P I' J) ∧ F_X12_readHouse 164 (mm P K J) = some (mm P K' J) ∧ LnO P J b n I K I' K' f t := by
  have hw := g.1
  have hc := g.2.1
  have hN := tN_le hw
  have al := g.2.2.2.2.2.2.2.2.2.2.2
  obtain ⟨p, hp⟩ : ∃ p, (cHouses c).length = p := ⟨_, rfl⟩
  have pl := hc.2.1.1
  have c3 : I 10 3 = nI p := by rw [← hp]; exact g.2.2.2.2.1.2.1
  have k92 : K 168 92 = nI p := by rw [← hp]; exact g.2.2.2.2.2.1.2.1
  have h0 := h.2.2.2.1
  by_cases p6 : p < 6
  · obtain ⟨I1, K1, f1, e1, k1, a1, a2, a3, a4, a5, a6, a7⟩ := advB hP J h g hk
    have bc := built_C hP (I := I1) (J := J) (k := 10) (by decide) hw hc a6.2.2.2.2.1
    have bl := built_lt hw hc (cHouses c).length (Nat.le_refl _)
    obtain ⟨m, hm⟩ : ∃ m, builtN c (cHouses c).length = m := ⟨_, rfl⟩
    rw [hm] at bc bl
    have bbit : ∀ x, m.testBit x = heldN c x (cHouses c).length := fun x => by rw [← hm]; exact built_bit c x _
    have r0 : I1 3 0 = nI (tR t) := a6.2.2.1.1
    have r1 : I1 3 1 = nI (tW t) := a6.2.2.1.2.1
    have m0 : K1 168 1 = nI (tR t) := a6.2.2.2.1.2.1
    have m1 : K1 168 2 = nI (tW t) := a6.2.2.2.1.2.2.1
    have c1 : nI p < (6 : Int32) := nI_lt (b := 6) p6 (by omega)
    have c2 : ¬ nI p = (6 : Int32) := fun z => by have := (nI_eqI (b := 6) (by omega) (by omega)).mp z; omega
    have ix : (93 : Int32) + (2 : Int32) * nI p = nI (93 + 2 * p) := by rw [show (2 : Int32) = nI 2 from rfl, pk_mul]; exact nI_add 93 _
    have ix1 : nI (93 + 2 * p) + 1 = nI (94 + 2 * p) := by rw [nI_1]; congr 1; omega
    -- the cell
    have first : ∃ r r' I2 K2m K2, F_X7_expectCell 1 (nI m) (mm P I1 J) = some (r, mm P I2 J) ∧ F_X12_readHouse_19 164 (nI p) (mm P K J) = F_X12_readHouse_56 164 (nI p) (mm P K2m J) ∧ F_X12_takesCell 164 (mm P K2m J) = some (r', mm P K2 J) ∧ frR I1 I2 ∧ frQ K1 K2 ∧ (Bd I2 K2 b n ∨ ∃ v f' e' k', r = nI v ∧ r' = nI v ∧ v < tN t ∧ heldN c v (cHouses c).length = false ∧ St I2 K2 b n f' e' k' ∧ f1 + 1 ≤ f') := by
      have opn : ∀ K3m, (∀ X : xM → Option xM, ((F_X12_is 164 29 (mm P K1 J)).bind fun t9 => if t9.1 = 0 then X t9.2 else (xgI t9.2 164 12 10).bind fun t10 => (xck t9.2 164 12).bind fun _ => (F_X12_isBuiltOn 164 t10 t9.2).bind fun t12 => if t12.1 = 0 then X t12.2 else (xck t12.2 164 12).bind fun _ => (F_X12_fails 164 3 t12.2).bind fun t14 => X t14) = X (mm P K3m J)) → F_X12_readHouse_19 164 (nI p) (mm P K J) = F_X12_readHouse_56 164 (nI p) (mm P K3m J) := fun K3m hX => by
        unfold F_X12_readHouse_19
        simp only [↓bOM hP, h0, ↓reduceIte, ↓bs a2]
        exact hX (F_X12_readHouse_56 164 (nI p))
      have e1' : nI (tR t) * nI (tW t) = nI (tN t) := pk_mul _ _
      have e2' : nI (tN t) - 1 = nI (tN t - 1) := pk_sub (b := 1) (by omega)
      have i29 := is_M hP J a5 (w := 29) 29 rfl (by omega)
      by_cases br : k1 = 29 ∧ heldN c (numF b f1 (e1 - f1)) (cHouses c).length = true
      · obtain ⟨rfl, br⟩ := br
        have vl := held_lt hc _ (Nat.le_refl _) br
        have bt := bitN (s := m) (c := numF b f1 (e1 - f1)) (by omega) (by omega)
        rw [bbit, br, if_pos rfl] at bt
        obtain ⟨I2, K2, y1, y2, y3, y4, y5⟩ := exBar hP J a5 (l := 0) (u := nI (tN t - 1)) (bar := nI m) 0 (tN t - 1) rfl rfl (by omega) (by omega) (by omega) (by omega) (by rw [bt]; decide)
        obtain ⟨-, y6⟩ := exN_Bd hP J y5 0 (nI (tN t - 1)) 0
        rw [if_pos rfl] at i29
        have k10 := a5.2.1.2.2.2.2.2.2 rfl
        have ib := isBuilt_M hP (J := J) (v := numF b f1 (e1 - f1)) hw hc a6.2.2.2.2.2.1 al (by omega)
        rw [br, if_pos rfl] at ib
        have m0' : K2 168 1 = nI (tR t) := by rw [y4 _ _ (by omega)]; exact m0
        have m1' : K2 168 2 = nI (tW t) := by rw [y4 _ _ (by omega)]; exact m1
        refine ⟨0, K2 164 10, I2, K2, K2, ?_, opn _ (fun X => ?_), ?_, y3, y4, Or.inl y5⟩
        · unfold F_X7_expectCell F_X3_cells
          simp only [↓bOR hP, r0, r1, e1', Option.bind_some, e2', ↓bs y1]
        · simp only [↓bs i29, one_ne, ↓reduceIte, ↓bOM hP, k10, ↓bs ib, ↓bs y2]
        · unfold F_X12_takesCell F_X12_cellsOf
          simp only [↓bOM hP, ↓bAM, m0', m1', e1', Option.bind_some, e2', ↓bs y6]
      · have same : ∀ fa ea, St I1 K1 b n fa ea 29 → fa = f1 ∧ ea = e1 ∧ k1 = 29 := fun fa ea sa =>
          ⟨(nI_eqI (by have := sa.pos; omega) (by have := a5.pos; omega)).mp (sa.1.2.2.2.1.symm.trans a5.1.2.2.2.1), (nI_eqI (by have := sa.pos; omega) (by have := a5.pos; omega)).mp (sa.1.2.2.2.2.1.symm.trans a5.1.2.2.2.2.1), ((nI_eqI (by omega) (by have := a5.pos; omega)).mp (sa.2.1.2.2.2.2.2.1.symm.trans a5.2.1.2.2.2.2.2.1)).symm⟩
        obtain ⟨r, r', I2, K2, y1, y2, y3, y4, y5, y6⟩ := SB_cell hP J hw (Or.inr ⟨f1, e1, k1, a5, Nat.le_refl _⟩) r0 r1 m0 m1 (bar := nI m) (fun fa ea sa va => by
          obtain ⟨rfl, rfl, ek⟩ := same fa ea sa
          have bt := bitN (s := m) (c := numF b fa (ea - fa)) (by omega) (by omega)
          have hf : heldN c (numF b fa (ea - fa)) (cHouses c).length = false := Bool.eq_false_iff.mpr (fun z => br ⟨ek, z⟩)
          rw [bbit, hf] at bt
          exact bt)
        refine ⟨r, r', I2, K1, K2, y1, opn _ (fun X => ?_), y2, y3, y4, ?_⟩
        · by_cases k29 : k1 = 29
          · rw [if_pos k29] at i29
            have k10 := a5.2.1.2.2.2.2.2.2 k29
            have tk : TkC I1 b n f1 e1 29 := by rw [← k29]; exact a5.1
            have nl := (num_C hP (J := J) tk).2
            have ib := isBuilt_M hP (J := J) (v := numF b f1 (e1 - f1)) hw hc a6.2.2.2.2.2.1 al (by omega)
            have hf : heldN c (numF b f1 (e1 - f1)) (cHouses c).length = false := Bool.eq_false_iff.mpr (fun z => br ⟨k29, z⟩)
            rw [hf, if_neg (by decide)] at ib
            simp only [↓bs i29, one_ne, ↓reduceIte, ↓bOM hP, k10, ↓bs ib]
          · rw [if_neg k29] at i29
            simp only [↓bs i29, ↓reduceIte]
        · rcases y6 with y6 | ⟨v, f', e', k', u1, u2, u3, ⟨fa, ea, sa, va⟩, u5, u6⟩
          · exact Or.inl y6.1
          · obtain ⟨rfl, rfl, ek⟩ := same fa ea sa
            exact Or.inr ⟨v, f', e', k', u1, u2, u3, Bool.eq_false_iff.mpr (fun z => br ⟨ek, by rw [← va]; exact z⟩), u5, u6⟩
    obtain ⟨r2, r2', I2, K2m, K2, b1, b2, b3, b4, b5, b6⟩ := first
    have g2 : LB P J I2 (xu K2 168 (93 + 2 * p) r2') t c L := (a6.rq b4 b5).pk (fun i hi => xu_o (fun z => hi (by unfold freeI; omega)))
    have sb2 : SB I2 (xu K2 168 (93 + 2 * p) r2') b n f1 := SB.pk (K := K2) (by
      rcases b6 with b6 | ⟨v, f', e', k', -, -, -, -, s1, s2⟩
      · exact Or.inl b6
      · exact Or.inr ⟨f', e', k', s1, by omega⟩) pk168
    obtain ⟨r3, r3', I3a, I3, K3, d1, d2, d3, d4, d5, d6, d7⟩ := SB_named hP J sb2 (i := 6) (w := 5) (l := 0) (u := 4) 5 0 4 (by omega) rfl rfl rfl rfl (by omega) (by omega)
    have g3 : LB P J I3 (xu K3 168 (94 + 2 * p) r3') t c L := (g2.rq d4 d5).pk (fun i hi => xu_o (fun z => hi (by unfold freeI; omega)))
    have fw : frW I I3 := (a3.W.tr b4.W).tr d4.W
    have fv : frV K (xu K3 168 (94 + 2 * p) r3') := (((a4.V.tr b5.V).tr frV.pt).tr d5.V).tr frV.pt
    have ow : F_X7_expectOwner 1 0 (mm P I3a J) = some (r3, mm P I3 J) := by
      unfold F_X7_expectOwner
      simp only [↓bOR hP, ↓bs d2]
    have lt6 : I 10 3 < (6 : Int32) := by rw [c3]; exact c1
    rcases d7 with d7 | ⟨o, f3, e3, k3, rfl, rfl, v1, v2, s3, s4⟩
    · have bd := d7.1.pk (K' := xu K3 168 (94 + 2 * p) r3') pk168
      have q1 := bd.2.1
      have q2 : ¬ xu K3 168 (94 + 2 * p) r3' 164 11 = 0 := by rw [← bd.2.2.1]; exact q1
      refine ⟨I3, xu K3 168 (94 + 2 * p) r3', ?_, ?_, fw, fv, Or.inl bd⟩
      · unfold F_X7_readHouse
        simp (disch := omega) only [↓bOR hP, lt6, ↓reduceIte, ↓bs a1, ↓bs bc, ↓bs b1, ↓bs d1, ↓bs ow, q1]
      · have m56 : F_X12_readHouse_56 164 (nI p) (mm P K2m J) = some (mm P (xu K3 168 (94 + 2 * p) r3') J) := by
          unfold F_X12_readHouse_56
          simp (disch := omega) only [↓bOM hP, ↓bs b3, ix, ix1, ↓bAM, ↓bs d3, q2, ↓reduceIte]
        unfold F_X12_readHouse
        simp (disch := omega) only [↓bOM hP, ↓bAM, k92, c2, ↓reduceIte, b2, m56]
    · have st := s3.pk (K' := xu K3 168 (94 + 2 * p) (nI o)) pk168
      have nb2 : ¬ Bd I2 (xu K2 168 (93 + 2 * p) r2') b n := fun z => (d6 z).no s3
      rcases b6 with b6 | ⟨x, f2, e2, k2, rfl, rfl, x1, x2, -, -⟩
      · exact (nb2 (b6.pk pk168)).elim
      have q1 := st.2.2.1
      have q2 := st.2.2.2.1
      have w1 : xu K3 168 (94 + 2 * p) (nI o) 168 (93 + 2 * p) = nI x := by rw [xu_o (by omega), d5 _ _ (by omega), xu_self]
      obtain ⟨I4, t1, t2, t3, t4⟩ := settle_C hP (I := I3) (J := J) (k := 10) (by decide) hw hc g3.2.2.2.2.1 (nI x) (nI o)
      have wy : whyB t c (nI x).toInt (nI o).toInt = 0 := by
        unfold whyB
        rw [nI_toInt (by omega), nI_toInt (by omega), Int.toNat_natCast, if_pos (by omega), if_neg (by omega), if_neg (by rw [x2]; decide)]
      rw [wy] at t1
      obtain ⟨x', o', ex, eo, xl, ol, -, co⟩ := t4 wy
      have hx' : x = x' := (nI_eqI (by omega) (by omega)).mp ex
      have ho' : o = o' := (nI_eqI (by omega) (by omega)).mp eo
      rw [← hx', ← ho'] at co
      have lb := LB_house g3 hp p6 w1 xu_self x1 (by omega) t3 co
      have k92' : xu K3 168 (94 + 2 * p) (nI o) 168 92 = nI p := by have z := g3.2.2.2.2.2.1.2.1; rw [hp] at z; exact z
      have cl : F_X3_cells 3 (mm P I3 J) = some (nI (tN t), mm P I3 J) := by
        have z0 : I3 3 0 = nI (tR t) := g3.2.2.1.1
        have z1 : I3 3 1 = nI (tW t) := g3.2.2.1.2.1
        have e1' : nI (tR t) * nI (tW t) = nI (tN t) := pk_mul _ _
        unfold F_X3_cells
        simp only [↓bOR hP, z0, z1, e1']
      refine ⟨I4, _, ?_, ?_, fw.tr (fun a i z => t3 a i (by omega)), fv.tr frV.pt, Or.inr ⟨f3, e3, k3, t, _, L, ?_, lb, by omega, by omega, rfl⟩⟩
      · unfold F_X7_readHouse
        simp (disch := omega) only [↓bOR hP, lt6, ↓reduceIte, ↓bs a1, ↓bs bc, ↓bs b1, ↓bs d1, ↓bs ow, q1, ↓bs cl, ↓bs t1]
      · have m56 : F_X12_readHouse_56 164 (nI p) (mm P K2m J) = some (mm P (xu (xu K3 168 (94 + 2 * p) (nI o)) 168 92 (nI (p + 1))) J) := by
          unfold F_X12_readHouse_56
          simp (disch := omega) only [↓bOM hP, ↓bs b3, ix, ix1, ↓bAM, ↓bs d3, q2, ↓reduceIte, k92', nI_1]
        unfold F_X12_readHouse
        simp (disch := omega) only [↓bOM hP, ↓bAM, k92, c2, ↓reduceIte, b2, m56]
      · exact st.fr (fun y => t3 _ _ (by omega)) (fun i hi => t3 _ _ (by omega)) (t3 _ _ (by omega)) (fun i i1 i2 => by rw [xu_o (by omega)]) (fun y => by rw [xu_o (by omega)])
  · have ep : p = 6 := by omega
    subst ep
    obtain ⟨I1, K1, a1, a2, a3, a4, a5⟩ := fail_St hP J h (w := 4) (by decide)
    have q2 : ¬ K1 164 11 = 0 := by rw [← a5.2.2.1]; exact a5.2.1
    have c1 : ¬ I 10 3 < (6 : Int32) := by rw [c3]; decide
    have c2 : nI 6 = (6 : Int32) := rfl
    refine ⟨I1, K1, ?_, ?_, a3.W, a4.V, Or.inl a5⟩
    · unfold F_X7_readHouse
      simp only [↓bOR hP, c1, ↓reduceIte, ↓bs a1]
    · unfold F_X12_readHouse F_X12_readHouse_19
      simp only [↓bOM hP, ↓bAM, k92, c2, ↓reduceIte, ↓bs a2, q2]
