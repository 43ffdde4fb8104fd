/-! ===== debts ===== -/
theorem bal_snoc {ds : List (Nat × Nat × Nat)} {q : Nat × Nat × Nat} {o : Nat} : balI (ds ++ [q]) o = balI ds o + ((if q.2.1 = o then (q.2.2 : Int) else 0) - (if q.1 = o then (q.2.2 : Int) else 0)) := by
  unfold balI
  rw [List.map_append, List.sum_append]
  show _ + (_ + 0) = _
  rw [Int.add_zero]
theorem bal_le {o : Nat} : ∀ ds : List (Nat × Nat × Nat), (∀ q ∈ ds, q.2.2 ≤ 99) → -(99 * (ds.length : Int)) ≤ balI ds o ∧ balI ds o ≤ 99 * (ds.length : Int)
  | [], _ => by unfold balI; simp
  | q :: ds, h => by
    have ih := bal_le (o := o) ds (fun x hx => h x (List.mem_cons_of_mem _ hx))
    have hq := h q (List.mem_cons_self ..)
    have e : balI (q :: ds) o = ((if q.2.1 = o then (q.2.2 : Int) else 0) - (if q.1 = o then (q.2.2 : Int) else 0)) + balI ds o := rfl
    rw [e, List.length_cons]
    split <;> split <;> omega
theorem i32_subS {a b : Int32} (h1 : -2147483648 ≤ a.toInt - b.toInt) (h2 : a.toInt - b.toInt < 2147483648) : (a - b).toInt = a.toInt - b.toInt := by
  rw [Int32.toInt_sub]
  exact Int.bmod_eq_of_le (by omega) (by omega)
theorem i32_addS {a b : Int32} (h1 : -2147483648 ≤ a.toInt + b.toInt) (h2 : a.toInt + b.toInt < 2147483648) : (a + b).toInt = a.toInt + b.toInt := by
  rw [Int32.toInt_add]
  exact Int.bmod_eq_of_le (by omega) (by omega)
def tAddDebt (t : Txt) (q : Nat × Nat × Nat) : Txt := (t.1, t.2.1, t.2.2.1, t.2.2.2.1, t.2.2.2.2.1, t.2.2.2.2.2.1, tDebts t ++ [q], t.2.2.2.2.2.2.2)
theorem LB_debt {P : Nat → Nat → Option Nat} {J : Nat → Nat → Int64} {I K : Nat → Nat → Int32} {t : Txt} {c : Cst} {L : List Int32} {d x y mu : Nat} (g : LB P J (xu I 1 9 (nI d)) K t c L) (hd : (tDebts t).length = d) (d8 : d < 8) (q0 : I 1 9 = nI (d + 1)) (q1 : K 168 (43 + 3 * d) = nI x) (q2 : K 168 (44 + 3 * d) = nI y) (q3 : K 168 (45 + 3 * d) = nI mu) (hx : x < 5) (hy : y < 5) (hxy : x ≠ y) (hm : mu ≤ 99) :
    LB P J (xu (xu I 8 x (I 8 x - nI mu)) 8 y (I 8 y + nI mu)) (xu K 168 6 (nI (d + 1))) (tAddDebt t (x, y, mu)) c L := by
  obtain ⟨h1, h2, h3, h4, h5, h6, ⟨l1, l2, l3⟩, h8, h9, h10, h11, h12⟩ := g
  have wp := h1.2.2.2.2.1.1
  have wq := h1.2.2.2.2.2.1.1
  have wh := h2.2.1.1
  have hN := tN_le h1
  have len : (tDebts t ++ [(x, y, mu)]).length = d + 1 := by rw [List.length_append, hd]; rfl
  have ck : ∀ i, ¬ i = 6 → xu K 168 6 (nI (d + 1)) 168 i = K 168 i := fun i hi => xu_o (by omega)
  have cI : ∀ a i, ¬ (a = 8 ∧ (i = x ∨ i = y)) → ¬ (a = 1 ∧ i = 9) → xu (xu I 8 x (I 8 x - nI mu)) 8 y (I 8 y + nI mu) a i = xu I 1 9 (nI d) a i := fun a i hi hj => by rw [xu_o (by omega), xu_o (by omega), xu_o (by omega)]
  have c9 : xu (xu I 8 x (I 8 x - nI mu)) 8 y (I 8 y + nI mu) 1 9 = nI (d + 1) := by rw [xu_o (by omega), xu_o (by omega)]; exact q0
  have all99 : ∀ q ∈ tDebts t, q.2.2 ≤ 99 := fun q hq => (h1.2.2.2.2.2.2.1.2 q hq).2.2.2
  refine ⟨?_, h2, ?_, ?_, ?_, CoastA_pk (t := t) h1 h2 (fun i hi => ck i (by omega)) h6, ⟨by rw [cI _ _ (by omega) (by omega)]; exact l1, by rw [ck _ (by omega)]; exact l2, fun j o hj => by rw [cI _ _ (by omega) (by omega), ck _ (by omega)]; exact l3 j o hj⟩, h8, ?_, ⟨fun z => by rw [ck _ (by omega)]; exact h10.1 z, fun z => by rw [ck _ (by omega)]; exact h10.2 z⟩, (fun i hi => by rw [ck _ (by omega)]; exact h11 i hi), h12⟩
  · obtain ⟨x1, x2, x3, x4, x5, x6, ⟨x7, x8⟩, x9⟩ := h1
    refine ⟨x1, x2, x3, x4, x5, x6, ⟨by show (tDebts t ++ [(x, y, mu)]).length ≤ 8; omega, fun q hq => ?_⟩, x9⟩
    have hq' : q ∈ tDebts t ++ [(x, y, mu)] := hq
    rcases List.mem_append.mp hq' with hq | hq
    · exact x8 q hq
    · rw [List.mem_singleton.mp hq]
      exact ⟨hx, hy, hxy, hm⟩
  · have h3' : LandC (mm P I J) 3 t := LandC_cg (M := mm P (xu I 1 9 (nI d)) J) (fun j hj => funext fun i => (show I (3 + j) i = xu I 1 9 (nI d) (3 + j) i from (xu_o (by omega)).symm)) h3
    have cJ : ∀ a i, ¬ (a = 8 ∧ (i = x ∨ i = y)) → xu (xu I 8 x (I 8 x - nI mu)) 8 y (I 8 y + nI mu) a i = I a i := fun a i hi => by rw [xu_o (by omega), xu_o (by omega)]
    obtain ⟨x0, x1, x2, x3, x4, x5, x6, x7, x8, x9, f1', e1', f2', e2', m', y1, y2, y3, y4, y5, y6, y7, y8, y9, y10⟩ := h3'
    refine ⟨(cJ _ _ (by omega)).trans x0, (cJ _ _ (by omega)).trans x1, (cJ _ _ (by omega)).trans x2, (cJ _ _ (by omega)).trans x3, (cJ _ _ (by omega)).trans x4, (cJ _ _ (by omega)).trans x5, (cJ _ _ (by omega)).trans x6, fun p' q hq => ?_, fun p' q hq => ?_, fun o ho => ?_, f1', e1', f2', e2', m', (cJ _ _ (by omega)).trans y1, y2, (cJ _ _ (by omega)).trans y3, (cJ _ _ (by omega)).trans y4, (cJ _ _ (by omega)).trans y5, (cJ _ _ (by omega)).trans y6, y7, y8, codeAt_cg (fun i hi => cJ 9 i (by omega)) y9, codeAt_cg (fun i hi => cJ 9 i (by omega)) y10⟩
    · obtain ⟨u1, u2, u3⟩ := x7 p' q hq
      exact ⟨(cJ _ _ (by omega)).trans u1, (cJ _ _ (by omega)).trans u2, (cJ _ _ (by omega)).trans u3⟩
    · obtain ⟨s', u1, u2, u3⟩ := x8 p' q hq
      exact ⟨s', u1, (cJ _ _ (by omega)).trans u2, u3⟩
    · have b8 : ∀ o, o < 5 → (I 8 o).toInt = balI (tDebts t) o := x9
      have bb := bal_le (o := o) (tDebts t) all99
      have mt : (nI mu).toInt = (mu : Int) := nI_toInt (by omega)
      show (xu (xu I 8 x (I 8 x - nI mu)) 8 y (I 8 y + nI mu) 8 o).toInt = balI (tDebts t ++ [(x, y, mu)]) o
      rw [bal_snoc]
      have bo := b8 o ho
      by_cases ey : o = y
      · subst ey
        rw [xu_self, if_pos rfl, if_neg (show ¬ x = o from hxy), i32_addS (by omega) (by omega)]
        show (I 8 o).toInt + (nI mu).toInt = balI (tDebts t) o + ((mu : Int) - 0)
        omega
      · by_cases ex : o = x
        · subst ex
          rw [xu_o (by omega), xu_self, if_neg (show ¬ y = o from fun z => ey z.symm), if_pos rfl, i32_subS (by omega) (by omega)]
          show (I 8 o).toInt - (nI mu).toInt = balI (tDebts t) o + (0 - (mu : Int))
          omega
        · rw [xu_o (by omega), xu_o (by omega), if_neg (show ¬ y = o from fun z => ey z.symm), if_neg (show ¬ x = o from fun z => ex z.symm)]
          omega
  · obtain ⟨x0, x1, x2, x3, x4, x5, x6, x7, x8, x9, x10, x11, x12, x13⟩ := h4
    refine ⟨(ck 0 (by omega)).trans x0, (ck _ (by omega)).trans x1, (ck _ (by omega)).trans x2, (ck _ (by omega)).trans x3, (ck _ (by omega)).trans x4, (ck _ (by omega)).trans x5, ?_, fun p' q hq => ?_, fun p' q hq => ?_, fun p' q hq => ?_, (ck _ (by omega)).trans x10, (ck _ (by omega)).trans x11, fun hne => ?_, fun hne => ?_⟩
    · show xu K 168 6 (nI (d + 1)) 168 6 = nI (tDebts t ++ [(x, y, mu)]).length
      rw [xu_self, len]
    · obtain ⟨u1, u2, u3⟩ := x7 p' q hq
      exact ⟨(ck _ (by omega)).trans u1, (ck _ (by omega)).trans u2, (ck _ (by omega)).trans u3⟩
    · obtain ⟨u1, u2⟩ := x8 p' q hq
      exact ⟨(ck _ (by omega)).trans u1, (ck _ (by omega)).trans u2⟩
    · rcases get_snoc (show (tDebts t ++ [(x, y, mu)])[p']? = some q from hq) with ⟨z1, z2⟩ | ⟨z1, z2⟩
      · obtain ⟨u1, u2, u3⟩ := x9 p' q z2
        exact ⟨(ck _ (by omega)).trans u1, (ck _ (by omega)).trans u2, (ck _ (by omega)).trans u3⟩
      · rw [← z2, z1, hd]
        exact ⟨(ck _ (by omega)).trans (by rw [Nat.zero_add]; exact q1), (ck _ (by omega)).trans (by rw [Nat.zero_add]; exact q2), (ck _ (by omega)).trans (by rw [Nat.zero_add]; exact q3)⟩
    · obtain ⟨ff, ee, u1, u2, u3, u4⟩ := x12 hne
      exact ⟨ff, ee, (ck _ (by omega)).trans u1, (ck _ (by omega)).trans u2, u3, codeAt_cg (fun i hi => ck _ (by omega)) u4⟩
    · obtain ⟨ff, ee, u1, u2, u3, u4⟩ := x13 hne
      exact ⟨ff, ee, (ck _ (by omega)).trans u1, (ck _ (by omega)).trans u2, u3, codeAt_cg (fun i hi => ck _ (by omega)) u4⟩
  · obtain ⟨y1, y2, y3, y4, y5, y6⟩ := h5
    exact ⟨fun i hi => by rw [cI _ _ (by omega) (by omega)]; exact y1 i hi, by rw [cI _ _ (by omega) (by omega)]; exact y2, fun hh q hq => by rw [cI _ _ (by omega) (by omega), cI _ _ (by omega) (by omega)]; exact y3 hh q hq, by rw [cI _ _ (by omega) (by omega)]; exact y4, by rw [cI _ _ (by omega) (by omega)]; exact y5, by rw [cI _ _ (by omega) (by omega)]; exact y6⟩
  · rw [c9]
    show nI (d + 1) = nI (tDebts t ++ [(x, y, mu)]).length
    rw [len]
/-- a number that is barred -/
theorem exBar {P : Nat → Nat → Option Nat} (hP : GP P) {I K : Nat → Nat → Int32} (J : Nat → Nat → Int64) {b : Nat → Nat} {n f e : Nat} (h : St I K b n f e 29) {l u bar : Int32} (lo hi : Nat) (hl : l = nI lo) (hu : u = nI hi) (lo9 : lo < 1000) (hi9 : hi < 1000) (v1 : lo ≤ numF b f (e - f)) (v2 : numF b f (e - f) ≤ hi) (hb : ¬ ((bar >>> (nI (numF b f (e - f)) &&& 31)) &&& 1) = 0) :
    ∃ I' K', F_X7_expectNumber 1 l u bar (mm P I J) = some (l, mm P I' J) ∧ F_X12_fails 164 3 (mm P K J) = some (mm P K' J) ∧ frR I I' ∧ frQ K K' ∧ Bd I' K' b n := by
  subst hl hu
  have h1 := h.2.2.1
  have c8' : I 1 8 = (3 : Int32) := h.1.2.2.2.2.2
  obtain ⟨nc, nl⟩ := num_C hP (J := J) h.1
  obtain ⟨I', K', a1, a2, a3, a4, a5⟩ := fail_St hP J h (w := 3) (by decide)
  have c1 : ¬ nI (numF b f (e - f)) < nI lo := nI_nlt v1 (by omega)
  have c2 : ¬ nI hi < nI (numF b f (e - f)) := nI_nlt v2 (by omega)
  refine ⟨I', K', ?_, a2, a3, a4, a5⟩
  unfold F_X7_expectNumber F_X7_expectNumber_51
  simp only [↓bOR hP, h1, ↓reduceIte, c8', ↓bs nc, c1, c2, hb, ↓bs a1]
theorem St.f9 {I I' K : Nat → Nat → Int32} {b : Nat → Nat} {n f e k : Nat} (h : St I K b n f e k) (g : ∀ a i, ¬ (a = 1 ∧ i = 9) → I' a i = I a i) : St I' K b n f e k := h.fr (fun x => g _ _ (by omega)) (fun i hi => g _ _ (by omega)) (g _ _ (by omega)) (fun _ _ _ => rfl) (fun _ => rfl)
theorem line_owes {P : Nat → Nat → Option Nat} (hP : GP P) {I K : Nat → Nat → Int32} (J : Nat → Nat → Int64) {b : Nat → Nat} {n f e k : Nat} {t : Txt} {c : Cst} {L : List Int32} (h : St I K b n f e k) (g : LB P J I K t c L) (hk : k ≠ 30) (hL : L.length ≤ f) :
    ∃ I' K', F_X7_readOwes 1 (mm P I J) = some (mm P I' J) ∧ F_X12_readOwes 164 (mm P K J) = some (mm P K' J) ∧ LnO P J b n I K I' K' f t := by
  have hw := g.1
  have hN := tN_le hw
  obtain ⟨d, hd⟩ : ∃ d, (tDebts t).length = d := ⟨_, rfl⟩
  have pl := hw.2.2.2.2.2.2.1.1
  have c9 : I 1 9 = nI d := by rw [← hd]; exact g.2.2.2.2.2.2.2.2.1
  have k6 : K 168 6 = nI d := by rw [← hd]; exact g.2.2.2.1.2.2.2.2.2.2.1
  by_cases d8 : d < 8
  · have h' : St (xu I 1 9 (nI (d + 1))) K b n f e k := h.f9 (fun a i z => xu_o z)
    have back : ∀ {I1 : Nat → Nat → Int32}, frR (xu I 1 9 (nI (d + 1))) I1 → frR I (xu I1 1 9 (nI d)) ∧ I1 1 9 = nI (d + 1) := fun {I1} r => ⟨fun a i z => by
      by_cases e9 : a = 1 ∧ i = 9
      · rw [e9.1, e9.2, xu_self, c9]
      · rw [xu_o e9, r a i z, xu_o e9], by rw [r _ _ (by omega), xu_self]⟩
    have ps := h.pos
    obtain ⟨I1, K1, f1, e1, k1, a1, a2, a3, a4, a5, a6⟩ := adv hP J h'
    have a7 : f + 1 ≤ f1 := by have := ps.2.2.2.2.1 hk; omega
    obtain ⟨r2, r2', I2, K2, b1, b2, b3, b4, b5, b6⟩ := SB_num hP J (Or.inr ⟨f1, e1, k1, a5, Nat.le_refl _⟩) (l := 0) (u := 4) (bar := 0) 0 4 rfl rfl (by omega) (by omega) (bar0 (by omega))
    have g2 : LB P J (xu I2 1 9 (nI d)) (xu K2 168 (43 + 3 * d) r2') t c L := (g.rq (back (a3.R.tr b3)).1 (a4.Q.tr b4)).pk (fun i hi => xu_o (fun z => hi (by unfold freeI; omega)))
    have c1 : nI d < (8 : Int32) := nI_lt (b := 8) d8 (by omega)
    have c2 : ¬ nI d = (8 : Int32) := fun z => by have := (nI_eqI (b := 8) (by omega) (by omega)).mp z; omega
    have ix : (43 : Int32) + (3 : Int32) * nI d = nI (43 + 3 * d) := by rw [show (3 : Int32) = nI 3 from rfl, pk_mul]; exact nI_add 43 _
    have ix1 : nI (43 + 3 * d) + 1 = nI (44 + 3 * d) := by rw [nI_1]; congr 1; omega
    have ix2 : nI (43 + 3 * d) + (2 : Int32) = nI (45 + 3 * d) := by rw [show (2 : Int32) = nI 2 from rfl, nI_add]; congr 1; omega
    have h0 := h.2.2.2.1
    have r29 : ∃ w0, w0 < 5 ∧ r2 = nI w0 := by
      rcases b6 with b6 | ⟨v, f', e', k', z1, z2, z3, z4, -, s1, s2⟩
      · exact ⟨0, by omega, b6.2⟩
      · exact ⟨v, by omega, z1⟩
    obtain ⟨w0, w5, hr2⟩ := r29
    have msk : (1 : Int32) <<< (r2 &&& 31) = nI (2 ^ w0) := by rw [hr2]; exact one_shl (by omega)
    have p5 : 2 ^ w0 < 2 ^ 5 := Nat.pow_lt_pow_right (by omega) w5
    -- the second owner
    have second : ∃ r3 r3' I3 K3m K3, F_X7_expectOwner 1 ((1 : Int32) <<< (r2 &&& 31)) (mm P I2 J) = some (r3, mm P I3 J) ∧ F_X12_readOwes_30 164 (nI (43 + 3 * d)) (mm P K J) = F_X12_readOwes_81 164 (nI (43 + 3 * d)) (mm P K3m J) ∧ F_X12_takes 164 0 4 (mm P K3m J) = some (r3', mm P K3 J) ∧ frR I2 I3 ∧ frQ (xu K2 168 (43 + 3 * d) r2') K3 ∧ (Bd I2 K2 b n → Bd I3 K3 b n) ∧ (Bd I3 K3 b n ∨ ∃ v f' e' k', r3 = nI v ∧ r3' = nI v ∧ v < 5 ∧ v ≠ w0 ∧ St I3 K3 b n f' e' k' ∧ f1 + 1 ≤ f') := by
      have opn : ∀ K3m, (∀ X : xM → Option xM, ((F_X12_is 164 29 (mm P (xu K2 168 (43 + 3 * d) r2') J)).bind fun t16 => if t16.1 = 0 then X t16.2 else (xgI t16.2 164 12 10).bind fun t17 => (xgP t16.2 164 12 4).bind fun t18 => (xaI t16.2 20 t18 (nI (43 + 3 * d))).bind fun t19 => if t17 = t19 then (xck t16.2 164 12).bind fun _ => (F_X12_fails 164 3 t16.2).bind fun t21 => X t21 else X t16.2) = X (mm P K3m J)) → F_X12_readOwes_30 164 (nI (43 + 3 * d)) (mm P K J) = F_X12_readOwes_81 164 (nI (43 + 3 * d)) (mm P K3m J) := fun K3m hX => by
        unfold F_X12_readOwes_30
        simp (disch := omega) only [↓bOM hP, h0, ↓reduceIte, ↓bs a2, ↓bs b2, ↓bAM]
        exact hX (F_X12_readOwes_81 164 (nI (43 + 3 * d)))
      rcases b6 with b6 | ⟨v, f2, e2, k2, z1, z2, z3, z4, -, s1, s2⟩
      · have bd : Bd I2 (xu K2 168 (43 + 3 * d) r2') b n := b6.1.pk pk168
        obtain ⟨y1, y2⟩ := exN_Bd hP J bd 0 4 ((1 : Int32) <<< (r2 &&& 31))
        refine ⟨0, _, I2, xu K2 168 (43 + 3 * d) r2', xu K2 168 (43 + 3 * d) r2', ?_, opn _ (fun X => ?_), y2, frR.rf, frQ.rf, fun _ => bd, Or.inl bd⟩
        · unfold F_X7_expectOwner
          simp only [↓bOR hP, ↓bs y1]
        · simp only [↓bs (is_Bd hP J bd 29), ↓reduceIte]
      · have s1' : St I2 (xu K2 168 (43 + 3 * d) r2') b n f2 e2 k2 := s1.pk pk168
        have wv : w0 = v := (nI_eqI (by omega) (by omega)).mp (hr2.symm.trans z1)
        by_cases br : k2 = 29 ∧ numF b f2 (e2 - f2) = w0
        · obtain ⟨rfl, br⟩ := br
          have bt := bitN (s := 2 ^ w0) (c := w0) (by omega) (by omega)
          rw [two_bit.mpr rfl, if_pos rfl] at bt
          obtain ⟨I3, K3, y1, y2, y3, y4, y5⟩ := exBar hP J s1' (l := 0) (u := 4) (bar := (1 : Int32) <<< (r2 &&& 31)) 0 4 rfl rfl (by omega) (by omega) (by omega) (by omega) (by rw [msk, br, bt]; decide)
          obtain ⟨-, y6⟩ := exN_Bd hP J y5 0 4 0
          have i29 := is_M hP J s1' (w := 29) 29 rfl (by omega)
          rw [if_pos rfl] at i29
          have k10 := s1'.2.1.2.2.2.2.2.2 rfl
          rw [br] at k10
          refine ⟨0, _, I3, K3, K3, ?_, opn _ (fun X => ?_), y6, y3, y4, fun z => (z.no s1).elim, Or.inl y5⟩
          · unfold F_X7_expectOwner
            simp only [↓bOR hP, ↓bs y1]
          · have e43 : xu K2 168 (43 + 3 * d) r2' 168 (43 + 3 * d) = nI w0 := by rw [xu_self, z2, wv]
            simp (disch := omega) only [↓bs i29, one_ne, ↓reduceIte, ↓bOM hP, ↓bAM, k10, e43, ↓bs y2]
        · obtain ⟨r3, r3', I3, K3, y1, y2, y3, y4, y5, y6⟩ := SB_num hP J (show SB I2 (xu K2 168 (43 + 3 * d) r2') b n f1 from Or.inr ⟨f2, e2, k2, s1', by omega⟩) (l := 0) (u := 4) (bar := (1 : Int32) <<< (r2 &&& 31)) 0 4 rfl rfl (by omega) (by omega) (fun fa ea sa va => by
            have ef : fa = f2 := (nI_eqI (by have := sa.pos; omega) (by have := s1'.pos; omega)).mp (sa.1.2.2.2.1.symm.trans s1'.1.2.2.2.1)
            have ee : ea = e2 := (nI_eqI (by have := sa.pos; omega) (by have := s1'.pos; omega)).mp (sa.1.2.2.2.2.1.symm.trans s1'.1.2.2.2.2.1)
            have ek : 29 = k2 := (nI_eqI (by omega) (by have := s1'.pos; omega)).mp (sa.2.1.2.2.2.2.2.1.symm.trans s1'.2.1.2.2.2.2.2.1)
            subst ef ee
            have nv : numF b fa (ea - fa) ≠ w0 := fun z => br ⟨ek.symm, z⟩
            have bt := bitN (s := 2 ^ w0) (c := numF b fa (ea - fa)) (by omega) (by omega)
            rw [msk, bt, if_neg (fun z => nv (two_bit.mp z).symm)])
          have i29 := is_M hP J s1' (w := 29) 29 rfl (by omega)
          refine ⟨r3, r3', I3, xu K2 168 (43 + 3 * d) r2', K3, ?_, opn _ (fun X => ?_), y2, y3, y4, fun z => (z.no s1).elim, ?_⟩
          · unfold F_X7_expectOwner
            simp only [↓bOR hP, ↓bs y1]
          · by_cases k29 : k2 = 29
            · rw [if_pos k29] at i29
              have k10 := s1'.2.1.2.2.2.2.2.2 k29
              have nv : ¬ numF b f2 (e2 - f2) = w0 := fun z => br ⟨k29, z⟩
              have tk : TkC I2 b n f2 e2 29 := by rw [← k29]; exact s1'.1
              have nl := (num_C hP (J := J) tk).2
              have e43 : xu K2 168 (43 + 3 * d) r2' 168 (43 + 3 * d) = nI w0 := by rw [xu_self, z2, wv]
              have c3 : ¬ nI (numF b f2 (e2 - f2)) = nI w0 := nI_neI (by omega) (by omega) nv
              simp (disch := omega) only [↓bs i29, one_ne, ↓reduceIte, ↓bOM hP, ↓bAM, k10, e43, c3]
            · rw [if_neg k29] at i29
              simp only [↓bs i29, ↓reduceIte]
          · rcases y6 with y6 | ⟨v', f', e', k', u1, u2, u3, u4, ⟨fa, ea, sa, va⟩, u5, u6⟩
            · exact Or.inl y6.1
            · refine Or.inr ⟨v', f', e', k', u1, u2, by omega, fun z => ?_, u5, u6⟩
              have ef : fa = f2 := (nI_eqI (by have := sa.pos; omega) (by have := s1'.pos; omega)).mp (sa.1.2.2.2.1.symm.trans s1'.1.2.2.2.1)
              have ee : ea = e2 := (nI_eqI (by have := sa.pos; omega) (by have := s1'.pos; omega)).mp (sa.1.2.2.2.2.1.symm.trans s1'.1.2.2.2.2.1)
              have ek : 29 = k2 := (nI_eqI (by omega) (by have := s1'.pos; omega)).mp (sa.2.1.2.2.2.2.2.1.symm.trans s1'.2.1.2.2.2.2.2.1)
              subst ef ee
              exact br ⟨ek.symm, by rw [← va]; exact z⟩
    obtain ⟨r3, r3', I3, K3m, K3, d1, d2, d3, d4, d5, d6, d7⟩ := second
    have g3 : LB P J (xu I3 1 9 (nI d)) (xu K3 168 (44 + 3 * d) r3') t c L := (g2.fr (K' := K3) (I' := xu I3 1 9 (nI d)) (fun a i z1 z2 => by rw [xu_o (by omega), xu_o (by omega)]; exact d4 a i (by omega)) (by rw [xu_self, xu_self]) (fun i => d5 _ _ (by omega))).pk (fun i hi => xu_o (fun z => hi (by unfold freeI; omega)))
    have sb3 : SB I3 (xu K3 168 (44 + 3 * d) r3') b n f1 := SB.pk (K := K3) (by
      rcases d7 with d7 | ⟨v, f', e', k', -, -, -, -, s1, s2⟩
      · exact Or.inl d7
      · exact Or.inr ⟨f', e', k', s1, by omega⟩) pk168
    obtain ⟨r4, r4', I4, K4, j1, j2, j3, j4, j5, j6⟩ := SB_num hP J sb3 (l := 0) (u := 99) (bar := 0) 0 99 rfl rfl (by omega) (by omega) (bar0 (by omega))
    have g4 : LB P J (xu I4 1 9 (nI d)) (xu K4 168 (45 + 3 * d) r4') t c L := (g3.fr (K' := K4) (I' := xu I4 1 9 (nI d)) (fun a i z1 z2 => by rw [xu_o (by omega), xu_o (by omega)]; exact j3 a i (by omega)) (by rw [xu_self, xu_self]) (fun i => j4 _ _ (by omega))).pk (fun i hi => xu_o (fun z => hi (by unfold freeI; omega)))
    have q9 : I4 1 9 = nI (d + 1) := by rw [j3 _ _ (by omega), d4 _ _ (by omega)]; exact (back (a3.R.tr b3)).2
    have fw : frW I I4 := ((((frW.pt (by omega) : frW I (xu I 1 9 (nI (d + 1)))).tr a3.R.W).tr b3.W).tr d4.W).tr j3.W
    have fv : frV K (xu K4 168 (45 + 3 * d) r4') := (((((a4.Q.V.tr b4.V).tr frV.pt).tr d5.V).tr frV.pt).tr j4.V).tr frV.pt
    have ow : F_X7_expectOwner 1 0 (mm P I1 J) = some (r2, mm P I2 J) := by
      unfold F_X7_expectOwner
      simp only [↓bOR hP, ↓bs b1]
    rcases j6 with j6 | ⟨mu, f4, e4, k4, rfl, rfl, v1, v2, -, s3, s4⟩
    · have bd := j6.1.pk (K' := xu K4 168 (45 + 3 * d) r4') pk168
      have q1 := bd.2.1
      have q2 : ¬ xu K4 168 (45 + 3 * d) r4' 164 11 = 0 := by rw [← bd.2.2.1]; exact q1
      refine ⟨I4, xu K4 168 (45 + 3 * d) r4', ?_, ?_, fw, fv, Or.inl bd⟩
      · unfold F_X7_readOwes
        simp (disch := omega) only [↓bOR hP, c9, c1, ↓reduceIte, nI_1, ↓bs a1, ↓bs ow, ↓bs d1, ↓bs j1, q1]
      · have m81 : F_X12_readOwes_81 164 (nI (43 + 3 * d)) (mm P K3m J) = some (mm P (xu K4 168 (45 + 3 * d) r4') J) := by
          unfold F_X12_readOwes_81
          simp (disch := omega) only [↓bOM hP, ↓bs d3, ix1, ix2, ↓bAM, ↓bs j2, q2, ↓reduceIte]
        unfold F_X12_readOwes
        simp (disch := omega) only [↓bOM hP, ↓bAM, k6, ↓Option.bind_some, ix, c2, ↓reduceIte, d2, m81]
    · have st := s3.pk (K' := xu K4 168 (45 + 3 * d) (nI mu)) pk168
      have nb3 : ¬ Bd I3 K3 b n := fun z => (j5 (z.pk pk168)).no s3
      rcases d7 with d7 | ⟨y, f3, e3, k3, rfl, rfl, y1, y2, -, -⟩
      · exact (nb3 d7).elim
      rcases b6 with b6 | ⟨x, f2, e2, k2, z1, z2, z3, z4, -, -, -⟩
      · exact (nb3 (d6 b6.1)).elim
      have wv : w0 = x := (nI_eqI (by omega) (by omega)).mp (hr2.symm.trans z1)
      subst wv
      have q1 := st.2.2.1
      have q2 := st.2.2.2.1
      have w1 : xu K4 168 (45 + 3 * d) (nI mu) 168 (43 + 3 * d) = nI w0 := by rw [xu_o (by omega), j4 _ _ (by omega), xu_o (by omega), d5 _ _ (by omega), xu_self, z2]
      have w2 : xu K4 168 (45 + 3 * d) (nI mu) 168 (44 + 3 * d) = nI y := by rw [xu_o (by omega), j4 _ _ (by omega), xu_self]
      have lb := LB_debt g4 hd d8 q9 w1 w2 xu_self w5 y1 (fun z => y2 z.symm) v2
      have k6' : xu K4 168 (45 + 3 * d) (nI mu) 168 6 = nI d := by have z := g4.2.2.2.1.2.2.2.2.2.2.1; rw [hd] at z; exact z
      have e8 : ∀ v, xu I4 8 w0 v 8 y = I4 8 y := fun v => xu_o (by omega)
      refine ⟨_, _, ?_, ?_, fw.tr ?_, fv.tr frV.pt, Or.inr ⟨f4, e4, k4, _, c, L, ?_, lb, by omega, by omega, rfl⟩⟩
      · rw [hr2] at d1 ow
        unfold F_X7_readOwes
        simp (disch := omega) only [↓bOR hP, c9, c1, ↓reduceIte, nI_1, ↓bs a1, ↓bs ow, ↓bs d1, ↓bs j1, q1, ↓bAR, e8]
      · have m81 : F_X12_readOwes_81 164 (nI (43 + 3 * d)) (mm P K3m J) = some (mm P (xu (xu K4 168 (45 + 3 * d) (nI mu)) 168 6 (nI (d + 1))) J) := by
          unfold F_X12_readOwes_81
          simp (disch := omega) only [↓bOM hP, ↓bs d3, ix1, ix2, ↓bAM, ↓bs j2, q2, ↓reduceIte, k6', nI_1]
        unfold F_X12_readOwes
        simp (disch := omega) only [↓bOM hP, ↓bAM, k6, ↓Option.bind_some, ix, c2, ↓reduceIte, d2, m81]
      · exact fun a i z => by rw [xu_o (by omega), xu_o (by omega)]
      · exact st.fr (fun y => by rw [xu_o (by omega), xu_o (by omega)]) (fun i hi => by rw [xu_o (by omega), xu_o (by omega)]) (by rw [xu_o (by omega), xu_o (by omega)]) (fun i i1 i2 => by rw [xu_o (by omega)]) (fun y => by rw [xu_o (by omega)])
  · have ep : d = 8 := by omega
    subst ep
    obtain ⟨I1, K1, a1, a2, a3, a4, a5⟩ := fail_St hP J h (w := 4) (by decide)
    have q2 : ¬ K1 164 11 = 0 := by rw [← a5.2.2.1]; exact a5.2.1
    have c1 : ¬ nI 8 < (8 : Int32) := by decide
    have c2 : nI 8 = (8 : Int32) := rfl
    refine ⟨I1, K1, ?_, ?_, a3.W, a4.V, Or.inl a5⟩
    · unfold F_X7_readOwes
      simp only [↓bOR hP, c9, c1, ↓reduceIte, ↓bs a1]
    · unfold F_X12_readOwes F_X12_readOwes_30
      simp only [↓bOM hP, ↓bAM, k6, ↓Option.bind_some, c2, ↓reduceIte, ↓bs a2, q2]
