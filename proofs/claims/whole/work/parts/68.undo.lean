/-! ===== undo ===== -/
theorem floor_M (a b : Int32) (M : xM) : F_J9_floorMod_7cf53 a b M = (F_J9_floorMod_7cf53 a b xM0).map (fun r => (r.1, M)) := by
  unfold F_J9_floorMod_7cf53
  simp only [Option.bind_some]
  repeat' split
  all_goals rfl
theorem floor11 : ∀ a, a < 11 → ∀ m, m < 11 → (F_J9_floorMod_7cf53 (nI a - nI m) 11 xM0).map Prod.fst = some (nI ((a + 11 - m) % 11)) := by decide +kernel
theorem floor_ok {a m : Nat} (ha : a < 11) (hm : m < 11) (M : xM) : F_J9_floorMod_7cf53 (nI a - nI m) 11 M = some (nI ((a + 11 - m) % 11), M) := by
  have h1 := floor11 a ha m hm
  rw [floor_M]
  cases e : F_J9_floorMod_7cf53 (nI a - nI m) 11 xM0 with
  | none => rw [e] at h1; cases h1
  | some r =>
    rw [e] at h1
    simp only [Option.map_some, Option.some.injEq] at h1 ⊢
    rw [h1]
theorem sim_undo (a1 : Int32) : xSim INV (F_X11_undo 0 a1) (F_X12_undo 164 a1) := by
  intro n M hn hI
  obtain ⟨P, I, J, rfl, hP⟩ := G_mm hI.1
  obtain ⟨t, c, cs, nx, hS⟩ := INV_sh hI
  obtain ⟨hw, hL, hA, hc, hC, hD, p1, p2, p3', p4', p5', p6⟩ := hS
  have p3 : I 35 0 = nI cs.length := p3'
  have p4 : I 35 1 = nI nx := p4'
  have p5 : I 165 108 = nI cs.length := p5'
  have z1 : (1 : Int64).toInt = 1 := by decide
  have z10 : (10 : Int64).toInt = 10 := by decide
  have y1 : (1 : Int32).toInt = 1 := by decide
  have y10 : (10 : Int32).toInt = 10 := by decide
  have eL : (nI cs.length).toInt = (cs.length : Int) := nI_toInt (by omega)
  by_cases h : 1 ≤ a1.toInt ∧ a1.toInt ≤ cs.length
  · obtain ⟨m, hm, rfl⟩ := cell_of (a := a1) (n := 11) (by omega) (by omega)
    rw [nI_toInt (by omega)] at h
    have hm1 : 1 ≤ m := by omega
    have hml : m ≤ cs.length := by omega
    obtain ⟨c', hc'⟩ : ∃ c', cs[m - 1]? = some c' := ⟨_, List.getElem?_eq_getElem (by omega)⟩
    obtain ⟨w1, w2, w3⟩ := p6 (m - 1) c' hc'
    rw [show (nx + 10 - (m - 1)) % 11 = (nx + 11 - m) % 11 by omega] at w2
    rw [show cs.length - 1 - (m - 1) = cs.length - m by omega] at w3
    have hnx : (nx + 11 - m) % 11 < 11 := by omega
    obtain ⟨I1, e1, k1, k2, k3, k4, k5, k6, k7, k8⟩ := take_C hP (xu (xu I 35 1 (nI ((nx + 11 - m) % 11))) 35 0 (nI (cs.length - m))) J (a := 21) (b := 37 + 4 * ((nx + 11 - m) % 11)) (by decide) (ring_in _ hnx).1 (by omega)
    have kI : ∀ k i, ¬ (21 ≤ k ∧ k ≤ 24) → k ≠ 35 → I1 k i = I k i := fun k i h1 h2 => by rw [k1 k i (by omega), xu_o (by omega), xu_o (by omega)]
    have s0 : I1 35 0 = nI (cs.length - m) := by rw [k1 35 0 (by omega), xu_self]
    have s1 : I1 35 1 = nI ((nx + 11 - m) % 11) := by rw [k1 35 1 (by omega), xu_o (by omega), xu_self]
    have sb : nI cs.length - nI m = nI (cs.length - m) := pk_sub hml
    have C : F_X11_undo 0 (nI m) (mm P I J) = some (nI (cs.length - m), mm P I1 J) := by
      have c1 : ¬ nI m < (1 : Int32) := nI_nlt (b := 1) hm1 (by omega)
      have c2 : ¬ (10 : Int32) < nI m := nI_nlt (a := 10) (by omega) (by omega)
      have c3 : nI m ≤ nI cs.length := nI_le hml (by omega)
      have v1 : ∀ v, xu I 35 1 v 35 0 = nI cs.length := fun v => by rw [xu_o (by omega)]; exact p3
      have v2 : ∀ v w, xu (xu I 35 1 v) 35 0 w 35 1 = v := fun v w => by rw [xu_o (by omega), xu_self]
      have bb : F_X5_bringBack 35 (nI m) 21 (mm P I J) = some (mm P I1 J) := by
        unfold F_X5_bringBack
        simp only [↓bOC hP, p4, ↓bs (floor_ok p2 hm _), v1]
        simp only [sb, ↓bOC hP, v2, ↓bs (ringP hP hnx _ _), ↓bs e1]
      unfold F_X11_undo
      simp only [↓reduceIte, c1, c2, ↓bOC hP, p3, c3, ↓bs bb, s0]
    have a165 : ∀ i, xu I1 164 0 0 165 i = I 165 i := fun i => by rw [xu_o (by omega), kI 165 i (by omega) (by omega)]
    have D : F_X12_undo 164 (nI m) (mm P I1 J) = some (nI (cs.length - m), mm P (cpx (xu (xu I1 164 0 0) 165 108 (nI (cs.length - m))) 165 67 165 (109 + 41 * (cs.length - m)) 41) J) := by
      have h' : 1 ≤ (nI m).toInt ∧ (nI m).toInt ≤ 10 := by rw [nI_toInt (by omega)]; omega
      have c3 : nI m ≤ nI cs.length := nI_le hml (by omega)
      have v1 : xu I1 164 0 0 165 108 = nI cs.length := by rw [a165]; exact p5
      unfold F_X12_undo F_X12_undo_44
      simp only [↓bOM hP, ↓bAM, within_lit, z1, z10, h', and_self, ↓reduceIte, one_ne, ↓Option.bind_some, v1, c3]
      simp only [sb, ↓bAM]
      refine cp_loop 165 67 165 (109 + 41 * (cs.length - m)) 41 (by omega) (fun j hj => ?_) ?_ (by omega)
      · have c1 : ¬ (41 : Int32) ≤ nI j := nI_ge (b := 41) hj (by omega)
        have v2 : cpx (xu (xu I1 164 0 0) 165 108 (nI (cs.length - m))) 165 67 165 (109 + 41 * (cs.length - m)) j 165 108 = nI (cs.length - m) := by rw [cpx_o (by omega), xu_self]
        have e67 : (67 : Int32) + nI j = nI (67 + j) := nI_add 67 j
        have e109 : (109 : Int32) + (41 : Int32) * nI (cs.length - m) + nI j = nI (109 + 41 * (cs.length - m) + j) := by rw [show (41 : Int32) = nI 41 from rfl, pk_mul, show (109 : Int32) = nI 109 from rfl, nI_add, nI_add]
        unfold F_X12_undo_44b
        simp only [↓reduceIte, c1, ↓bOM hP, ↓bAM, v2]
        simp only [e67, e109]
        simp (disch := omega) only [↓bAM, nI_1]
      · have c1 : (41 : Int32) ≤ nI 41 := by decide
        have v2 : cpx (xu (xu I1 164 0 0) 165 108 (nI (cs.length - m))) 165 67 165 (109 + 41 * (cs.length - m)) 41 165 108 = nI (cs.length - m) := by rw [cpx_o (by omega), xu_self]
        simp only [F_X12_undo_44b, F_X12_undo_85, ↓reduceIte, c1, ↓bOM hP, ↓bAM, v2, Option.map_some]
    refine ⟨_, _, _, C, D, m_ck (by decide +kernel) _ _, m_ck (by decide +kernel) _ _, INV_mono _ _ ?_⟩
    have fI : ∀ k i, ¬ (21 ≤ k ∧ k ≤ 24) → k ≠ 35 → ¬ (k = 164 ∧ i = 0) → ¬ (k = 165 ∧ 67 ≤ i ∧ i ≤ 108) → cpx (xu (xu I1 164 0 0) 165 108 (nI (cs.length - m))) 165 67 165 (109 + 41 * (cs.length - m)) 41 k i = I k i := fun k i h1 h2 h3 h4 => by
      rw [cpx_o (by omega), xu_o (by omega), xu_o (by omega), kI k i h1 h2]
    obtain ⟨g, f1, f2, f4, f5, f6⟩ := rest_fr hI (I' := cpx (xu (xu I1 164 0 0) 165 108 (nI (cs.length - m))) 165 67 165 (109 + 41 * (cs.length - m)) 41) (fun k i hh => by unfold scr at hh; exact fI k i (by omega) (by omega) (by omega) (by omega))
    have f35 : ∀ i, cpx (xu (xu I1 164 0 0) 165 108 (nI (cs.length - m))) 165 67 165 (109 + 41 * (cs.length - m)) 41 35 i = I1 35 i := fun i => by rw [cpx_o (by omega), xu_o (by omega), xu_o (by omega)]
    have f21 : ∀ k i, 21 ≤ k → k ≤ 24 → cpx (xu (xu I1 164 0 0) 165 108 (nI (cs.length - m))) 165 67 165 (109 + 41 * (cs.length - m)) 41 k i = I1 k i := fun k i h1 h2 => by rw [cpx_o (by omega), xu_o (by omega), xu_o (by omega)]
    refine sh_INV (t := t) (c := c') (cs := cs.drop m) (nx := (nx + 11 - m) % 11) g f1 f2 ⟨hw, ?_, ?_, w1, ?_, ?_, ?_, hnx, ?_, ?_, ?_, fun j d hj => ?_⟩ f4 f5 f6
    · exact LandC_I (fun a i h1 h2 => fI a i (by omega) (by omega) (by omega) (by omega)) hL
    · exact LandA_cg2 (A := I 165) hw (fun i hi => fI 165 _ (by omega) (by omega) (by omega) (by omega)) hA
    · have nn : ∀ k i, 37 ≤ k → xu (xu I 35 1 (nI ((nx + 11 - m) % 11))) 35 0 (nI (cs.length - m)) k i = I k i := fun k i hk => by rw [xu_o (by omega), xu_o (by omega)]
      refine CoastC_same (M := mm P I J) (b := 37 + 4 * ((nx + 11 - m) % 11)) hw w1 (fun i hi => ?_) (fun i hi => ?_) (fun i hi => ?_) ?_ ?_ ?_ ?_ w2
      · exact (f21 _ _ (by omega) (by omega)).trans ((k2 i hi).trans (nn _ _ (by omega)))
      · exact (f21 _ _ (by omega) (by omega)).trans ((k3 i hi).trans (nn _ _ (by omega)))
      · exact (f21 _ _ (by omega) (by omega)).trans ((k4 i hi).trans (nn _ _ (by omega)))
      · exact (f21 _ _ (by omega) (by omega)).trans (k5.trans (nn _ _ (by omega)))
      · exact (f21 _ _ (by omega) (by omega)).trans (k6.trans (nn _ _ (by omega)))
      · exact (f21 _ _ (by omega) (by omega)).trans (k7.trans (nn _ _ (by omega)))
      · exact (f21 _ _ (by omega) (by omega)).trans (k8.trans (nn _ _ (by omega)))
    · refine CoastA_cg (A := I 165) (B := 109 + 41 * (cs.length - m)) hw w1 (fun i hi => ?_) w3
      show cpx _ 165 67 165 (109 + 41 * (cs.length - m)) 41 165 (67 + i) = _
      rw [cpx_in hi, xu_o (by omega), a165]
    · rw [List.length_drop]; omega
    · rw [mm_I]
      rw [f35, s0, List.length_drop]
    · rw [mm_I]
      rw [f35, s1]
    · rw [mm_I]
      rw [cpx_o (by omega), xu_self, List.length_drop]
    · have hj' := hj
      rw [List.getElem?_drop] at hj'
      have hjl := getlt hj'
      obtain ⟨q1, q2, q3⟩ := p6 (m + j) d hj'
      refine ⟨q1, ?_, ?_⟩
      · rw [show ((nx + 11 - m) % 11 + 10 - j) % 11 = (nx + 10 - (m + j)) % 11 by omega]
        exact CoastC_cg (M := mm P I J) (fun i hi => funext fun x => fI _ x (by omega) (by omega) (by omega) (by omega)) q2
      · rw [List.length_drop]
        refine CoastA_cg (A := I 165) (B := 109 + 41 * (cs.length - 1 - (m + j))) hw q1 (fun i hi => ?_) q3
        rw [show cs.length - m - 1 - j = cs.length - 1 - (m + j) by omega]
        exact fI 165 _ (by omega) (by omega) (by omega) (by omega)
  · refine ⟨-3, mm P I J, thr (mm P I J), ?_, ?_, m_ck (by decide +kernel) _ _, m_ck (by decide +kernel) _ _, INV_mono _ _ (INV_Sc hI thr_Sc)⟩
    · unfold F_X11_undo
      by_cases h0 : a1 < (1 : Int32)
      · rw [if_pos h0]
      · have h1 : ¬ a1.toInt < (1 : Int32).toInt := fun z => h0 (Int32.lt_iff_toInt_lt.mpr z)
        rw [if_neg h0]
        by_cases h2 : (10 : Int32) < a1
        · rw [if_pos h2]
        · rw [if_neg h2]
          simp only [↓bOC hP, p3]
          rw [if_neg (show ¬ a1 ≤ nI cs.length from fun z => by have := Int32.le_iff_toInt_le.mp z; omega)]
    · have v1 : xu I 164 0 0 165 108 = nI cs.length := by rw [xu_o (by omega)]; exact p5
      simp only [F_X12_undo, ↓bOM hP, within_lit, z1, z10, ↓Option.bind_some]
      by_cases h2 : 1 ≤ a1.toInt ∧ a1.toInt ≤ 10
      · rw [if_pos h2, if_neg one_ne]
        simp only [↓bAM, ↓bOM hP, v1]
        rw [if_neg (show ¬ a1 ≤ nI cs.length from fun z => by have := Int32.le_iff_toInt_le.mp z; omega)]
        rfl
      · rw [if_neg h2, if_pos rfl]
        rfl
/-! ===== balance ===== -/
theorem nI_ofInt (n : Nat) : nI n = Int32.ofInt (n : Int) := (Int32.ofInt_eq_ofNat).symm
theorem balI_app (ds es : List (Nat × Nat × Nat)) (o : Nat) : balI (ds ++ es) o = balI ds o + balI es o := by
  unfold balI
  rw [List.map_append, List.sum_append]
theorem bal_M {P : Nat → Nat → Option Nat} (hP : GP P) {I : Nat → Nat → Int32} {J : Nat → Nat → Int64} {t : Txt} (hw : wfT t) (hA : LandA (I 165) 0 t) {o : Nat} (ho : o < 5) : F_X12_balanceOf 164 (nI o) (mm P I J) = some (Int32.ofInt (balI (tDebts t) o), mm P I J) := by
  have hd := hw.2.2.2.2.2.2.1
  have a6 : I 165 6 = nI (tDebts t).length := hA.2.2.2.2.2.2.1
  have a9 := hA.2.2.2.2.2.2.2.2.2.1
  have e43 : (43 : Int32) + (3 : Int32) * nI (tDebts t).length = nI (43 + 3 * (tDebts t).length) := by rw [show (3 : Int32) = nI 3 from rfl, pk_mul]; exact nI_add 43 _
  unfold F_X12_balanceOf F_X12_balanceOf_5
  refine xit_run (fun j => (Int32.ofInt (balI ((tDebts t).take j) o), nI (43 + 3 * j), mm P I J)) (tDebts t).length rfl (fun j hj => ?_) ?_ (by omega)
  · have hq : (tDebts t)[j]? = some (tDebts t)[j] := List.getElem?_eq_getElem hj
    obtain ⟨d1', d2', d3'⟩ := a9 j _ hq
    have d1 : I 165 (43 + 3 * j) = nI ((tDebts t)[j]).1 := by have := d1'; rw [Nat.zero_add] at this; exact this
    have d2 : I 165 (44 + 3 * j) = nI ((tDebts t)[j]).2.1 := by have := d2'; rw [Nat.zero_add] at this; exact this
    have d3 : I 165 (45 + 3 * j) = nI ((tDebts t)[j]).2.2 := by have := d3'; rw [Nat.zero_add] at this; exact this
    obtain ⟨m1, m2, m3, m4⟩ := hd.2 _ (List.mem_of_getElem? hq)
    have c1 : ¬ nI (43 + 3 * (tDebts t).length) ≤ nI (43 + 3 * j) := nI_ge (by omega) (by omega)
    have e1 : nI (43 + 3 * j) + 1 = nI (44 + 3 * j) := by rw [nI_1]; congr 1; omega
    have e2 : nI (43 + 3 * j) + 2 = nI (45 + 3 * j) := by rw [show (2 : Int32) = nI 2 from rfl, nI_add]; congr 1; omega
    have e3 : nI (43 + 3 * j) + 3 = nI (43 + 3 * (j + 1)) := by rw [show (3 : Int32) = nI 3 from rfl, nI_add]; congr 1
    have q1 : nI ((tDebts t)[j]).2.1 = nI o ↔ ((tDebts t)[j]).2.1 = o := nI_eqI (by omega) (by omega)
    have q2 : nI ((tDebts t)[j]).1 = nI o ↔ ((tDebts t)[j]).1 = o := nI_eqI (by omega) (by omega)
    have st : balI ((tDebts t).take (j + 1)) o = balI ((tDebts t).take j) o + ((if ((tDebts t)[j]).2.1 = o then (((tDebts t)[j]).2.2 : Int) else 0) - (if ((tDebts t)[j]).1 = o then (((tDebts t)[j]).2.2 : Int) else 0)) := by
      rw [List.take_add_one, hq, balI_app]
      congr 1
      unfold balI
      simp
    rw [st]
    unfold F_X12_balanceOf_5b F_X12_balanceOf_68
    simp only [↓bOM hP, ↓bAM, a6]
    simp only [e43, e1, e2, e3]
    by_cases h1 : ((tDebts t)[j]).2.1 = o
    · have h2 : ¬ ((tDebts t)[j]).1 = o := fun z => m3 (by rw [z, h1])
      simp (disch := omega) only [↓reduceIte, c1, ↓bOM hP, ↓bAM, d2, q1, h1, d3, ↓Option.bind_some]
      rw [if_neg h2, Int.sub_zero, Int32.ofInt_add, nI_ofInt]
    · by_cases h2 : ((tDebts t)[j]).1 = o
      · simp (disch := omega) only [↓reduceIte, c1, ↓bOM hP, ↓bAM, d2, q1, h1, d1, q2, h2, d3, ↓Option.bind_some]
        rw [Int.zero_sub, Int32.ofInt_add, Int32.ofInt_neg, nI_ofInt]
      · simp (disch := omega) only [↓reduceIte, c1, ↓bOM hP, ↓bAM, d2, q1, h1, d1, q2, h2, ↓Option.bind_some]
        rw [Int.sub_zero, Int.add_zero, Int32.add_zero]
  · have c1 : nI (43 + 3 * (tDebts t).length) ≤ nI (43 + 3 * (tDebts t).length) := nI_le (Nat.le_refl _) (by omega)
    unfold F_X12_balanceOf_5b F_X12_balanceOf_76
    simp only [↓bOM hP, ↓bAM, a6]
    simp only [e43, ↓reduceIte, c1, Option.map_some, List.take_of_length_le (Nat.le_refl (tDebts t).length)]
theorem sim_balance (a1 : Int32) : xSim INV (F_X11_balance 0 a1) (F_X12_balance 164 a1) := by
  refine xSim_qn fun n M hn hI => ?_
  obtain ⟨P, I, J, rfl, hP⟩ := G_mm hI.1
  obtain ⟨t, c, cs, nx, hw, hL, hA, hc, hC, hD, -⟩ := INV_sh hI
  have z0 : (0 : Int64).toInt = 0 := by decide
  have z4 : (4 : Int64).toInt = 4 := by decide
  have y5 : (5 : Int32).toInt = 5 := by decide
  by_cases h : 0 ≤ a1.toInt ∧ a1.toInt ≤ 4
  · obtain ⟨o, ho, rfl⟩ := cell_of (a := a1) (n := 5) (by omega) (by omega)
    have b1 : (I 19 o).toInt = balI (tDebts t) o := hL.2.2.2.2.2.2.2.2.2.1 o ho
    have b2 : I 19 o = Int32.ofInt (balI (tDebts t) o) := by rw [← b1, Int32.ofInt_toInt]
    have hA1 : LandA (xu I 164 0 0 165) 0 t := LandA_cg (A := I 165) hw (fun x _ => xu_o (by omega)) hA
    have bm := bal_M hP (J := J) hw hA1 ho
    have c1 : nI o < (5 : Int32) := nI_lt (b := 5) ho (by omega)
    refine ⟨Int32.ofInt (balI (tDebts t) o), mm P I J, thr (mm P I J), ?_, Sc.rf, ?_, thr_Sc⟩
    · simp (disch := omega) only [F_X11_balance, ↓reduceIte, nI_pos (n := o) (by omega), c1, ↓bOC hP, ↓bAC, b2]
    · simp only [F_X12_balance, ↓bOM hP, within_lit, z0, z4, h, and_self, ↓reduceIte, ↓Option.bind_some, one_ne, ↓bs bm, thr_mm]
  · refine ⟨-99000002, mm P I J, thr (mm P I J), ?_, Sc.rf, ?_, thr_Sc⟩
    · unfold F_X11_balance F_X11_balance_9
      by_cases h0 : a1 < 0
      · rw [if_pos h0]
      · have h1 := toInt_nneg h0
        rw [if_neg h0, if_neg (show ¬ a1 < (5 : Int32) from fun z => by have := Int32.lt_iff_toInt_lt.mp z; omega)]
    · simp only [F_X12_balance, ↓bOM hP, within_lit, ↓Option.bind_some, z0, z4, if_neg h, ↓reduceIte, thr_mm]
