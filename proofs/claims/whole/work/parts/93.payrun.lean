/-! ===== payments: the class ===== -/
theorem maxN {a b : Nat} (ha : a < 2 ^ 31) (hb : b < 2 ^ 31) (M : xM) : F_J9_max_7cf53 (nI a) (nI b) M = some (nI (max a b), M) := by
  have lt : nI a < nI b ↔ a < b := nI_ltI ha hb
  unfold F_J9_max_7cf53
  simp only [lt]
  by_cases h : a < b
  · rw [if_pos h, show max a b = b by omega]
  · rw [if_neg h, show max a b = a by omega]
theorem balS_C {P : Nat → Nat → Option Nat} (hP : GP P) {I : Nat → Nat → Int32} {J : Nat → Nat → Int64} {b : Nat → Int32} (hb : ∀ o, o < 5 → I 19 o = b o) {s : Nat} (hs : s < 32) : F_X3_balanceOf 14 (nI s) (mm P I J) = some (bS b s 5, mm P I J) := by
  unfold F_X3_balanceOf F_X3_balanceOf_4
  refine xit_run (fun j => (bS b s j, nI j, mm P I J)) 5 rfl (fun j hj => ?_) ?_ (by omega)
  · have c1 : ¬ (5 : Int32) ≤ nI j := nI_ge (b := 5) hj (by omega)
    have bt := bitN (s := s) (c := j) (by omega) (by omega)
    have w := hb j hj
    have e : bS b s (j + 1) = if s.testBit j then bS b s j + b j else bS b s j := rfl
    rw [e]
    cases hx : s.testBit j with
    | false =>
      rw [hx] at bt
      simp only [F_X3_balanceOf_4b, F_X3_balanceOf_26, ↓reduceIte, c1, bt, Bool.false_eq_true, nI_1]
    | true =>
      rw [hx] at bt
      simp (disch := omega) only [F_X3_balanceOf_4b, F_X3_balanceOf_26, ↓reduceIte, c1, bt, one_ne, ↓bOC hP, ↓bAC, w, Option.bind_some, nI_1]
  · have c1 : (5 : Int32) ≤ nI 5 := by decide
    simp only [F_X3_balanceOf_4b, F_X3_balanceOf_32, ↓reduceIte, c1]
theorem sub_0 : ∀ s, s < 32 → ∀ v, v < 32 → (anot v s = 0 ↔ subB v s = true) := by decide +kernel
theorem low_0 : ∀ s, s < 32 → ∀ v, v < 32 → 0 < v → subB v s = true → (((nI v &&& nI s) &&& (-(nI s))) = 0 ↔ lbB s v = false) := by decide +kernel
theorem cnt_0 : ∀ s, s < 32 → cntN s 25 ≤ 0 → s = 0 := by decide +kernel
theorem mC_le (Z : Nat → Bool) : ∀ n s, mC Z n s ≤ n
  | 0, _ => Nat.le_refl _
  | n + 1, s => by
    show gL (okC Z s) (mC Z n) s s ≤ n + 1
    rcases gL_eq (ok := okC Z s) (f := mC Z n) (s := s) s with h | ⟨v, h1, h2, h3, h4⟩
    · omega
    · have := mC_le Z n (anot s v)
      omega
theorem gL_le {ok : Nat → Bool} {f : Nat → Nat} {s B : Nat} (h : ∀ x, f x ≤ B) : ∀ n, gL ok f s n ≤ B + 1 := fun n => by
  rcases gL_eq (ok := ok) (f := f) (s := s) n with g | ⟨v, h1, h2, h3, h4⟩
  · omega
  · have := h (anot s v)
    omega
theorem most_C {P : Nat → Nat → Option Nat} (hP : GP P) {I : Nat → Nat → Int32} {J : Nat → Nat → Int64} {b : Nat → Int32} (hb : ∀ o, o < 5 → I 19 o = b o) : ∀ n s, n ≤ 100 → s < 32 → cntN s 25 ≤ n → R_X3_mostGroups (n + 1) 14 (nI s) (mm P I J) = some (nI (mC (zB b) n s), mm P I J)
  | 0, s, _, hs, hn => by
    have h0 := cnt_0 s hs hn
    subst h0
    show xit (F_X3_mostGroups_4b (R_X3_mostGroups 0) 14 (nI 0)) xFU (nI 0, nI 1, mm P I J) = _
    refine xit_run (fun _ => (nI 0, nI 1, mm P I J)) 0 rfl (fun j hj => by omega) ?_ (by omega)
    have c1 : nI 0 < nI 1 := by decide
    simp only [F_X3_mostGroups_4b, F_X3_mostGroups_68, ↓reduceIte, c1]
    rfl
  | n + 1, s, hn1, hs, hn => by
    have gl := gL_le (ok := okC (zB b) s) (s := s) (mC_le (zB b) n)
    show xit (F_X3_mostGroups_4b (R_X3_mostGroups (n + 1)) 14 (nI s)) xFU (nI 0, nI 1, mm P I J) = some (nI (gL (okC (zB b) s) (mC (zB b) n) s s), mm P I J)
    refine xit_run (fun j => (nI (gL (okC (zB b) s) (mC (zB b) n) s j), nI (j + 1), mm P I J)) s rfl (fun j hj => ?_) ?_ (by omega)
    · have c1 : ¬ nI s < nI (j + 1) := nI_nlt (by omega) (by omega)
      have an := anotN (a := j + 1) (b := s) (by omega) (by omega)
      have al : anot (j + 1) s < 2 ^ 5 := anot_lt (n := 5) (by omega)
      have z : nI (anot (j + 1) s) = 0 ↔ subB (j + 1) s = true := by
        rw [← sub_0 s hs (j + 1) (by omega)]
        exact nI_eqI (b := 0) (by omega) (by omega)
      have e : gL (okC (zB b) s) (mC (zB b) n) s (j + 1) = if okC (zB b) s (j + 1) then max (gL (okC (zB b) s) (mC (zB b) n) s j) (1 + mC (zB b) n (anot s (j + 1))) else gL (okC (zB b) s) (mC (zB b) n) s j := rfl
      rw [e]
      have ob : okC (zB b) s (j + 1) = (subB (j + 1) s && (lbB s (j + 1) && decide (bS b (j + 1) 5 = 0))) := rfl
      rw [ob]
      cases hsub : subB (j + 1) s with
      | false =>
        have z' : ¬ nI (anot (j + 1) s) = 0 := fun y => by rw [z.mp y] at hsub; cases hsub
        simp only [F_X3_mostGroups_4b, F_X3_mostGroups_30, F_X3_mostGroups_31, F_X3_mostGroups_62, ↓reduceIte, c1, an, z', nI_1, Bool.false_and, Bool.false_eq_true]
      | true =>
        have z' : nI (anot (j + 1) s) = 0 := z.mpr hsub
        have lw := low_0 s hs (j + 1) (by omega) (by omega) hsub
        cases hlow : lbB s (j + 1) with
        | false =>
          have l0 := lw.mpr hlow
          simp only [F_X3_mostGroups_4b, F_X3_mostGroups_30, F_X3_mostGroups_31, F_X3_mostGroups_62, ↓reduceIte, c1, an, z', l0, nI_1, Bool.false_and, Bool.true_and, Bool.false_eq_true]
        | true =>
          have l0 : ¬ ((nI (j + 1) &&& nI s) &&& (-(nI s))) = 0 := fun y => by rw [lw.mp y] at hlow; cases hlow
          have bl := balS_C hP (J := J) hb (s := j + 1) (by omega)
          have cl := cnt_lt s hs (j + 1) (by omega) hsub (by omega)
          have al2 : anot s (j + 1) < 2 ^ 5 := anot_lt (n := 5) (by omega)
          have an2 := anotN (a := s) (b := j + 1) (by omega) (by omega)
          have rc := most_C hP (J := J) hb n (anot s (j + 1)) (by omega) (by omega) (by omega)
          have g1 := gl j
          have g2 := mC_le (zB b) n (anot s (j + 1))
          have oa : (1 : Int32) + nI (mC (zB b) n (anot s (j + 1))) = nI (1 + mC (zB b) n (anot s (j + 1))) := nI_add 1 _
          by_cases hz : bS b (j + 1) 5 = 0
          · have mx := maxN (a := gL (okC (zB b) s) (mC (zB b) n) s j) (b := 1 + mC (zB b) n (anot s (j + 1))) (by omega) (by omega) (mm P I J)
            simp only [F_X3_mostGroups_4b, F_X3_mostGroups_31, F_X3_mostGroups_62, ↓reduceIte, c1, an, z', l0, one_ne, ↓bOC hP, ↓bs bl, hz, an2, ↓bs rc, oa, ↓bs mx, nI_1, Bool.true_and, decide_true]
          · simp only [F_X3_mostGroups_4b, F_X3_mostGroups_31, F_X3_mostGroups_62, ↓reduceIte, c1, an, z', l0, one_ne, ↓bOC hP, ↓bs bl, hz, nI_1, Bool.true_and, decide_false, Bool.false_eq_true]
    · have c1 : nI s < nI (s + 1) := nI_lt (by omega) (by omega)
      simp only [F_X3_mostGroups_4b, F_X3_mostGroups_68, ↓reduceIte, c1]
/-! ===== the model ===== -/
theorem parts14 {P : Nat → Nat → Option Nat} (hP : GP P) {I : Nat → Nat → Int32} {J : Nat → Nat → Int64} {b : Nat → Int32} (hb : ∀ o, o < 5 → F_X12_balanceOf 164 (nI o) (mm P I J) = some (b o, mm P I J)) (rc : Nat → Int32 → xM → Option (Int32 × xM)) (v1 v2 : Int32) {v : Nat} (hv : v < 32) : F_X12_partsOf_14 rc 164 v1 v2 (nI v) 0 0 (mm P I J) = F_X12_partsOf_51 rc 164 v1 v2 (nI v) (bS b v 5) (mm P I J) := by
  unfold F_X12_partsOf_14
  refine xit_run (fun j => (bS b v j, nI j, mm P I J)) 5 rfl (fun j hj => ?_) ?_ (by omega)
  · have c1 : ¬ (5 : Int32) ≤ nI j := nI_ge (b := 5) hj (by omega)
    have ii := isInM (m := v) (c := j) (by omega) (by omega) (mm P I J)
    have w := hb j hj
    have e : bS b v (j + 1) = if v.testBit j then bS b v j + b j else bS b v j := rfl
    rw [e]
    cases hx : v.testBit j with
    | false =>
      rw [hx] at ii
      simp only [F_X12_partsOf_14b, F_X12_partsOf_42, ↓reduceIte, c1, ↓bs ii, Bool.false_eq_true, Option.bind_some, Int32.add_zero, nI_1]
    | true =>
      rw [hx] at ii
      simp only [F_X12_partsOf_14b, F_X12_partsOf_42, ↓reduceIte, c1, ↓bs ii, one_ne, ↓bOM hP, ↓bs w, Option.bind_some, nI_1]
  · have c1 : (5 : Int32) ≤ nI 5 := by decide
    simp only [F_X12_partsOf_14b, ↓reduceIte, c1]
theorem sub_gap : ∀ s, s < 32 → ∀ v, v < 32 → ∀ w, w < 32 → (!(subB v s && (decide (((v - 1) &&& s) < w) && decide (w < v))) || !subB w s) = true := by decide +kernel
theorem sub_and (a s : Nat) : subB (a &&& s) s = true := sub_iff.mpr fun i h => by
  rw [Nat.testBit_and, Bool.and_eq_true] at h
  exact h.2
theorem parts_M {P : Nat → Nat → Option Nat} (hP : GP P) {I : Nat → Nat → Int32} {J : Nat → Nat → Int64} {b : Nat → Int32} (hb : ∀ o, o < 5 → F_X12_balanceOf 164 (nI o) (mm P I J) = some (b o, mm P I J)) : ∀ n s, n ≤ 100 → s < 32 → cntN s 25 ≤ n → R_X12_partsOf (n + 1) 164 (nI s) (mm P I J) = some (nI (mP (zB b) n s), mm P I J)
  | 0, s, _, hs, hn => by
    have h0 := cnt_0 s hs hn
    subst h0
    show xit (F_X12_partsOf_4b (R_X12_partsOf 0) 164 (nI 0)) xFU (nI 0, nI 0, mm P I J) = _
    refine xit_run (fun _ => (nI 0, nI 0, mm P I J)) 0 rfl (fun j hj => by omega) ?_ (by omega)
    have c1 : nI 0 ≤ 0 := by decide
    simp only [F_X12_partsOf_4b, F_X12_partsOf_94, ↓reduceIte, c1]
    rfl
  | n + 1, s, hn1, hs, hn => by
    have gl := gL_le (ok := okM (zB b) s) (s := s) (mP_le (zB b) n)
    have key : ∃ r : Int32 × xM, xit (F_X12_partsOf_4b (R_X12_partsOf (n + 1)) 164 (nI s)) xFU (nI 0, nI s, mm P I J) = some r ∧ r = (nI (gL (okM (zB b) s) (mP (zB b) n) s s), mm P I J) := by
      refine xit_inv (fun j z => ∃ best v, z = (nI best, nI v, mm P I J) ∧ subB v s = true ∧ v + j ≤ 31 ∧ max best (gL (okM (zB b) s) (mP (zB b) n) s v) = gL (okM (zB b) s) (mP (zB b) n) s s) _ 32 ⟨0, s, rfl, sub_self s, by omega, by omega⟩ (fun j z hj hq => ?_) (fun z hq => ?_) (by omega)
      · obtain ⟨best, v, rfl, q1, q2, q3⟩ := hq
        have gs := gl s
        have vl := sub_lt q1
        by_cases hv0 : v = 0
        · right
          subst hv0
          have c1 : nI 0 ≤ 0 := by decide
          refine ⟨(nI best, mm P I J), ?_, ?_⟩
          · simp only [F_X12_partsOf_4b, F_X12_partsOf_94, ↓reduceIte, c1, Option.map_some]
          · have : gL (okM (zB b) s) (mP (zB b) n) s 0 = 0 := rfl
            rw [this] at q3
            rw [← q3, show max best 0 = best by omega]
        · left
          have c1 : ¬ nI v ≤ 0 := nI_nle (by omega) (by omega)
          obtain ⟨u, rfl⟩ : ∃ u, v = u + 1 := ⟨v - 1, by omega⟩
          have e : gL (okM (zB b) s) (mP (zB b) n) s (u + 1) = if okM (zB b) s (u + 1) then max (gL (okM (zB b) s) (mP (zB b) n) s u) (1 + mP (zB b) n (anot s (u + 1))) else gL (okM (zB b) s) (mP (zB b) n) s u := rfl
          have ul : u &&& s ≤ u := Nat.and_le_left
          have gp : gL (okM (zB b) s) (mP (zB b) n) s u = gL (okM (zB b) s) (mP (zB b) n) s (u &&& s) := gL_gap u ul (fun w h1 h2 => by
            have t := sub_gap s hs (u + 1) (by omega) w (by omega)
            rw [q1, decide_eq_true (show ((u + 1 - 1) &&& s) < w from h1), decide_eq_true (show w < u + 1 by omega)] at t
            unfold okM
            cases hw : subB w s with
            | false => rfl
            | true => rw [hw] at t; cases t)
          have sb : nI (u + 1) - (1 : Int32) = nI u := pk_sub (a := u + 1) (b := 1) (by omega)
          have an := andN (a := u) (b := s) (by omega) (by omega)
          have p14 := parts14 hP (J := J) hb (R_X12_partsOf (n + 1)) (nI s) (nI best) (v := u + 1) (by omega)
          rw [e, gp] at q3
          have ob : okM (zB b) s (u + 1) = decide (bS b (u + 1) 5 = 0) := by
            unfold okM zB
            rw [q1, Bool.true_and]
          rw [ob] at q3
          by_cases hz : bS b (u + 1) 5 = 0
          · rw [decide_eq_true hz, if_pos rfl] at q3
            have cl := cnt_lt s hs (u + 1) (by omega) q1 (by omega)
            have al2 : anot s (u + 1) < 2 ^ 5 := anot_lt (n := 5) (by omega)
            have an2 := anotN (a := s) (b := u + 1) (by omega) (by omega)
            have rc := parts_M hP (J := J) hb n (anot s (u + 1)) (by omega) (by omega) (by omega)
            have g2 := mP_le (zB b) n (anot s (u + 1))
            have oa : (1 : Int32) + nI (mP (zB b) n (anot s (u + 1))) = nI (1 + mP (zB b) n (anot s (u + 1))) := nI_add 1 _
            have le : nI (1 + mP (zB b) n (anot s (u + 1))) ≤ nI best ↔ 1 + mP (zB b) n (anot s (u + 1)) ≤ best := nI_leI (by omega) (by omega)
            by_cases hle : 1 + mP (zB b) n (anot s (u + 1)) ≤ best
            · refine ⟨(nI best, nI (u &&& s), mm P I J), ?_, best, u &&& s, rfl, sub_and u s, by omega, by omega⟩
              simp only [F_X12_partsOf_4b, ↓reduceIte, c1, p14, F_X12_partsOf_51, F_X12_partsOf_84, F_X12_partsOf_85, hz, ↓bOM hP, an2, ↓bs rc, oa, Option.bind_some, le, hle, sb, an]
            · refine ⟨(nI (1 + mP (zB b) n (anot s (u + 1))), nI (u &&& s), mm P I J), ?_, _, u &&& s, rfl, sub_and u s, by omega, by omega⟩
              simp only [F_X12_partsOf_4b, ↓reduceIte, c1, p14, F_X12_partsOf_51, F_X12_partsOf_84, F_X12_partsOf_85, hz, ↓bOM hP, an2, ↓bs rc, oa, Option.bind_some, le, hle, sb, an]
          · rw [decide_eq_false hz, if_neg (by decide)] at q3
            refine ⟨(nI best, nI (u &&& s), mm P I J), ?_, best, u &&& s, rfl, sub_and u s, by omega, q3⟩
            simp only [F_X12_partsOf_4b, ↓reduceIte, c1, p14, F_X12_partsOf_51, F_X12_partsOf_85, hz, Option.bind_some, sb, an]
      · obtain ⟨best, v, rfl, q1, q2, q3⟩ := hq
        omega
    obtain ⟨r, k1, rfl⟩ := key
    exact k1

/-! ===== payments ===== -/
theorem sim_payments : xSim INV (F_X11_payments 0) (F_X12_payments 164) := by
  refine xSim_qn fun n M hn hI => ?_
  obtain ⟨P, I, J, rfl, hP⟩ := G_mm hI.1
  obtain ⟨t, c, cs, nx, hw, hL, hA, hc, hC, hD, -⟩ := INV_sh hI
  have hd := hw.2.2.2.2.2.2.1
  have hA1 : LandA (xu I 164 0 0 165) 0 t := LandA_cg (A := I 165) hw (fun x _ => xu_o (by omega)) hA
  have bC : ∀ o, o < 5 → I 19 o = (fun o => Int32.ofInt (balI (tDebts t) o)) o := fun o ho => by
    have b1 : (I 19 o).toInt = balI (tDebts t) o := hL.2.2.2.2.2.2.2.2.2.1 o ho
    show I 19 o = Int32.ofInt (balI (tDebts t) o)
    rw [← b1, Int32.ofInt_toInt]
  have bM : ∀ o, o < 5 → F_X12_balanceOf 164 (nI o) (mm P (xu I 164 0 0) J) = some ((fun o => Int32.ofInt (balI (tDebts t) o)) o, mm P (xu I 164 0 0) J) := fun o ho => bal_M hP (J := J) hw hA1 ho
  have zz : zB (fun o => Int32.ofInt (balI (tDebts t) o)) 31 = true := zB_all (ds := tDebts t) (fun q hq => ⟨(hd.2 q hq).1, (hd.2 q hq).2.1⟩) (fun o _ => rfl)
  revert bC bM zz
  generalize (fun o => Int32.ofInt (balI (tDebts t) o)) = b
  intro bC bM zz
  have mc := most_C hP (J := J) bC 6 31 (by omega) (by omega) (cnt_6 31 (by omega))
  have mc' : Fx_X3_mostGroups 14 (31 : Int32) (mm P I J) = some (nI (mC (zB b) 6 31), mm P I J) := mc
  have nl := nz_lt (fun o => decide (b o = 0)) 5 (by omega)
  have mp := parts_M hP (J := J) bM 6 (nzB (fun o => decide (b o = 0)) 5) (by omega) (by omega) (cnt_6 _ (by omega))
  have mp' : Fx_X12_partsOf 164 (nI (nzB (fun o => decide (b o = 0)) 5)) (mm P (xu I 164 0 0) J) = some (nI (mP (zB b) 6 (nzB (fun o => decide (b o = 0)) 5)), mm P (xu I 164 0 0) J) := mp
  have bits := bitsOf_M (m := nzB (fun o => decide (b o = 0)) 5) (by omega) (mm P (xu I 164 0 0) J)
  have eq := mP_nz b
  have ecp := mC_mP (zB_ok b) (s := 31) (by omega) zz
  have l1 := mP_le (zB b) 6 31
  have l2 := mP_le (zB b) 6 (nzB (fun o => decide (b o = 0)) 5)
  have l3 := cnt_6 (nzB (fun o => decide (b o = 0)) 5) (by omega)
  have res : (5 : Int32) - nI (mC (zB b) 6 31) = nI (cntN (nzB (fun o => decide (b o = 0)) 5) 25) - nI (mP (zB b) 6 (nzB (fun o => decide (b o = 0)) 5)) := by
    apply Int32.toInt_inj.mp
    have x1 : ((5 : Int32) - nI (mC (zB b) 6 31)).toInt = ((5 : Nat) : Int) - (mC (zB b) 6 31 : Nat) := pk_sub_toInt (a := 5) (b := mC (zB b) 6 31) (by omega) (by omega)
    have x2 := pk_sub_toInt (a := cntN (nzB (fun o => decide (b o = 0)) 5) 25) (b := mP (zB b) 6 (nzB (fun o => decide (b o = 0)) 5)) (by omega) (by omega)
    rw [x1, x2]
    omega
  refine ⟨(5 : Int32) - nI (mC (zB b) 6 31), mm P I J, mm P (xu I 164 0 0) J, ?_, Sc.rf, ?_, thr_Sc⟩
  · simp only [F_X11_payments, F_X3_fewestPayments, ↓bOC hP, ↓bs mc', ↓Option.bind_some]
  · have lp : F_X12_payments_9 164 0 0 (mm P (xu I 164 0 0) J) = some (nI (cntN (nzB (fun o => decide (b o = 0)) 5) 25) - nI (mP (zB b) 6 (nzB (fun o => decide (b o = 0)) 5)), mm P (xu I 164 0 0) J) := by
      unfold F_X12_payments_9
      refine xit_run (fun j => (nI (nzB (fun o => decide (b o = 0)) j), nI j, mm P (xu I 164 0 0) J)) 5 rfl (fun j hj => ?_) ?_ (by omega)
      · have c1 : ¬ (5 : Int32) ≤ nI j := nI_ge (b := 5) hj (by omega)
        have w := bM j hj
        have nj := nz_lt (fun o => decide (b o = 0)) j (by omega)
        have pj : 2 ^ j < 2 ^ 31 := Nat.pow_lt_pow_right (by omega) (by omega)
        have oo := orN (a := nzB (fun o => decide (b o = 0)) j) (b := 2 ^ j) (by omega) pj
        have e : nzB (fun o => decide (b o = 0)) (j + 1) = if decide (b j = 0) then nzB (fun o => decide (b o = 0)) j else nzB (fun o => decide (b o = 0)) j ||| 2 ^ j := rfl
        rw [e]
        by_cases hz : b j = 0
        · rw [decide_eq_true hz, if_pos rfl]
          simp only [F_X12_payments_9b, F_X12_payments_30, ↓reduceIte, c1, ↓bOM hP, ↓bs w, hz, Option.bind_some, Int32.or_zero, nI_1]
        · rw [decide_eq_false hz, if_neg (by decide)]
          simp only [F_X12_payments_9b, F_X12_payments_30, ↓reduceIte, c1, ↓bOM hP, ↓bs w, hz, Option.bind_some, one_shl (show j < 31 by omega), oo, nI_1]
      · have c1 : (5 : Int32) ≤ nI 5 := by decide
        simp only [F_X12_payments_9b, F_X12_payments_38, ↓reduceIte, c1, ↓bs bits, ↓bOM hP, ↓bs mp']
    rw [res]
    simp only [F_X12_payments, ↓bOM hP, lp]
