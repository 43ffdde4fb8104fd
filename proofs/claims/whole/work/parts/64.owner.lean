/-! ===== who holds most ===== -/
def ownH (c : Cst) (h : Nat) : Nat := (((cHouses c)[h]?).map Prod.snd).getD 0
def hasN (c : Cst) (o : Nat) : Nat → Nat
  | 0 => 0
  | h + 1 => hasN c o h + (if ownH c h = o ∧ (cStand c).testBit h = true then 1 else 0)
theorem hasN_le (c : Cst) (o : Nat) : ∀ h, hasN c o h ≤ h
  | 0 => Nat.le_refl _
  | h + 1 => by
    have := hasN_le c o h
    unfold hasN
    split <;> omega
def bestO (q : Nat → Nat) : Nat → Int32 × Nat
  | 0 => (-1, 0)
  | o + 1 => if q o ≤ (bestO q o).2 then bestO q o else (nI o, q o)
theorem bestO_le {q : Nat → Nat} {k : Nat} (h : ∀ o, q o ≤ k) : ∀ o, (bestO q o).2 ≤ k
  | 0 => Nat.zero_le _
  | o + 1 => by
    have := bestO_le h o
    unfold bestO
    split
    · exact this
    · exact h o
theorem own_at {c : Cst} {h : Nat} (hh : h < (cHouses c).length) : ∃ q, (cHouses c)[h]? = some q ∧ ownH c h = q.2 := by
  refine ⟨_, List.getElem?_eq_getElem hh, ?_⟩
  unfold ownH
  rw [List.getElem?_eq_getElem hh]
  rfl
theorem has_C {P : Nat → Nat → Option Nat} (hP : GP P) {I : Nat → Nat → Int32} {J : Nat → Nat → Int64} {t : Txt} {c : Cst} {n k o : Nat} (hk : k ∈ coastL) (hc : wfC t c n) (hC : CoI I k t c) (ho : o < 5) : F_X0_housesOf k (nI o) (mm P I J) = some (nI (hasN c o (cHouses c).length), mm P I J) := by
  have hl := hc.2.1.1
  have slt := stand_lt hc
  have b3 : I k 3 = nI (cHouses c).length := hC.2.1
  have b4 : I k 4 = nI (cStand c) := hC.2.2.2.1
  unfold F_X0_housesOf F_X0_housesOf_4
  refine xit_run (fun j => (nI (hasN c o j), nI j, mm P I J)) (cHouses c).length rfl (fun j hj => ?_) ?_ (by omega)
  · obtain ⟨q, hq, hcell⟩ := own_at hj
    have bo : I (k + 3) j = nI (ownH c j) := by rw [hcell]; exact (hC.2.2.1 j q hq).2
    have ol : ownH c j < 5 := by rw [hcell]; exact (hc.2.1.2 q (List.mem_of_getElem? hq)).2
    have c1 : ¬ nI (cHouses c).length ≤ nI j := nI_ge hj (by omega)
    have bt := bitN (s := cStand c) (c := j) (by omega) (by omega)
    have ce : nI (ownH c j) = nI o ↔ ownH c j = o := nI_eqI (by omega) (by omega)
    simp (disch := omega) only [F_X0_housesOf_4b, F_X0_housesOf_33, ↓bOK hP hk, ↓reduceIte, b3, c1, bo, ce, b4, bt, nI_1, ↓Option.bind_some, hasN]
    by_cases h1 : ownH c j = o
    · simp only [h1, if_true]
      cases hb : (cStand c).testBit j
      · simp
      · simp [nI_1]
    · simp [h1]
  · have c1 : nI (cHouses c).length ≤ nI (cHouses c).length := nI_le (Nat.le_refl _) (by omega)
    simp only [F_X0_housesOf_4b, F_X0_housesOf_39, ↓bOK hP hk, ↓reduceIte, b3, c1, Option.map_some]
theorem owner_C {P : Nat → Nat → Option Nat} (hP : GP P) {I : Nat → Nat → Int32} {J : Nat → Nat → Int64} {t : Txt} {c : Cst} {n : Nat} (hc : wfC t c n) (hC : CoI I 25 t c) : F_X11_owner_22 0 (-1) 0 0 (mm P I J) = some ((bestO (fun o => hasN c o (cHouses c).length) 5).1, mm P I J) := by
  have hl := hc.2.1.1
  have bl : ∀ o, (bestO (fun o => hasN c o (cHouses c).length) o).2 ≤ 6 := bestO_le (fun o => by have := hasN_le c o (cHouses c).length; omega)
  unfold F_X11_owner_22
  refine xit_run (fun j => ((bestO (fun o => hasN c o (cHouses c).length) j).1, nI (bestO (fun o => hasN c o (cHouses c).length) j).2, nI j, mm P I J)) 5 rfl (fun j hj => ?_) ?_ (by omega)
  · have c1 : ¬ (5 : Int32) ≤ nI j := nI_ge (b := 5) hj (by omega)
    have hh := has_C hP (J := J) (k := 25) (by decide) hc hC hj
    have b := bl j
    have hs := hasN_le c j (cHouses c).length
    have ce : nI (hasN c j (cHouses c).length) ≤ nI (bestO (fun o => hasN c o (cHouses c).length) j).2 ↔ hasN c j (cHouses c).length ≤ (bestO (fun o => hasN c o (cHouses c).length) j).2 := nI_leI (by omega) (by omega)
    simp only [F_X11_owner_22b, F_X11_owner_51, ↓reduceIte, c1, ↓bOC hP, ↓bs hh, ce, nI_1, bestO]
    split <;> rfl
  · have c1 : (5 : Int32) ≤ nI 5 := by decide
    simp only [F_X11_owner_22b, F_X11_owner_57, ↓reduceIte, c1, Option.map_some]
theorem owner_M {P : Nat → Nat → Option Nat} (hP : GP P) {I : Nat → Nat → Int32} {J : Nat → Nat → Int64} {t : Txt} {c : Cst} {n : Nat} (hc : wfC t c n) (hH : HsM I c) (hO : OnM I t c) : F_X12_owner_32 164 (-1) 0 0 (mm P I J) = some ((bestO (fun o => hasN c o (cHouses c).length) 5).1, mm P I J) := by
  have hl := hc.2.1.1
  have bl : ∀ o, (bestO (fun o => hasN c o (cHouses c).length) o).2 ≤ 6 := bestO_le (fun o => by have := hasN_le c o (cHouses c).length; omega)
  obtain ⟨-, ⟨f, f1, f2, f3⟩, -⟩ := hO
  obtain ⟨b1, b2, -⟩ := hH
  have inner : ∀ (v2 : Int32) (v3 : Int32) (j : Nat), j < 5 → F_X12_owner_44 164 v2 v3 (nI j) 0 0 (mm P I J) = F_X12_owner_104 164 v2 v3 (nI j) (nI (hasN c j (cHouses c).length)) (mm P I J) := by
    intro v2 v3 j hj
    unfold F_X12_owner_44
    refine xit_run (fun h => (nI (hasN c j h), nI h, mm P I J)) (cHouses c).length rfl (fun h hh => ?_) ?_ (by omega)
    · obtain ⟨q, hq, hcell⟩ := own_at hh
      have bo : I 165 (94 + 2 * h) = nI (ownH c h) := by rw [hcell]; exact (b2 h q hq).2
      have ol : ownH c h < 5 := by rw [hcell]; exact (hc.2.1.2 q (List.mem_of_getElem? hq)).2
      have c1 : ¬ nI (cHouses c).length ≤ nI h := nI_ge hh (by omega)
      have ii := isInM (m := f) (c := h) (by omega) (by omega) (mm P I J)
      rw [f3 h hh] at ii
      have ce : nI (ownH c h) = nI j ↔ ownH c h = j := nI_eqI (by omega) (by omega)
      have e93 : (93 : Int32) + (2 : Int32) * nI h + 1 = nI (94 + 2 * h) := by rw [show (2 : Int32) = nI 2 from rfl, pk_mul, show (93 : Int32) = nI 93 from rfl, nI_add, nI_1]; congr 1; omega
      unfold F_X12_owner_44b F_X12_owner_94 F_X12_owner_95
      simp only [e93]
      cases hb : (cStand c).testBit h
      · rw [hb] at ii
        simp (disch := omega) only [↓bOM hP, ↓bAM, b1, ↓reduceIte, c1, f2, ↓bs ii, Bool.not_false, one_ne, ↓Option.bind_some, nI_1, hasN, hb]
        simp
      · rw [hb] at ii
        simp (disch := omega) only [↓bOM hP, ↓bAM, b1, ↓reduceIte, c1, f2, ↓bs ii, Bool.not_true, Bool.false_eq_true, bo, ce, ↓Option.bind_some, nI_1, hasN, hb]
        by_cases h1 : ownH c h = j
        · simp [h1, nI_1]
        · simp [h1]
    · have c1 : nI (cHouses c).length ≤ nI (cHouses c).length := nI_le (Nat.le_refl _) (by omega)
      simp only [F_X12_owner_44b, ↓bOM hP, ↓bAM, ↓reduceIte, b1, c1]
  unfold F_X12_owner_32
  refine xit_run (fun j => ((bestO (fun o => hasN c o (cHouses c).length) j).1, nI (bestO (fun o => hasN c o (cHouses c).length) j).2, nI j, mm P I J)) 5 rfl (fun j hj => ?_) ?_ (by omega)
  · have c1 : ¬ (5 : Int32) ≤ nI j := nI_ge (b := 5) hj (by omega)
    have b := bl j
    have hs := hasN_le c j (cHouses c).length
    have ce : nI (bestO (fun o => hasN c o (cHouses c).length) j).2 < nI (hasN c j (cHouses c).length) ↔ (bestO (fun o => hasN c o (cHouses c).length) j).2 < hasN c j (cHouses c).length := nI_ltI (by omega) (by omega)
    simp only [F_X12_owner_32b, ↓reduceIte, c1, inner _ _ j hj, F_X12_owner_104, F_X12_owner_119, ce, nI_1, bestO]
    by_cases h : hasN c j (cHouses c).length ≤ (bestO (fun o => hasN c o (cHouses c).length) j).2
    · rw [if_neg (by omega), if_pos h]
    · rw [if_pos (by omega), if_neg h]
  · have c1 : (5 : Int32) ≤ nI 5 := by decide
    simp only [F_X12_owner_32b, F_X12_owner_125, ↓reduceIte, c1, Option.map_some]
theorem sim_owner (a1 : Int32) : xSim INV (F_X11_owner 0 a1) (F_X12_owner 164 a1) := by
  refine xSim_qn fun n M hn hI => ?_
  obtain ⟨P, I, J, rfl, hP⟩ := G_mm hI.1
  obtain ⟨t, c, cs, nx, hw, hL, hA, hc, hC, hD, -⟩ := INV_sh hI
  have z0 : (0 : Int64).toInt = 0 := by decide
  have z60 : (60 : Int64).toInt = 60 := by decide
  by_cases h : 0 ≤ a1.toInt ∧ a1.toInt ≤ 60
  · obtain ⟨m, hm, rfl⟩ := cell_of (a := a1) (n := 61) (by omega) (by omega)
    obtain ⟨I1, q1, q2⟩ := goOn_C hP (I := I) (J := J) hw hc (by omega) hL hC (m := m) (by omega)
    have e165 : ∀ i, xu I1 164 0 0 165 i = I 165 i := fun i => by rw [xu_o (by omega), q2.1 _ _ (by omega) (by omega) (by omega) (by omega)]
    have hA1 : LandA (xu I1 164 0 0 165) 0 t := LandA_cg (A := I 165) hw (fun x _ => e165 _) hA
    have hD1 : CoastA (xu I1 164 0 0 165) 67 t c := CoastA_cg (A := I 165) hw hc (fun x _ => e165 _) hD
    obtain ⟨I2, r1, r2⟩ := goesFor_M hP (I := xu I1 164 0 0) (J := J) hw hc (by omega) hA1 hD1 (m := m) (by omega)
    have hH2 : HsM I2 (itS t c m) := HsM_fr (I := xu I1 164 0 0) (fun i => r2.1 _ _ (by omega) (by omega) (by omega) (by omega) (by omega)) (HsM_it (HsM_of hD1) m)
    have oc := owner_C hP (J := J) (it_wf hc m (by omega)) q2.2
    have om := owner_M hP (J := J) (it_wf hc m (by omega)) hH2 r2.2
    refine ⟨(bestO (fun o => hasN (itS t c m) o (cHouses (itS t c m)).length) 5).1, mm P I1 J, mm P I2 J, ?_, ahC_Sc q2, ?_, ahM_Sc r2⟩
    · simp only [F_X11_owner, ↓bs (isAheadC _ _), h, ↓reduceIte, and_self, one_ne, ↓bOC hP, ↓bs q1, oc]
    · simp only [F_X12_owner, ↓bOM hP, within_lit, ↓Option.bind_some, z0, z60, h, and_self, ↓reduceIte, one_ne, ↓bs r1, om]
  · refine ⟨-3, mm P I J, thr (mm P I J), ?_, Sc.rf, ?_, thr_Sc⟩
    · simp only [F_X11_owner, ↓bs (isAheadC _ _), if_neg h, ↓reduceIte]
    · simp only [F_X12_owner, ↓bOM hP, within_lit, ↓Option.bind_some, z0, z60, if_neg h, ↓reduceIte, thr_mm]
