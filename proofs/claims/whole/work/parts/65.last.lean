/-! ===== which house stands longest ===== -/
def TN (p : Nat → Bool) : Nat → Nat → Nat
  | _, 0 => 268435456
  | j, n + 1 => if p j then j else TN p (j + 1) n
theorem TN_find {p : Nat → Bool} : ∀ n j, j + n < 268435456 → findF p j n = if TN p j n = 268435456 then -1 else nI (TN p j n)
  | 0, j, _ => rfl
  | n + 1, j, h => by
    unfold findF TN
    cases hp : p j with
    | true =>
      rw [if_pos rfl, if_pos rfl, if_neg (by omega)]
    | false =>
      simp only [Bool.false_eq_true, if_false]
      exact TN_find n (j + 1) (by omega)
theorem TN_none {p : Nat → Bool} : ∀ n j, (∀ m, j ≤ m → m < j + n → p m = false) → TN p j n = 268435456
  | 0, j, _ => rfl
  | n + 1, j, h => by
    unfold TN
    rw [h j (by omega) (by omega), if_neg (by decide)]
    exact TN_none n (j + 1) (fun m h1 h2 => h m (by omega) (by omega))
theorem TN_val {p : Nat → Bool} {x : Nat} (hx : p x = true) : ∀ n j, j ≤ x → x < j + n → (∀ m, j ≤ m → m < x → p m = false) → TN p j n = x
  | 0, j, h1, h2, _ => by omega
  | n + 1, j, h1, h2, h3 => by
    unfold TN
    by_cases e : j = x
    · rw [e, hx, if_pos rfl]
    · rw [h3 j (by omega) (by omega), if_neg (by decide)]
      exact TN_val hx n (j + 1) (by omega) (by omega) (fun m h4 h5 => h3 m (by omega) h5)
theorem TN_le {p : Nat → Bool} {x : Nat} (hx : p x = true) : ∀ n j, j ≤ x → x < j + n → TN p j n ≤ x
  | 0, j, h1, h2 => by omega
  | n + 1, j, h1, h2 => by
    unfold TN
    split
    · exact h1
    · next hp =>
      by_cases e : j = x
      · rw [e] at hp; exact absurd hx hp
      · exact TN_le hx n (j + 1) (by omega) (by omega)
theorem TN_bd {p : Nat → Bool} : ∀ n j, j + n ≤ 268435456 → TN p j n ≤ 268435456
  | 0, j, _ => Nat.le_refl _
  | n + 1, j, h => by
    unfold TN
    split
    · omega
    · exact TN_bd n (j + 1) (by omega)
/-- the lowest of six bits -/
def tz (s : Nat) : Nat := if s.testBit 0 then 0 else if s.testBit 1 then 1 else if s.testBit 2 then 2 else if s.testBit 3 then 3 else if s.testBit 4 then 4 else 5
theorem tz_ok : ∀ s, s < 64 → s ≠ 0 → s.testBit (tz s) = true ∧ tz s < 6 ∧ ∀ i, i < 6 → i < tz s → s.testBit i = false := by decide +kernel
theorem ntz_M (x : Int32) (M : xM) : F_J6_numberOfTrailingZeros_0f7a4 x M = (F_J6_numberOfTrailingZeros_0f7a4 x xM0).map (fun r => (r.1, M)) := by
  unfold F_J6_numberOfTrailingZeros_0f7a4 F_J6_numberOfTrailingZeros_0f7a4_34 F_J6_numberOfTrailingZeros_0f7a4_49 F_J6_numberOfTrailingZeros_0f7a4_62
  simp only [Option.bind_some]
  repeat' split
  all_goals rfl
theorem ntz64 : ∀ s, s < 64 → s ≠ 0 → (F_J6_numberOfTrailingZeros_0f7a4 (nI s) xM0).map Prod.fst = some (nI (tz s)) := by decide +kernel
theorem ntz_ok {s : Nat} (h : s < 64) (h0 : s ≠ 0) (M : xM) : F_J6_numberOfTrailingZeros_0f7a4 (nI s) M = some (nI (tz s), M) := by
  have h1 := ntz64 s h h0
  rw [ntz_M]
  cases e : F_J6_numberOfTrailingZeros_0f7a4 (nI s) xM0 with
  | none => rw [e] at h1; cases h1
  | some r =>
    rw [e] at h1
    simp only [Option.map_some, Option.some.injEq] at h1 ⊢
    rw [h1]
def lastN (T : Nat → Nat) (S : Nat) : Nat → Int32 × Int32
  | 0 => (-1, -1)
  | j + 1 => if S.testBit j then (if (lastN T S j).2 < nI (T j) then (nI j, nI (T j)) else lastN T S j) else lastN T S j
theorem lastN_ok {T : Nat → Nat} {S K v : Nat} (hv : v < 2 ^ 31) (hv0 : 0 < v) (sub : ∀ h, K.testBit h = true → S.testBit h = true) (h1 : ∀ h, K.testBit h = true → T h = v) (h2 : ∀ h, S.testBit h = true → ¬ K.testBit h = true → T h < v) {z : Nat} (hz : K.testBit z = true) (hz2 : ∀ i, i < z → K.testBit i = false) : ∀ j, (j ≤ z → (lastN T S j).2 < nI v) ∧ (z < j → lastN T S j = (nI z, nI v))
  | 0 => ⟨fun _ => (show (-1 : Int32) < nI v from by
      rw [Int32.lt_iff_toInt_lt, nI_toInt hv]
      have : (-1 : Int32).toInt = -1 := by decide
      omega), fun h => by omega⟩
  | j + 1 => by
    obtain ⟨ih1, ih2⟩ := lastN_ok hv hv0 sub h1 h2 hz hz2 j
    refine ⟨fun hj => ?_, fun hj => ?_⟩
    · have := ih1 (by omega)
      unfold lastN
      by_cases hs : S.testBit j = true
      · have hk : ¬ K.testBit j = true := by rw [hz2 j (by omega)]; decide
        have := h2 j hs hk
        rw [if_pos hs]
        split
        · exact nI_lt this hv
        · assumption
      · rw [if_neg hs]; assumption
    · unfold lastN
      by_cases e : j = z
      · subst e
        rw [if_pos (sub _ hz), h1 _ hz, if_pos (ih1 (Nat.le_refl _))]
      · rw [ih2 (by omega)]
        by_cases hs : S.testBit j = true
        · have hT : T j ≤ v := by
            by_cases hk : K.testBit j = true
            · exact Nat.le_of_eq (h1 j hk)
            · exact Nat.le_of_lt (h2 j hs hk)
          rw [if_pos hs, if_neg (nI_nlt hT hv)]
        · rw [if_neg hs]
theorem st_mono {t : Txt} {c : Cst} {h : Nat} : ∀ i j, i ≤ j → (cStand (itS t c j)).testBit h = true → (cStand (itS t c i)).testBit h = true
  | i, 0, hij, hb => by rw [show i = 0 by omega]; exact hb
  | i, j + 1, hij, hb => by
    by_cases e : i = j + 1
    · rw [e]; exact hb
    · refine st_mono i j (by omega) ?_
      have hb' : (fellN (itS t c j) _ _).testBit h = true := hb
      rw [fellN_bit, Bool.and_eq_true] at hb'
      exact hb'.1
theorem last_M {P : Nat → Nat → Option Nat} (hP : GP P) {I : Nat → Nat → Int32} {J : Nat → Nat → Int64} {t : Txt} {c : Cst} {n : Nat} (hw : wfT t) (hc : wfC t c n) (hn : n < 1000) (hA : LandA (I 165) 0 t) (hD : CoastA (I 165) 67 t c) : ∃ I', F_X12_last_11 164 (-1) (-1) 0 (mm P I J) = some ((lastN (fun h => TN (fallP t c h) 1 60) (cStand c) (cHouses c).length).1, mm P I' J) ∧ (∀ a i, ¬ (a = 164 ∧ (i = 20 ∨ i = 21)) → a ≠ 169 → a ≠ 170 → a ≠ 171 → a ≠ 172 → I' a i = I a i) := by
  have hl := hc.2.1.1
  have key : ∃ r : Int32 × xM, xit (F_X12_last_11b 164) xFU (-1, -1, nI 0, mm P I J) = some r ∧ (∃ I', r = ((lastN (fun h => TN (fallP t c h) 1 60) (cStand c) (cHouses c).length).1, mm P I' J) ∧ (∀ a i, ¬ (a = 164 ∧ (i = 20 ∨ i = 21)) → a ≠ 169 → a ≠ 170 → a ≠ 171 → a ≠ 172 → I' a i = I a i)) := by
    refine xit_inv (fun j z => ∃ I', z = ((lastN (fun h => TN (fallP t c h) 1 60) (cStand c) j).1, (lastN (fun h => TN (fallP t c h) 1 60) (cStand c) j).2, nI j, mm P I' J) ∧ (∀ a i, ¬ (a = 164 ∧ (i = 20 ∨ i = 21)) → a ≠ 169 → a ≠ 170 → a ≠ 171 → a ≠ 172 → I' a i = I a i)) _ (cHouses c).length ⟨I, rfl, fun _ _ _ _ _ _ _ => rfl⟩ (fun j z hj hq => ?_) (fun z hq => ?_) (by omega)
    · obtain ⟨I1, rfl, q1⟩ := hq
      left
      have e165 : ∀ i, I1 165 i = I 165 i := fun i => q1 165 i (by omega) (by omega) (by omega) (by omega) (by omega)
      have hA1 : LandA (I1 165) 0 t := LandA_cg (A := I 165) hw (fun x _ => e165 _) hA
      have hD1 : CoastA (I1 165) 67 t c := CoastA_cg (A := I 165) hw hc (fun x _ => e165 _) hD
      have b1 : I1 165 92 = nI (cHouses c).length := hD1.2.1
      obtain ⟨f, f1, f2, f3⟩ := hD1.2.2.2.1
      have f2' : I1 165 105 = nI f := f2
      have c1 : ¬ nI (cHouses c).length ≤ nI j := nI_ge hj (by omega)
      have ii := isInM (m := f) (c := j) (by omega) (by omega) (mm P I1 J)
      rw [f3 j hj] at ii
      cases hb : (cStand c).testBit j with
      | false =>
        rw [hb] at ii
        refine ⟨((lastN (fun h => TN (fallP t c h) 1 60) (cStand c) (j + 1)).1, (lastN (fun h => TN (fallP t c h) 1 60) (cStand c) (j + 1)).2, nI (j + 1), mm P I1 J), ?_, I1, rfl, q1⟩
        have el : lastN (fun h => TN (fallP t c h) 1 60) (cStand c) (j + 1) = lastN (fun h => TN (fallP t c h) 1 60) (cStand c) j := by
          show (if (cStand c).testBit j then _ else _) = _
          rw [hb]
          rfl
        rw [el]
        simp (disch := omega) only [F_X12_last_11b, F_X12_last_76, ↓bOM hP, ↓bAM, b1, ↓reduceIte, c1, f2', ↓bs ii, Bool.not_false, one_ne, nI_1]
      | true =>
        rw [hb] at ii
        obtain ⟨I2, r1, c2, r2⟩ := fallsIn_M hP (I := I1) (J := J) hw hc hn hA1 hD1 hj hb
        have bd := TN_bd (p := fallP t c j) 60 1 (by omega)
        rw [TN_find 60 1 (by omega)] at r1
        have el : lastN (fun h => TN (fallP t c h) 1 60) (cStand c) (j + 1) = if (lastN (fun h => TN (fallP t c h) 1 60) (cStand c) j).2 < nI (TN (fallP t c j) 1 60) then (nI j, nI (TN (fallP t c j) 1 60)) else lastN (fun h => TN (fallP t c h) 1 60) (cStand c) j := by
          show (if (cStand c).testBit j then _ else _) = _
          rw [hb]
          rfl
        have fin : ∀ I', F_X12_last_60 164 (lastN (fun h => TN (fallP t c h) 1 60) (cStand c) j).1 (lastN (fun h => TN (fallP t c h) 1 60) (cStand c) j).2 (nI j) (nI (TN (fallP t c j) 1 60)) (mm P I' J) = some (.inl ((lastN (fun h => TN (fallP t c h) 1 60) (cStand c) (j + 1)).1, (lastN (fun h => TN (fallP t c h) 1 60) (cStand c) (j + 1)).2, nI (j + 1), mm P I' J)) := by
          intro I'
          rw [el]
          unfold F_X12_last_60 F_X12_last_76
          split <;> simp only [nI_1]
        by_cases hT : TN (fallP t c j) 1 60 = 268435456
        · rw [if_pos hT] at r1
          have fin2 := fin I2
          rw [hT] at fin2
          have fin3 : F_X12_last_60 164 (lastN (fun h => TN (fallP t c h) 1 60) (cStand c) j).1 (lastN (fun h => TN (fallP t c h) 1 60) (cStand c) j).2 (nI j) (268435456 : Int32) (mm P I2 J) = _ := fin2
          refine ⟨((lastN (fun h => TN (fallP t c h) 1 60) (cStand c) (j + 1)).1, (lastN (fun h => TN (fallP t c h) 1 60) (cStand c) (j + 1)).2, nI (j + 1), mm P I2 J), ?_, I2, rfl, fun a i g1 g2 g3 g4 g5 => by rw [r2.1 a i g1 g2 g3 g4 g5, q1 a i g1 g2 g3 g4 g5]⟩
          simp (disch := omega) only [F_X12_last_11b, ↓bOM hP, ↓bAM, b1, ↓reduceIte, c1, f2', ↓bs ii, Bool.not_true, Bool.false_eq_true, ↓bs r1]
          exact fin3
        · rw [if_neg hT] at r1
          have e165' : ∀ i, I2 165 i = I 165 i := fun i => by rw [r2.1 165 i (by omega) (by omega) (by omega) (by omega) (by omega)]; exact e165 i
          obtain ⟨I3, s1, c3, s2⟩ := fallsIn_M hP (I := I2) (J := J) hw hc hn (LandA_cg (A := I 165) hw (fun x _ => e165' _) hA) (CoastA_cg (A := I 165) hw hc (fun x _ => e165' _) hD) hj hb
          rw [TN_find 60 1 (by omega), if_neg hT] at s1
          refine ⟨((lastN (fun h => TN (fallP t c h) 1 60) (cStand c) (j + 1)).1, (lastN (fun h => TN (fallP t c h) 1 60) (cStand c) (j + 1)).2, nI (j + 1), mm P I3 J), ?_, I3, rfl, fun a i g1 g2 g3 g4 g5 => by rw [s2.1 a i g1 g2 g3 g4 g5, r2.1 a i g1 g2 g3 g4 g5, q1 a i g1 g2 g3 g4 g5]⟩
          have ne : ¬ nI (TN (fallP t c j) 1 60) = -1 := nI_ne_m1 (by omega)
          simp (disch := omega) only [F_X12_last_11b, ↓bOM hP, ↓bAM, b1, ↓reduceIte, c1, f2', ↓bs ii, Bool.not_true, Bool.false_eq_true, ↓bs r1, ne, ↓bs s1]
          exact fin I3
    · obtain ⟨I1, rfl, q1⟩ := hq
      have b1 : I1 165 92 = nI (cHouses c).length := by rw [q1 165 92 (by omega) (by omega) (by omega) (by omega) (by omega)]; exact hD.2.1
      have c1 : nI (cHouses c).length ≤ nI (cHouses c).length := nI_le (Nat.le_refl _) (by omega)
      refine ⟨((lastN (fun h => TN (fallP t c h) 1 60) (cStand c) (cHouses c).length).1, mm P I1 J), ?_, I1, rfl, q1⟩
      simp only [F_X12_last_11b, F_X12_last_82, ↓bOM hP, ↓bAM, ↓reduceIte, b1, c1, Option.map_some]
  obtain ⟨r, h1, I', rfl, h2⟩ := key
  exact ⟨I', h1, h2⟩
theorem last_C {P : Nat → Nat → Option Nat} (hP : GP P) {I I0 : Nat → Nat → Int32} {J : Nat → Nat → Int64} {t : Txt} {c : Cst} {n : Nat} (hw : wfT t) (hc : wfC t c n) (hn : n < 1000) (hL : LandC (mm P I J) 14 t) (h0 : ahC I I0 t c) (hne : cStand c ≠ 0) : ∃ I' K c', K ≤ 60 ∧ cStand (itS t c K) ≠ 0 ∧ (K = 60 ∨ cStand (itS t c (K + 1)) = 0) ∧ F_X11_last_33 0 (nI (cStand c)) 1 (mm P I0 J) = some (nI (tz (cStand (itS t c K))), mm P I' J) ∧ ahC I I' t c' := by
  have slt : ∀ j, j ≤ 99 → cStand (itS t c j) < 64 := fun j hj => stand_lt (it_wf hc j hj)
  have key : ∃ r : Int32 × xM, xit (F_X11_last_33b 0) xFU (nI (cStand c), nI 1, mm P I0 J) = some r ∧ (∃ I' K c', K ≤ 60 ∧ cStand (itS t c K) ≠ 0 ∧ (K = 60 ∨ cStand (itS t c (K + 1)) = 0) ∧ r = (nI (tz (cStand (itS t c K))), mm P I' J) ∧ ahC I I' t c') := by
    have stop : ∀ j I1, 1 ≤ j → j ≤ 60 → ahC I I1 t (itS t c j) → (∀ i, i < j → cStand (itS t c i) ≠ 0) → (j = 60 ∨ cStand (itS t c j) = 0) → ∃ r, F_X11_last_79 0 (nI (cStand (itS t c (j - 1)))) (mm P I1 J) = some r ∧ (∃ I' K c', K ≤ 60 ∧ cStand (itS t c K) ≠ 0 ∧ (K = 60 ∨ cStand (itS t c (K + 1)) = 0) ∧ r = (nI (tz (cStand (itS t c K))), mm P I' J) ∧ ahC I I' t c') := by
      intro j I1 hj hj6 q1 q2 q3
      have s4 : I1 25 4 = nI (cStand (itS t c j)) := q1.2.2.2.2.1
      by_cases hz : cStand (itS t c j) = 0
      · have nz := q2 (j - 1) (by omega)
        have nt := ntz_ok (slt (j - 1) (by omega)) nz (mm P I1 J)
        have z : nI (cStand (itS t c j)) = 0 := by rw [hz]; rfl
        refine ⟨_, by simp only [F_X11_last_79, F_X11_last_97, ↓bOC hP, s4, z, ↓reduceIte, ↓bs nt], I1, j - 1, _, by omega, nz, Or.inr (by rw [show j - 1 + 1 = j by omega]; exact hz), rfl, q1⟩
      · have nt := ntz_ok (slt j (by omega)) hz (mm P I1 J)
        have z : ¬ nI (cStand (itS t c j)) = 0 := nI_ne0 (by omega) (by have := slt j (by omega); omega)
        refine ⟨_, by simp only [F_X11_last_79, F_X11_last_97, ↓bOC hP, s4, z, ↓reduceIte, ↓bs nt], I1, j, _, hj6, hz, ?_, rfl, q1⟩
        rcases q3 with q3 | q3
        · exact Or.inl q3
        · exact absurd q3 hz
    refine xit_inv (fun j z => ∃ I', z = (nI (cStand (itS t c (j - 1))), nI (j + 1), mm P I' J) ∧ ahC I I' t (itS t c j) ∧ ∀ i, i < j → cStand (itS t c i) ≠ 0) _ 60 ⟨I0, rfl, h0, fun i hi => by omega⟩ (fun j z hj hq => ?_) (fun z hq => ?_) (by omega)
    · obtain ⟨I1, rfl, q1, q2⟩ := hq
      have s4 : I1 25 4 = nI (cStand (itS t c j)) := q1.2.2.2.2.1
      have c1 : ¬ (60 : Int32) < nI (j + 1) := nI_nlt (a := 60) (by omega) (by omega)
      by_cases hz : cStand (itS t c j) = 0
      · have hj1 : 1 ≤ j := by
          cases j with
          | zero => exact absurd hz hne
          | succ j => omega
        obtain ⟨r, e1, e2⟩ := stop j I1 hj1 (by omega) q1 q2 (Or.inr hz)
        refine Or.inr ⟨r, ?_, e2⟩
        have z : nI (cStand (itS t c j)) = 0 := by rw [hz]; rfl
        simp only [F_X11_last_33b, ↓reduceIte, c1, ↓bOC hP, s4, z, e1, Option.map_some]
      · obtain ⟨I2, e1, e2⟩ := ahead_tick hP (J := J) hw (it_wf hc j (by omega)) (by omega) hL q1
        refine Or.inl ⟨(nI (cStand (itS t c j)), nI (j + 1 + 1), mm P I2 J), ?_, I2, rfl, e2, fun i hi => ?_⟩
        · have z : ¬ nI (cStand (itS t c j)) = 0 := nI_ne0 (by omega) (by have := slt j (by omega); omega)
          simp only [F_X11_last_33b, ↓reduceIte, c1, ↓bOC hP, s4, z, ↓bs e1, nI_1]
        · by_cases e : i = j
          · rw [e]; exact hz
          · exact q2 i (by omega)
    · obtain ⟨I1, rfl, q1, q2⟩ := hq
      obtain ⟨r, e1, e2⟩ := stop 60 I1 (by omega) (by omega) q1 q2 (Or.inl rfl)
      refine ⟨r, ?_, e2⟩
      have c1 : (60 : Int32) < nI (60 + 1) := by decide
      simp only [F_X11_last_33b, ↓reduceIte, c1, e1, Option.map_some]
  obtain ⟨r, h1, I', K, c', k1, k2, k3, rfl, k4⟩ := key
  exact ⟨I', K, c', k1, k2, k3, h1, k4⟩
theorem sim_last : xSim INV (F_X11_last 0) (F_X12_last 164) := by
  refine xSim_qn fun n M hn hI => ?_
  obtain ⟨P, I, J, rfl, hP⟩ := G_mm hI.1
  obtain ⟨t, c, cs, nx, hw, hL, hA, hc, hC, hD, -⟩ := INV_sh hI
  have hl := hc.2.1.1
  have slt := stand_lt hc
  have s4 : I 21 4 = nI (cStand c) := hC.2.2.2.1
  have lm : ∀ I1, (∀ i, I1 165 i = I 165 i) → ∃ I', F_X12_last 164 (mm P I1 J) = some ((lastN (fun h => TN (fallP t c h) 1 60) (cStand c) (cHouses c).length).1, mm P I' J) ∧ Sc (mm P I1 J) (mm P I' J) := by
    intro I1 e
    have e165 : ∀ i, xu I1 164 0 0 165 i = I 165 i := fun i => by rw [xu_o (by omega), e]
    obtain ⟨I', r1, r2⟩ := last_M hP (I := xu I1 164 0 0) (J := J) hw hc (by omega) (LandA_cg (A := I 165) hw (fun x _ => e165 _) hA) (CoastA_cg (A := I 165) hw hc (fun x _ => e165 _) hD)
    refine ⟨I', ?_, Sc_mm (fun k i g => ?_) (fun _ _ _ => rfl)⟩
    · simp only [F_X12_last, ↓bOM hP, r1]
    · unfold scr at g
      rw [r2 k i (by omega) (by omega) (by omega) (by omega) (by omega), xu_o (by omega)]
  by_cases hz : cStand c = 0
  · obtain ⟨I', r1, r2⟩ := lm I (fun _ => rfl)
    have e0 : ∀ j, lastN (fun h => TN (fallP t c h) 1 60) (cStand c) j = (-1, -1) := by
      intro j
      induction j with
      | zero => rfl
      | succ j ih =>
        show (if (cStand c).testBit j then _ else _) = _
        rw [hz, Nat.zero_testBit]
        rw [hz] at ih
        exact ih
    rw [e0] at r1
    refine ⟨-1, mm P I J, mm P I' J, ?_, Sc.rf, r1, r2⟩
    have z : nI (cStand c) = 0 := by rw [hz]; rfl
    simp only [F_X11_last, ↓bOC hP, s4, z, ↓reduceIte]
  · obtain ⟨I0, t1, t2⟩ := ahead_take hP (I := I) (J := J) hw hc hC
    obtain ⟨I1, K, c', k1, k2, k3, q1, q2⟩ := last_C hP (J := J) hw hc (by omega) hL t2 hz
    obtain ⟨I', r1, r2⟩ := lm I1 (fun i => q2.1 _ _ (by omega) (by omega) (by omega) (by omega))
    have s4' : I0 21 4 = nI (cStand c) := by rw [t2.1 21 4 (by omega) (by omega) (by omega) (by omega)]; exact s4
    have tk := tz_ok (cStand (itS t c K)) (stand_lt (it_wf hc K (by omega))) k2
    have hlen : tz (cStand (itS t c K)) < (cHouses c).length := bit_lt hc.2.2.1 (st_mono 0 K (by omega) tk.1)
    have ok := (lastN_ok (T := fun h => TN (fallP t c h) 1 60) (S := cStand c) (K := cStand (itS t c K)) (v := if K = 60 then 268435456 else K + 1) (by split <;> omega) (by split <;> omega) (fun h hb => st_mono 0 K (by omega) hb) (fun h hb => by
      have hm : ∀ m, 1 ≤ m → m ≤ K → fallP t c h m = false := fun m _ h2 => by
        unfold fallP
        rw [st_mono m K h2 hb]
        rfl
      by_cases e : K = 60
      · rw [if_pos e]
        exact TN_none 60 1 (fun m h1 h2 => hm m h1 (by omega))
      · rw [if_neg e]
        have hz1 : cStand (itS t c (K + 1)) = 0 := by
          rcases k3 with k3 | k3
          · exact absurd k3 e
          · exact k3
        refine TN_val (p := fallP t c h) (x := K + 1) ?_ 60 1 (by omega) (by omega) (fun m h1 h2 => hm m h1 (by omega))
        unfold fallP
        rw [hz1, Nat.zero_testBit]
        rfl) (fun h hs hb => by
      have hp : fallP t c h K = true := by
        unfold fallP
        rw [Bool.eq_false_iff.mpr hb]
        rfl
      have hK : 1 ≤ K := by
        cases K with
        | zero => exact absurd hs hb
        | succ K => omega
      have := TN_le hp 60 1 hK (by omega)
      split <;> omega) tk.1 (fun i hi => tk.2.2 i (by omega) hi) (cHouses c).length).2 hlen
    rw [ok] at r1
    refine ⟨nI (tz (cStand (itS t c K))), mm P I1 J, mm P I' J, ?_, ahC_Sc q2, r1, r2⟩
    have z : ¬ nI (cStand c) = 0 := nI_ne0 (by omega) (by omega)
    simp only [F_X11_last, ↓bOC hP, s4, z, ↓reduceIte]
    rw [t1, Option.bind_some]
    simp only [↓bOC hP, s4', q1]
