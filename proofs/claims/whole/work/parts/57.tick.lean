/-! ===== a minute: what it does ===== -/
def cellH (c : Cst) (h : Nat) : Nat := (((cHouses c)[h]?).map Prod.fst).getD 0
def fellN (c : Cst) (wet : Nat) : Nat → Nat
  | 0 => cStand c
  | h + 1 => if wet.testBit (cellH c h) then anot (fellN c wet h) (2 ^ h) else fellN c wet h
theorem fellN_bit (c : Cst) (wet : Nat) : ∀ n h, (fellN c wet n).testBit h = ((cStand c).testBit h && !(decide (h < n) && wet.testBit (cellH c h)))
  | 0, h => by unfold fellN; rw [decide_eq_false (by omega)]; simp
  | n + 1, h => by
    have ih := fellN_bit c wet n h
    unfold fellN
    by_cases e : h = n
    · subst e
      rw [decide_eq_false (show ¬ h < h by omega)] at ih
      rw [decide_eq_true (show h < h + 1 by omega)]
      by_cases hb : wet.testBit (cellH c h) = true
      · rw [if_pos hb, anot_bit, Nat.testBit_two_pow, decide_eq_true rfl, hb]; simp
      · rw [if_neg hb, ih]
        simp [hb]
    · rw [show decide (h < n + 1) = decide (h < n) from by rw [decide_eq_decide]; omega]
      by_cases hb : wet.testBit (cellH c n) = true
      · rw [if_pos hb, anot_bit, Nat.testBit_two_pow, decide_eq_false (fun z => e z.symm), ih]; simp
      · rw [if_neg hb, ih]
theorem fellN_lt {c : Cst} {wet k : Nat} (h : cStand c < 2 ^ k) : ∀ n, fellN c wet n < 2 ^ k
  | 0 => h
  | n + 1 => by
    have := fellN_lt (wet := wet) h n
    unfold fellN
    split
    · exact anot_lt this
    · exact this
def wW (t : Txt) (mi mo : Nat) (s : Nat → Nat) (lv wet i : Nat) : Nat → Int32 := fun x => if x = 0 then nI mi else if x = 1 then nI mo else if x = 2 then nI (i / tW t) else if x = 3 then nI (s i) else if x = 4 then nI lv else nI (cntN (besN (tW t) (tN t) i &&& wet) 25)
def washV (t : Txt) (mi mo : Nat) (s : Nat → Nat) (lv wet i : Nat) : Nat := cutI 9 (lawS (wW t mi mo s lv wet i) (tWash t))
def washS (t : Txt) (mi mo : Nat) (s : Nat → Nat) (lv wet i : Nat) : Nat := if tWash t = [] then s i else if wet.testBit i then washV t mi mo s lv wet i else s i
noncomputable def tickS (t : Txt) (c : Cst) (lv : Nat) : Cst := (washS t (cMinute c + 1) (cMoon c) (cSand c) lv (wetS t (cSand c) lv), cHouses c, fellN c (wetS t (cSand c) lv) (cHouses c).length, cMoon c, cMinute c + 1)
theorem tick_wf {t : Txt} {c : Cst} {n m lv : Nat} (hc : wfC t c n) (h : cMinute c + 1 ≤ 99 * m) : wfC t (tickS t c lv) m := by
  obtain ⟨h1, h2, h3, h4, h5⟩ := hc
  refine ⟨fun i hi => ?_, h2, fellN_lt h3 _, h4, h⟩
  show washS t (cMinute c + 1) (cMoon c) (cSand c) lv _ i ≤ 9
  unfold washS
  split
  · exact h1 i hi
  · split
    · exact cutI_le _ _
    · exact h1 i hi
theorem house_at {c : Cst} {h : Nat} (hh : h < (cHouses c).length) : ∃ q, (cHouses c)[h]? = some q ∧ cellH c h = q.1 := by
  refine ⟨_, List.getElem?_eq_getElem hh, ?_⟩
  unfold cellH
  rw [List.getElem?_eq_getElem hh]
  rfl
theorem coast_far : ∀ k ∈ coastL, (k + 3 < 14 ∨ 21 ≤ k) ∧ (k + 3 < 29 ∨ 36 ≤ k) := by decide +kernel
theorem fell_C {P : Nat → Nat → Option Nat} (hP : GP P) {I : Nat → Nat → Int32} {J : Nat → Nat → Int64} {t : Txt} {c : Cst} {n k wet : Nat} (hk : k ∈ coastL) (hw : wfT t) (hc : wfC t c n) (hC : CoI I k t c) (hwet : wet < 2 ^ 25) : ∃ I', F_X0_fell k (nI wet) (mm P I J) = some (mm P I' J) ∧ (∀ a i, ¬ (a = k ∧ i = 4) → I' a i = I a i) ∧ I' k 4 = nI (fellN c wet (cHouses c).length) := by
  have hN := tN_le hw
  have hH := hc.2.1.1
  have slt := stand_lt hc
  have key : ∃ r : xM, xit (F_X0_fell_2b k (nI wet)) xFU (nI 0, mm P I J) = some r ∧ (∃ I', r = mm P I' J ∧ (∀ a i, ¬ (a = k ∧ i = 4) → I' a i = I a i) ∧ I' k 4 = nI (fellN c wet (cHouses c).length)) := by
    refine xit_inv (fun j z => ∃ I', z = (nI j, mm P I' J) ∧ (∀ a i, ¬ (a = k ∧ i = 4) → I' a i = I a i) ∧ I' k 4 = nI (fellN c wet j)) _ (cHouses c).length ⟨I, rfl, fun _ _ _ => rfl, hC.2.2.2.1⟩ (fun j z hj hq => ?_) (fun z hq => ?_) (by omega)
    · obtain ⟨I1, rfl, q1, q2⟩ := hq
      left
      obtain ⟨q, hq, hcell⟩ := house_at hj
      have b3 : I1 k 3 = nI (cHouses c).length := by rw [q1 k 3 (by omega)]; exact hC.2.1
      have b2 : I1 (k + 2) j = nI (cellH c j) := by rw [q1 (k + 2) j (by omega), hcell]; exact (hC.2.2.1 j q hq).1
      have cl : cellH c j < 25 := by
        have := (hc.2.1.2 q (List.mem_of_getElem? hq)).1
        omega
      have c1 : ¬ nI (cHouses c).length ≤ nI j := nI_ge hj (by omega)
      have flt := fellN_lt (c := c) (wet := wet) (k := 6) slt j
      have bt := bitN (s := wet) (c := cellH c j) (by omega) (by omega)
      have pj : 2 ^ j < 2 ^ 6 := Nat.pow_lt_pow_right (by omega) (by omega)
      by_cases hb : wet.testBit (cellH c j) = true
      · rw [if_pos hb] at bt
        refine ⟨_, by simp (disch := omega) only [F_X0_fell_2b, F_X0_fell_37, ↓bOK hP hk, ↓reduceIte, b3, c1, b2, bt, one_ne, q2, nI_1, one_shl, anotN]; rfl, _, rfl, fun a i h => ?_, ?_⟩
        · rw [xu_o h, q1 a i h]
        · rw [xu_self]
          show _ = nI (if wet.testBit (cellH c j) = true then _ else _)
          rw [if_pos hb]
      · rw [if_neg hb] at bt
        refine ⟨_, by simp (disch := omega) only [F_X0_fell_2b, F_X0_fell_37, ↓bOK hP hk, ↓reduceIte, b3, c1, b2, bt, nI_1], I1, rfl, q1, ?_⟩
        show _ = nI (if wet.testBit (cellH c j) = true then _ else _)
        rw [if_neg hb]; exact q2
    · obtain ⟨I1, rfl, q1, q2⟩ := hq
      have b3 : I1 k 3 = nI (cHouses c).length := by rw [q1 k 3 (by omega)]; exact hC.2.1
      refine ⟨mm P I1 J, ?_, I1, rfl, q1, q2⟩
      have c1 : nI (cHouses c).length ≤ nI (cHouses c).length := nI_le (Nat.le_refl _) (by omega)
      simp only [F_X0_fell_2b, F_X0_fell_43, ↓bOK hP hk, ↓reduceIte, b3, c1, Option.map_some]
  obtain ⟨r, h1, I', rfl, h2, h3⟩ := key
  exact ⟨I', h1, h2, h3⟩
theorem adjB_comm (w a b : Nat) : adjB w a b = adjB w b a := by
  unfold adjB
  rw [Bool.eq_iff_iff]
  simp only [Bool.or_eq_true, Bool.and_eq_true, decide_eq_true_iff, Bool.not_eq_true', decide_eq_false_iff_not]
  constructor
  · rintro (((h | h) | h) | h)
    · exact Or.inl (Or.inl (Or.inr h))
    · exact Or.inl (Or.inl (Or.inl h))
    · exact Or.inr h
    · exact Or.inl (Or.inr h)
  · rintro (((h | h) | h) | h)
    · exact Or.inl (Or.inl (Or.inr h))
    · exact Or.inl (Or.inl (Or.inl h))
    · exact Or.inr h
    · exact Or.inl (Or.inr h)
/-- beside one cell: both ways of saying it -/
theorem bes_one {t : Txt} (hw : wfT t) {i m : Nat} (hi : i < tN t) (hm : ∀ b, m.testBit b = true → b < tN t) : besM (tR t) (tW t) (2 ^ i) &&& m = besN (tW t) (tN t) i &&& m := by
  obtain ⟨⟨r1, r5⟩, ⟨w1, w5⟩, -⟩ := hw
  apply Nat.eq_of_testBit_eq
  intro b
  rw [Nat.testBit_and, Nat.testBit_and]
  cases hb : m.testBit b with
  | false => rw [Bool.and_false, Bool.and_false]
  | true =>
    rw [Bool.and_true, Bool.and_true]
    have hbN := hm b hb
    rw [besN_bit w1 w5 hbN, Bool.eq_iff_iff, bes_bit r5 w1 w5 (fun a ha => by rw [Nat.testBit_two_pow, decide_eq_true_iff] at ha; rw [← ha]; exact hi) hbN]
    constructor
    · rintro ⟨a, h1, h2⟩
      rw [Nat.testBit_two_pow, decide_eq_true_iff] at h1
      rw [h1, adjB_comm]; exact h2
    · intro h
      exact ⟨i, by rw [Nat.testBit_two_pow]; simp, by rw [adjB_comm]; exact h⟩
theorem wash_C {P : Nat → Nat → Option Nat} (hP : GP P) {I : Nat → Nat → Int32} {J : Nat → Nat → Int64} {t : Txt} {k lv wet mi mo : Nat} {s : Nat → Nat} (hk : k ∈ coastL) (hw : wfT t) (hL : LandC (mm P I J) 14 t) (hne : tWash t ≠ []) (hwet : ∀ b, wet.testBit b = true → b < tN t) (hwl : wet < 2 ^ 25) (hs : ∀ i, i < tN t → I (k + 1) i = nI (s i)) (h6 : I k 6 = nI mi) (h5 : I k 5 = nI mo) :
    ∃ I', F_X8_wash 29 14 k (nI lv) (nI wet) (mm P I J) = some (mm P I' J) ∧ (∀ a i, a ≠ k + 1 → a ≠ 31 → a ≠ 32 → a ≠ 33 → I' a i = I a i) ∧ ∀ i, i < tN t → I' (k + 1) i = nI (washS t mi mo s lv wet i) := by
  have hN := tN_le hw
  have hf := coast_far k hk
  have hw' := hw
  obtain ⟨-, ⟨w1, w5⟩, -⟩ := hw'
  have hLL := hL
  obtain ⟨-, l1', -, -, -, -, -, -, -, -, f1, e1, f2, e2, nn, l7, ln, l8, l9, l10', l11', b1, b2, c1, c2⟩ := hLL
  have l1 : I 14 1 = nI (tW t) := l1'
  have l10 : I 14 10 = nI f2 := l10'
  have l11 : I 14 11 = nI e2 := l11'
  have c2' : codeAt (I 20) f2 e2 (tWash t) := c2
  have kr : kindRun (tWash t) [] = some [false] := by
    rcases hw.2.2.2.2.2.2.2.2.1 with h1 | h1
    · exact absurd h1 hne
    · exact h1
  have wz : ¬ nI (tW t) = 0 := nI_ne0 (by omega) (by omega)
  have cC := (coast_sh k hk).2.2.2.2.1
  have cp : ∀ I, xcp (mm P I J) 33 0 (k + 1) 0 25 = some (mm P (xur I (k + 1) (fun i => if i < 25 then I 33 i else I (k + 1) i)) J) := fun I => m_cp (la := 25) (by decide +kernel) cC I J (n := 25) (by omega) (by omega) (by omega)
  have key : ∃ r : xM, xit (F_X8_wash_42b 29 14 k (nI wet) 31) xFU (nI 0, mm P (xu (xu (xu I 31 0 (nI mi)) 31 1 (nI mo)) 31 4 (nI lv)) J) = some r ∧ (∃ I', r = mm P I' J ∧ (∀ a i, a ≠ k + 1 → a ≠ 31 → a ≠ 32 → a ≠ 33 → I' a i = I a i) ∧ ∀ i, i < tN t → I' (k + 1) i = nI (washS t mi mo s lv wet i)) := by
    refine xit_inv (fun j z => ∃ I', z = (nI j, mm P I' J) ∧ (∀ a i, a ≠ 31 → a ≠ 32 → a ≠ 33 → I' a i = I a i) ∧ (I' 31 0 = nI mi ∧ I' 31 1 = nI mo ∧ I' 31 4 = nI lv) ∧ ∀ i, i < j → i < tN t → I' 33 i = nI (washS t mi mo s lv wet i)) _ 25 ⟨_, rfl, fun a i h1 h2 h3 => ?_, ⟨?_, ?_, ?_⟩, fun i hi => by omega⟩ (fun j z hj hq => ?_) (fun z hq => ?_) (by omega)
    · rw [xu_o (by omega), xu_o (by omega), xu_o (by omega)]
    · rw [xu_o (by omega), xu_o (by omega), xu_self]
    · rw [xu_o (by omega), xu_self]
    · rw [xu_self]
    · obtain ⟨I1, rfl, q1, ⟨n0, n1, n4⟩, q3⟩ := hq
      left
      have x1 : ¬ (25 : Int32) ≤ nI j := nI_ge (b := 25) hj (by omega)
      have bt := bitN (s := wet) (c := j) (by omega) (by omega)
      have sj : I1 (k + 1) j = I (k + 1) j := q1 _ _ (by omega) (by omega) (by omega)
      by_cases hb : wet.testBit j = true
      · rw [if_pos hb] at bt
        have hjN := hwet j hb
        have sj2 : I1 (k + 1) j = nI (s j) := by rw [sj]; exact hs j hjN
        have dv := pk_div (a := j) (d := tW t) (by omega) (by omega) (by omega)
        have pj : 2 ^ j < 2 ^ 25 := Nat.pow_lt_pow_right (by omega) hj
        have hL1 : LandC (mm P (xu (xu (xu I1 33 j (nI (s j))) 31 2 (nI (j / tW t))) 31 3 (nI (s j))) J) 14 t := LandC_cg (M := mm P I J) (fun x hx => funext fun i => by
          show xu (xu (xu I1 33 j (nI (s j))) 31 2 (nI (j / tW t))) 31 3 (nI (s j)) (14 + x) i = I (14 + x) i
          rw [xu_o (by omega), xu_o (by omega), xu_o (by omega), q1 _ _ (by omega) (by omega) (by omega)]) hL
        obtain ⟨g1, g2⟩ := besides_C hP (J := J) hw hL1 pj
        have al : besM (tR t) (tW t) (2 ^ j) &&& wet < 2 ^ 25 := Nat.and_lt_two_pow _ hwl
        have bo := bes_one hw hjN hwet
        have an := andN (a := besM (tR t) (tW t) (2 ^ j)) (b := wet) g2 (by omega)
        rw [bo] at an al
        have bc := bitCount_C al (mm P (xu (xu (xu I1 33 j (nI (s j))) 31 2 (nI (j / tW t))) 31 3 (nI (s j))) J)
        have cA : codeAt ((xu (xu (xu (xu I1 33 j (nI (s j))) 31 2 (nI (j / tW t))) 31 3 (nI (s j))) 31 5 (nI (cntN (besN (tW t) (tN t) j &&& wet) 25))) 20) f2 e2 (tWash t) := codeAt_cg (A := I 20) (fun i _ => by rw [xu_o (by omega), xu_o (by omega), xu_o (by omega), xu_o (by omega), q1 _ _ (by omega) (by omega) (by omega)]) c2'
        obtain ⟨I2, p1, p2⟩ := tell_C hP (I := xu (xu (xu (xu I1 33 j (nI (s j))) 31 2 (nI (j / tW t))) 31 3 (nI (s j))) 31 5 (nI (cntN (besN (tW t) (tN t) j &&& wet) 25))) (J := J) (w := wW t mi mo s lv wet j) kr cA (by omega) (fun i hi => by
          unfold wW
          have h : i = 0 ∨ i = 1 ∨ i = 2 ∨ i = 3 ∨ i = 4 ∨ i = 5 := by omega
          rcases h with rfl | rfl | rfl | rfl | rfl | rfl
          · rw [xu_o (by omega), xu_o (by omega), xu_o (by omega), xu_o (by omega), n0]; rfl
          · rw [xu_o (by omega), xu_o (by omega), xu_o (by omega), xu_o (by omega), n1]; rfl
          · rw [xu_o (by omega), xu_o (by omega), xu_self]; rfl
          · rw [xu_o (by omega), xu_self]; rfl
          · rw [xu_o (by omega), xu_o (by omega), xu_o (by omega), xu_o (by omega), n4]; rfl
          · rw [xu_self]; rfl)
        have m1 : I1 14 1 = nI (tW t) := by rw [q1 _ _ (by omega) (by omega) (by omega)]; exact l1
        have m10 : (xu (xu (xu (xu I1 33 j (nI (s j))) 31 2 (nI (j / tW t))) 31 3 (nI (s j))) 31 5 (nI (cntN (besN (tW t) (tN t) j &&& wet) 25))) 14 10 = nI f2 := by rw [xu_o (by omega), xu_o (by omega), xu_o (by omega), xu_o (by omega), q1 _ _ (by omega) (by omega) (by omega)]; exact l10
        have m11 : (xu (xu (xu (xu I1 33 j (nI (s j))) 31 2 (nI (j / tW t))) 31 3 (nI (s j))) 31 5 (nI (cntN (besN (tW t) (tN t) j &&& wet) 25))) 14 11 = nI e2 := by rw [xu_o (by omega), xu_o (by omega), xu_o (by omega), xu_o (by omega), q1 _ _ (by omega) (by omega) (by omega)]; exact l11
        have v1 : xu I1 33 j (nI (s j)) 14 1 = nI (tW t) := by rw [xu_o (by omega)]; exact m1
        have v2 : xu (xu I1 33 j (nI (s j))) 31 2 (nI (j / tW t)) (k + 1) j = nI (s j) := by rw [xu_o (by omega), xu_o (by omega)]; exact sj2
        have cc := cutC (h := 9) (by omega) (lawS (wW t mi mo s lv wet j) (tWash t)) (mm P I2 J)
        cases hm : F_J9_min_7cf53 (nI 9) (lawS (wW t mi mo s lv wet j) (tWash t)) (mm P I2 J) with
        | none => rw [hm] at cc; cases cc
        | some q =>
          rw [hm, Option.bind_some] at cc
          have hm' : F_J9_min_7cf53 (9 : Int32) (lawS (wW t mi mo s lv wet j) (tWash t)) (mm P I2 J) = some q := hm
          refine ⟨(nI (j + 1), mm P (xu I2 33 j (nI (washV t mi mo s lv wet j))) J), ?_, _, rfl, fun a i h1 h2 h3 => ?_, ⟨?_, ?_, ?_⟩, fun i hi hiN => ?_⟩
          · unfold F_X8_wash_42b F_X8_wash_152
            simp (disch := omega) only [↓reduceIte, x1, ↓bOC hP, ↓bOK hP hk, ↓bAC, sj2, bt, one_ne, v1, wz]
            simp only [dv]
            simp (disch := omega) only [↓bOC hP, ↓bOK hP hk, ↓bAC, v2]
            simp only [one_shl (show j < 31 by omega)]
            simp only [↓bs g1]
            simp only [an]
            simp (disch := omega) only [↓bs bc, ↓bOC hP, ↓bOK hP hk, ↓bAC, m10, m11, ↓bs p1, ↓bs hm', ↓bs cc, nI_1]
            rfl
          · rw [xu_o (by omega), p2 a i h2, xu_o (by omega), xu_o (by omega), xu_o (by omega), xu_o (by omega), q1 a i h1 h2 h3]
          · rw [xu_o (by omega), p2 _ _ (by omega), xu_o (by omega), xu_o (by omega), xu_o (by omega), xu_o (by omega), n0]
          · rw [xu_o (by omega), p2 _ _ (by omega), xu_o (by omega), xu_o (by omega), xu_o (by omega), xu_o (by omega), n1]
          · rw [xu_o (by omega), p2 _ _ (by omega), xu_o (by omega), xu_o (by omega), xu_o (by omega), xu_o (by omega), n4]
          · by_cases e : i = j
            · subst e
              rw [xu_self]
              unfold washS
              rw [if_neg hne, if_pos hb]
            · rw [xu_o (by omega), p2 _ _ (by omega), xu_o (by omega), xu_o (by omega), xu_o (by omega), xu_o (by omega)]
              exact q3 i (by omega) hiN
      · rw [if_neg hb] at bt
        refine ⟨(nI (j + 1), mm P (xu I1 33 j (I1 (k + 1) j)) J), ?_, _, rfl, fun a i h1 h2 h3 => ?_, ⟨?_, ?_, ?_⟩, fun i hi hiN => ?_⟩
        · unfold F_X8_wash_42b F_X8_wash_152
          simp (disch := omega) only [↓reduceIte, x1, ↓bOC hP, ↓bOK hP hk, ↓bAC, bt, nI_1]
        · rw [xu_o (by omega), q1 a i h1 h2 h3]
        · rw [xu_o (by omega), n0]
        · rw [xu_o (by omega), n1]
        · rw [xu_o (by omega), n4]
        · by_cases e : i = j
          · subst e
            rw [xu_self, sj, hs i hiN]
            unfold washS
            rw [if_neg hne, if_neg hb]
          · rw [xu_o (by omega)]
            exact q3 i (by omega) hiN
    · obtain ⟨I1, rfl, q1, -, q3⟩ := hq
      refine ⟨mm P (xur I1 (k + 1) (fun i => if i < 25 then I1 33 i else I1 (k + 1) i)) J, ?_, _, rfl, fun a i h0 h1 h2 h3 => ?_, fun i hi => ?_⟩
      · have x1 : (25 : Int32) ≤ nI 25 := by decide
        unfold F_X8_wash_42b F_X8_wash_158
        simp only [↓reduceIte, x1, ↓bOC hP, ↓bOK hP hk, ↓bs (cp I1), Option.map_some]
      · rw [xur_o h0, q1 a i h1 h2 h3]
      · rw [xur_s, if_pos (by omega), q3 i (by omega) hi]
  obtain ⟨r, z1, I', rfl, z2, z3⟩ := key
  refine ⟨I', ?_, z2, z3⟩
  have y1 : (1 : Int32) ≤ nI (tW t) := nI_le (a := 1) w1 (by omega)
  have y5 : xu I 31 0 (nI mi) k 5 = nI mo := by rw [xu_o (by omega)]; exact h5
  unfold F_X8_wash F_X8_wash_42
  simp only [↓bOC hP, ↓bOK hP hk, ↓bAC, l1, ↓reduceIte, y1, h6, y5]
  rw [show (0 : Int32) = nI 0 from rfl]
  exact z1
