/-! ===== the model goes on ===== -/
def OnM (I : Nat → Nat → Int32) (t : Txt) (c : Cst) : Prop := (∀ i, i < tN t → I 171 i = nI (cSand c i)) ∧ (∃ f : Nat, f < 64 ∧ I 164 20 = nI f ∧ ∀ h, h < (cHouses c).length → f.testBit h = !(cStand c).testBit h) ∧ I 164 21 = nI (cMinute c)
def HsM (I : Nat → Nat → Int32) (c : Cst) : Prop := I 165 92 = nI (cHouses c).length ∧ (∀ (h : Nat) (q : Nat × Nat), (cHouses c)[h]? = some q → I 165 (93 + 2 * h) = nI q.1 ∧ I 165 (94 + 2 * h) = nI q.2) ∧ I 165 106 = nI (cMoon c)
theorem washed_M {P : Nat → Nat → Option Nat} (hP : GP P) {I : Nat → Nat → Int32} {J : Nat → Nat → Int64} {t : Txt} {lv wet mi mo i : Nat} {s : Nat → Nat} (hw : wfT t) (hA : LandA (I 165) 0 t) (hi : i < tN t) (hb : wet.testBit i = true) (hwl : wet < 2 ^ 25) (hs : I 171 i = nI (s i)) (h21 : I 164 21 = nI mi) (h106 : I 165 106 = nI mo) :
    ∃ I', F_X12_washedTo 164 (nI i) (nI lv) (nI wet) (mm P I J) = some (nI (washS t mi mo s lv wet i), mm P I' J) ∧ ∀ a x, a ≠ 169 → a ≠ 170 → I' a x = I a x := by
  have hN := tN_le hw
  have hw' := hw
  obtain ⟨-, ⟨w1, w5⟩, -⟩ := hw'
  have a8 : I 165 8 = if tWash t = [] then 0 else 1 := hA.2.2.2.2.2.2.2.2.2.2.2.1
  have a13 := hA.2.2.2.2.2.2.2.2.2.2.2.2.2
  have a2 : I 165 2 = nI (tW t) := hA.2.2.1
  have wz : ¬ nI (tW t) = 0 := nI_ne0 (by omega) (by omega)
  unfold washS
  by_cases h : tWash t = []
  · rw [if_pos h] at a8
    refine ⟨I, ?_, fun _ _ _ _ => rfl⟩
    rw [if_pos h]
    simp (disch := omega) only [F_X12_washedTo, ↓bOM hP, ↓bAM, a8, ↓reduceIte, hs]
  · rw [if_neg h] at a8
    rw [if_neg h, if_pos hb]
    have kr : kindRun (tWash t) [] = some [false] := by
      rcases hw.2.2.2.2.2.2.2.2.1 with h1 | h1
      · exact absurd h1 h
      · exact h1
    obtain ⟨f, e, g10, g12, ge, gc⟩ := a13 h
    have dv := pk_div (a := i) (d := tW t) (by omega) (by omega) (by omega)
    have hA4 : LandA ((xu (xu (xu (xu (xu I 170 0 (nI mi)) 170 1 (nI mo)) 170 2 (nI (i / tW t))) 170 3 (nI (s i))) 170 4 (nI lv)) 165) 0 t := LandA_cg (A := I 165) hw (fun x _ => by rw [xu_o (by omega), xu_o (by omega), xu_o (by omega), xu_o (by omega), xu_o (by omega)]) hA
    obtain ⟨b1, b2⟩ := besides_M hP (J := J) hw hA4 hi
    have al : besN (tW t) (tN t) i &&& wet < 2 ^ 25 := Nat.and_lt_two_pow _ hwl
    have an := andN (a := besN (tW t) (tN t) i) (b := wet) b2 (by omega)
    have bc := bitsOf_M (m := besN (tW t) (tN t) i &&& wet) (by omega) (mm P (xu (xu (xu (xu (xu I 170 0 (nI mi)) 170 1 (nI mo)) 170 2 (nI (i / tW t))) 170 3 (nI (s i))) 170 4 (nI lv)) J)
    have cA : codeAt (fun x => (xu (xu (xu (xu (xu (xu I 170 0 (nI mi)) 170 1 (nI mo)) 170 2 (nI (i / tW t))) 170 3 (nI (s i))) 170 4 (nI lv)) 170 5 (nI (cntN (besN (tW t) (tN t) i &&& wet) 25))) 165 (520 + x)) f e ((tWash t).map trC) := codeAt_cg (fun x _ => by rw [xu_o (by omega), xu_o (by omega), xu_o (by omega), xu_o (by omega), xu_o (by omega), xu_o (by omega), Nat.zero_add]) gc
    obtain ⟨I', q1, q2⟩ := reck_M hP (I := xu (xu (xu (xu (xu (xu I 170 0 (nI mi)) 170 1 (nI mo)) 170 2 (nI (i / tW t))) 170 3 (nI (s i))) 170 4 (nI lv)) 170 5 (nI (cntN (besN (tW t) (tN t) i &&& wet) 25))) (J := J) (w := wW t mi mo s lv wet i) (lw := 1) (by omega) kr cA ge (by rw [xu_o (by omega), xu_o (by omega), xu_o (by omega), xu_o (by omega), xu_o (by omega), xu_o (by omega)]; exact g12) (by rw [xu_o (by omega), xu_o (by omega), xu_o (by omega), xu_o (by omega), xu_o (by omega), xu_o (by omega)]; exact g10) (fun x hx => by
      unfold wW
      have h : x = 0 ∨ x = 1 ∨ x = 2 ∨ x = 3 ∨ x = 4 ∨ x = 5 := by omega
      rcases h with rfl | rfl | rfl | rfl | rfl | rfl
      · rw [xu_o (by omega), xu_o (by omega), xu_o (by omega), xu_o (by omega), xu_o (by omega), xu_self]; rfl
      · rw [xu_o (by omega), xu_o (by omega), xu_o (by omega), xu_o (by omega), xu_self]; rfl
      · rw [xu_o (by omega), xu_o (by omega), xu_o (by omega), xu_self]; rfl
      · rw [xu_o (by omega), xu_o (by omega), xu_self]; rfl
      · rw [xu_o (by omega), xu_self]; rfl
      · rw [xu_self]; rfl)
    have q1' : F_X12_reckons 164 (1 : Int32) (mm P (xu (xu (xu (xu (xu (xu I 170 0 (nI mi)) 170 1 (nI mo)) 170 2 (nI (i / tW t))) 170 3 (nI (s i))) 170 4 (nI lv)) 170 5 (nI (cntN (besN (tW t) (tN t) i &&& wet) 25))) J) = some (lawS (wW t mi mo s lv wet i) (tWash t), mm P I' J) := q1
    have kp : F_X12_kept (lawS (wW t mi mo s lv wet i) (tWash t)) (9 : Int32) (mm P I' J) = some (nI (cutI 9 (lawS (wW t mi mo s lv wet i) (tWash t))), mm P I' J) := keptM (h := 9) (by omega) _ _
    refine ⟨I', ?_, fun a x h1 h2 => by rw [q2 a x h1, xu_o (by omega), xu_o (by omega), xu_o (by omega), xu_o (by omega), xu_o (by omega), xu_o (by omega)]⟩
    have y1 : xu I 170 0 (nI mi) 165 106 = nI mo := by rw [xu_o (by omega)]; exact h106
    have y2 : xu (xu I 170 0 (nI mi)) 170 1 (nI mo) 165 2 = nI (tW t) := by rw [xu_o (by omega), xu_o (by omega)]; exact a2
    have y3 : xu (xu (xu I 170 0 (nI mi)) 170 1 (nI mo)) 170 2 (nI (i / tW t)) 171 i = nI (s i) := by rw [xu_o (by omega), xu_o (by omega), xu_o (by omega)]; exact hs
    unfold F_X12_washedTo
    simp (disch := omega) only [↓bOM hP, ↓bAM, a8, ↓reduceIte, one_ne, h21, y1, y2, wz]
    simp only [dv]
    simp (disch := omega) only [↓bOM hP, ↓bAM, y3, ↓bs b1]
    simp only [an]
    simp (disch := omega) only [↓bs bc, ↓bOM hP, ↓bAM, ↓bs q1', ↓bs kp]
    rfl
theorem isCell_at {P : Nat → Nat → Option Nat} (hP : GP P) {I : Nat → Nat → Int32} {J : Nat → Nat → Int64} {t : Txt} (hw : wfT t) (hA : LandA (I 165) 0 t) {j : Nat} (hj : j ≤ 30) : F_X12_isCell 164 (nI j).toInt64 (mm P I J) = some (if j < tN t then 1 else 0, mm P I J) := by
  have ic := isCellM (mm_G (I := I) (J := J) hP) hw (show LandA ((mm P I J).2.1 165) 0 t from hA) (nI j)
  rw [nI_toInt (by omega)] at ic
  rw [ic]
  by_cases h : j < tN t
  · rw [if_pos h, if_pos (by omega)]
  · rw [if_neg h, if_neg (by omega)]
theorem goes150 {P : Nat → Nat → Option Nat} (hP : GP P) {I : Nat → Nat → Int32} {J : Nat → Nat → Int64} {t : Txt} (hw : wfT t) (hA : LandA (I 165) 0 t) (v : Int32) : F_X12_goesOn_150 164 v 0 (mm P I J) = some (v, mm P (cpx I 171 0 172 0 (tN t)) J) := by
  have hN := tN_le hw
  unfold F_X12_goesOn_150
  have hA' : ∀ j, LandA (cpx I 171 0 172 0 j 165) 0 t := fun j => LandA_cg (A := I 165) hw (fun x _ => cpx_o (by omega)) hA
  refine cp_loop 171 0 172 0 (tN t) (by omega) (fun j hj => ?_) ?_ (by omega)
  · have ic := isCell_at hP (J := J) hw (hA' j) (j := j) (by omega)
    rw [if_pos hj] at ic
    simp (disch := omega) only [F_X12_goesOn_150b, ↓bOM hP, ↓bs ic, ↓reduceIte, one_ne, ↓bAM, nI_1, Nat.zero_add]
  · have ic := isCell_at hP (J := J) hw (hA' (tN t)) (j := tN t) (by omega)
    rw [if_neg (by omega)] at ic
    simp only [F_X12_goesOn_150b, F_X12_goesOn_180, ↓bOM hP, ↓bs ic, ↓reduceIte, Option.map_some]
theorem goes96 {P : Nat → Nat → Option Nat} (hP : GP P) {I : Nat → Nat → Int32} {J : Nat → Nat → Int64} {t : Txt} {lv wet mi mo : Nat} {s : Nat → Nat} (hw : wfT t) (hA : LandA (I 165) 0 t) (hwet : wet < 2 ^ 25) (hs : ∀ i, i < tN t → I 171 i = nI (s i)) (h21 : I 164 21 = nI mi) (h106 : I 165 106 = nI mo) :
    ∃ I', F_X12_goesOn_96 164 (nI lv) (nI wet) 0 (mm P I J) = some (nI wet, mm P I' J) ∧ (∀ a x, a ≠ 169 → a ≠ 170 → a ≠ 171 → a ≠ 172 → I' a x = I a x) ∧ ∀ i, i < tN t → I' 171 i = nI (washS t mi mo s lv wet i) := by
  have hN := tN_le hw
  have key : ∃ r : Int32 × xM, xit (F_X12_goesOn_96b 164 (nI lv) (nI wet)) xFU (nI 0, mm P I J) = some r ∧ (∃ I', r = (nI wet, mm P I' J) ∧ (∀ a x, a ≠ 169 → a ≠ 170 → a ≠ 171 → a ≠ 172 → I' a x = I a x) ∧ ∀ i, i < tN t → I' 171 i = nI (washS t mi mo s lv wet i)) := by
    refine xit_inv (fun j z => ∃ I', z = (nI j, mm P I' J) ∧ (∀ a x, a ≠ 169 → a ≠ 170 → a ≠ 172 → I' a x = I a x) ∧ ∀ i, i < j → I' 172 i = nI (washS t mi mo s lv wet i)) _ (tN t) ⟨I, rfl, fun _ _ _ _ _ => rfl, fun i hi => by omega⟩ (fun j z hj hq => ?_) (fun z hq => ?_) (by omega)
    · obtain ⟨I1, rfl, q1, q2⟩ := hq
      left
      have hA1 : LandA (I1 165) 0 t := LandA_cg (A := I 165) hw (fun x _ => q1 _ _ (by omega) (by omega) (by omega)) hA
      have ic := isCell_at hP (J := J) hw hA1 (j := j) (by omega)
      rw [if_pos hj] at ic
      have ii := isInM (m := wet) (c := j) (by omega) (by omega) (mm P I1 J)
      have sj : I1 171 j = nI (s j) := by rw [q1 _ _ (by omega) (by omega) (by omega)]; exact hs j hj
      by_cases hb : wet.testBit j = true
      · rw [if_pos hb] at ii
        obtain ⟨I2, p1, p2⟩ := washed_M hP (I := I1) (J := J) (lv := lv) (wet := wet) (mi := mi) (mo := mo) (i := j) (s := s) hw hA1 hj hb hwet sj (by rw [q1 _ _ (by omega) (by omega) (by omega)]; exact h21) (by rw [q1 _ _ (by omega) (by omega) (by omega)]; exact h106)
        refine ⟨(nI (j + 1), mm P (xu I2 172 j (nI (washS t mi mo s lv wet j))) J), ?_, _, rfl, fun a x h1 h2 h3 => by rw [xu_o (by omega), p2 a x h1 h2, q1 a x h1 h2 h3], fun i hi => ?_⟩
        · simp (disch := omega) only [F_X12_goesOn_96b, F_X12_goesOn_140, ↓bOM hP, ↓bs ic, ↓bs ii, ↓reduceIte, one_ne, ↓bs p1, ↓bAM, nI_1]
        · by_cases e : i = j
          · subst e; rw [xu_self]
          · rw [xu_o (by omega), p2 _ _ (by omega) (by omega), q2 i (by omega)]
      · rw [if_neg hb] at ii
        refine ⟨(nI (j + 1), mm P (xu I1 172 j (nI (s j))) J), ?_, _, rfl, fun a x h1 h2 h3 => by rw [xu_o (by omega), q1 a x h1 h2 h3], fun i hi => ?_⟩
        · simp (disch := omega) only [F_X12_goesOn_96b, F_X12_goesOn_140, ↓bOM hP, ↓bs ic, ↓bs ii, ↓reduceIte, one_ne, ↓bAM, sj, nI_1]
        · by_cases e : i = j
          · subst e
            rw [xu_self]
            unfold washS
            rw [if_neg hb]
            split <;> rfl
          · rw [xu_o (by omega), q2 i (by omega)]
    · obtain ⟨I1, rfl, q1, q2⟩ := hq
      have hA1 : LandA (I1 165) 0 t := LandA_cg (A := I 165) hw (fun x _ => q1 _ _ (by omega) (by omega) (by omega)) hA
      have ic := isCell_at hP (J := J) hw hA1 (j := tN t) (by omega)
      rw [if_neg (by omega)] at ic
      have g := goes150 hP (J := J) hw hA1 (nI wet)
      refine ⟨(nI wet, mm P (cpx I1 171 0 172 0 (tN t)) J), ?_, _, rfl, fun a x h1 h2 h3 h4 => by rw [cpx_o (by omega), q1 a x h1 h2 h4], fun i hi => ?_⟩
      · simp only [F_X12_goesOn_96b, F_X12_goesOn_147, ↓bOM hP, ↓bs ic, ↓reduceIte, g, Option.map_some]
      · have e := cpx_in (I := I1) (b := 171) (j0 := 0) (a := 172) (i0 := 0) hi
        rw [Nat.zero_add] at e
        rw [e]
        exact q2 i hi
  obtain ⟨r, h1, I', rfl, h2, h3⟩ := key
  exact ⟨I', h1, h2, h3⟩
def fallN (c : Cst) (wet f : Nat) : Nat → Nat
  | 0 => f
  | h + 1 => if wet.testBit (cellH c h) then fallN c wet f h ||| 2 ^ h else fallN c wet f h
theorem fallN_bit (c : Cst) (wet f : Nat) : ∀ n h, (fallN c wet f n).testBit h = (f.testBit h || (decide (h < n) && wet.testBit (cellH c h)))
  | 0, h => by unfold fallN; rw [decide_eq_false (by omega)]; simp
  | n + 1, h => by
    have ih := fallN_bit c wet f n h
    unfold fallN
    by_cases e : h = n
    · subst e
      rw [decide_eq_false (show ¬ h < h by omega)] at ih
      rw [decide_eq_true (show h < h + 1 by omega)]
      by_cases hb : wet.testBit (cellH c h) = true
      · rw [if_pos hb, Nat.testBit_or, Nat.testBit_two_pow, decide_eq_true rfl, hb]; simp
      · rw [if_neg hb, ih]
        simp [hb]
    · rw [show decide (h < n + 1) = decide (h < n) from by rw [decide_eq_decide]; omega]
      by_cases hb : wet.testBit (cellH c n) = true
      · rw [if_pos hb, Nat.testBit_or, Nat.testBit_two_pow, decide_eq_false (fun z => e z.symm), ih]; simp
      · rw [if_neg hb, ih]
theorem fallN_lt {c : Cst} {wet f : Nat} (h : f < 64) : ∀ n, n ≤ 6 → fallN c wet f n < 64
  | 0, _ => h
  | n + 1, hn => by
    have := fallN_lt (c := c) (wet := wet) h n (by omega)
    have p : 2 ^ n < 2 ^ 6 := Nat.pow_lt_pow_right (by omega) (by omega)
    unfold fallN
    split
    · exact Nat.or_lt_two_pow (n := 6) this p
    · exact this
theorem goesOn_M {P : Nat → Nat → Option Nat} (hP : GP P) {I : Nat → Nat → Int32} {J : Nat → Nat → Int64} {t : Txt} {c : Cst} {n more : Nat} (hw : wfT t) (hc : wfC t c n) (hn : n < 100000) (hA : LandA (I 165) 0 t) (hH : HsM I c) (hO : OnM I t c) (hm : more ≤ 1) :
    ∃ I', F_X12_goesOn 164 (nI more) (mm P I J) = some (nI (wetS t (cSand c) (min 10 (lvN t c + more))), mm P I' J) ∧ (∀ a i, ¬ (a = 164 ∧ (i = 20 ∨ i = 21)) → a ≠ 169 → a ≠ 170 → a ≠ 171 → a ≠ 172 → I' a i = I a i) ∧ OnM I' t (tickS t c (min 10 (lvN t c + more))) := by
  have hN := tN_le hw
  have hl6 := hc.2.1.1
  have hmi : cMinute c ≤ 99 * n := hc.2.2.2.2
  obtain ⟨o1, ⟨f, f1, f2, f3⟩, o3⟩ := hO
  obtain ⟨b1, b2, b3⟩ := hH
  have hA1 : LandA (xu I 164 21 (nI (cMinute c + 1)) 165) 0 t := LandA_cg (A := I 165) hw (fun x _ => xu_o (by omega)) hA
  obtain ⟨I2, l1, l2⟩ := level_M hP (I := xu I 164 21 (nI (cMinute c + 1))) (J := J) hw hA1 (mi := cMinute c + 1) (mo := cMoon c) (by omega)
  have e2 : ∀ a i, ¬ (a = 164 ∧ i = 21) → a ≠ 169 → a ≠ 170 → I2 a i = I a i := fun a i h1 h2 h3 => by rw [l2 a i h2 h3, xu_o h1]
  have hl := lvlS_le t (cMinute c + 1) (cMoon c)
  have kp := keptM (h := 10) (by omega) (nI (lvlS t (cMinute c + 1) (cMoon c) + more)) (mm P I2 J)
  have ct : cutI 10 (nI (lvlS t (cMinute c + 1) (cMoon c) + more)) = min 10 (lvN t c + more) := by
    unfold cutI
    rw [nI_toInt (by omega), if_neg (by omega), Int.toNat_natCast]
    rfl
  rw [ct] at kp
  have kp' : F_X12_kept (nI (lvlS t (cMinute c + 1) (cMoon c) + more)) (10 : Int32) (mm P I2 J) = some (nI (min 10 (lvN t c + more)), mm P I2 J) := kp
  have hA2 : LandA (I2 165) 0 t := LandA_cg (A := I 165) hw (fun x _ => e2 _ _ (by omega) (by omega) (by omega)) hA
  obtain ⟨w1, w2⟩ := wet_M hP (I := I2) (J := J) (s := cSand c) hw hA2 (fun i hi => ⟨by rw [e2 _ _ (by omega) (by omega) (by omega)]; exact o1 i hi, hc.1 i hi⟩) (lv := min 10 (lvN t c + more)) (by omega)
  have wlt := wetI_lt hw w2.1
  have key : ∃ r : Int32 × xM, xit (F_X12_goesOn_42b 164 (nI (min 10 (lvN t c + more))) (nI (wetS t (cSand c) (min 10 (lvN t c + more))))) xFU (nI 0, mm P I2 J) = some r ∧ (∃ I', r = (nI (wetS t (cSand c) (min 10 (lvN t c + more))), mm P I' J) ∧ (∀ a i, ¬ (a = 164 ∧ (i = 20 ∨ i = 21)) → a ≠ 169 → a ≠ 170 → a ≠ 171 → a ≠ 172 → I' a i = I a i) ∧ OnM I' t (tickS t c (min 10 (lvN t c + more)))) := by
    refine xit_inv (fun j z => ∃ I', z = (nI j, mm P I' J) ∧ (∀ a i, ¬ (a = 164 ∧ i = 20) → I' a i = I2 a i) ∧ I' 164 20 = nI (fallN c (wetS t (cSand c) (min 10 (lvN t c + more))) f j)) _ (cHouses c).length ⟨I2, rfl, fun _ _ _ => rfl, by rw [e2 _ _ (by omega) (by omega) (by omega)]; exact f2⟩ (fun j z hj hq => ?_) (fun z hq => ?_) (by omega)
    · obtain ⟨I3, rfl, q1, q2⟩ := hq
      left
      obtain ⟨q, hq, hcell⟩ := house_at hj
      have v92 : I3 165 92 = nI (cHouses c).length := by rw [q1 _ _ (by omega), e2 _ _ (by omega) (by omega) (by omega)]; exact b1
      have vc : I3 165 (93 + 2 * j) = nI (cellH c j) := by rw [q1 _ _ (by omega), e2 _ _ (by omega) (by omega) (by omega), hcell]; exact (b2 j q hq).1
      have cl : cellH c j < 25 := by
        have := (hc.2.1.2 q (List.mem_of_getElem? hq)).1
        omega
      have c1 : ¬ nI (cHouses c).length ≤ nI j := nI_ge hj (by omega)
      have ii := isInM (m := wetS t (cSand c) (min 10 (lvN t c + more))) (c := cellH c j) (by omega) (by omega) (mm P I3 J)
      have flt := fallN_lt (c := c) (wet := wetS t (cSand c) (min 10 (lvN t c + more))) f1 j (by omega)
      have pj : 2 ^ j < 2 ^ 6 := Nat.pow_lt_pow_right (by omega) (by omega)
      have e93 : (93 : Int32) + (2 : Int32) * nI j = nI (93 + 2 * j) := by rw [show (2 : Int32) = nI 2 from rfl, pk_mul]; exact nI_add 93 (2 * j)
      by_cases hb : (wetS t (cSand c) (min 10 (lvN t c + more))).testBit (cellH c j) = true
      · rw [if_pos hb] at ii
        refine ⟨(nI (j + 1), mm P (xu I3 164 20 (nI (fallN c (wetS t (cSand c) (min 10 (lvN t c + more))) f j ||| 2 ^ j))) J), ?_, _, rfl, fun a i h => by rw [xu_o (by omega), q1 a i h], ?_⟩
        · unfold F_X12_goesOn_42b F_X12_goesOn_87
          simp only [e93]
          simp (disch := omega) only [↓bOM hP, ↓bAM, v92, ↓reduceIte, c1, vc, ↓bs ii, one_ne, q2, one_shl, orN, nI_1]
        · rw [xu_self]
          show _ = nI (if (wetS t (cSand c) (min 10 (lvN t c + more))).testBit (cellH c j) = true then _ else _)
          rw [if_pos hb]
      · rw [if_neg hb] at ii
        refine ⟨(nI (j + 1), mm P I3 J), ?_, I3, rfl, q1, ?_⟩
        · unfold F_X12_goesOn_42b F_X12_goesOn_87
          simp only [e93]
          simp (disch := omega) only [↓bOM hP, ↓bAM, v92, ↓reduceIte, c1, vc, ↓bs ii, one_ne, nI_1]
        · show _ = nI (if (wetS t (cSand c) (min 10 (lvN t c + more))).testBit (cellH c j) = true then _ else _)
          rw [if_neg hb]; exact q2
    · obtain ⟨I3, rfl, q1, q2⟩ := hq
      have v92 : I3 165 92 = nI (cHouses c).length := by rw [q1 _ _ (by omega), e2 _ _ (by omega) (by omega) (by omega)]; exact b1
      have c1 : nI (cHouses c).length ≤ nI (cHouses c).length := nI_le (Nat.le_refl _) (by omega)
      have hA3 : LandA (I3 165) 0 t := LandA_cg (A := I 165) hw (fun x _ => by rw [q1 _ _ (by omega), e2 _ _ (by omega) (by omega) (by omega)]) hA
      obtain ⟨I4, g1, g2, g3⟩ := goes96 hP (I := I3) (J := J) (lv := min 10 (lvN t c + more)) (wet := wetS t (cSand c) (min 10 (lvN t c + more))) (mi := cMinute c + 1) (mo := cMoon c) (s := cSand c) hw hA3 wlt (fun i hi => by rw [q1 _ _ (by omega), e2 _ _ (by omega) (by omega) (by omega)]; exact o1 i hi) (by rw [q1 _ _ (by omega), l2 _ _ (by omega) (by omega), xu_self]) (by rw [q1 _ _ (by omega), e2 _ _ (by omega) (by omega) (by omega)]; exact b3)
      refine ⟨(nI (wetS t (cSand c) (min 10 (lvN t c + more))), mm P I4 J), ?_, I4, rfl, fun a i h1 h2 h3 h4 h5 => ?_, g3, ⟨fallN c (wetS t (cSand c) (min 10 (lvN t c + more))) f (cHouses c).length, fallN_lt f1 _ hl6, ?_, fun h hh => ?_⟩, ?_⟩
      · simp only [F_X12_goesOn_42b, F_X12_goesOn_93, ↓bOM hP, ↓bAM, v92, ↓reduceIte, c1, g1, Option.map_some]
      · rw [g2 a i h2 h3 h4 h5, q1 a i (by omega), e2 a i (by omega) h2 h3]
      · rw [g2 _ _ (by omega) (by omega) (by omega) (by omega)]
        exact q2
      · have hh' : h < (cHouses c).length := hh
        show _ = !(fellN c (wetS t (cSand c) (min 10 (lvN t c + more))) (cHouses c).length).testBit h
        rw [fallN_bit, fellN_bit, f3 h hh', decide_eq_true hh']
        cases (cStand c).testBit h <;> cases (wetS t (cSand c) (min 10 (lvN t c + more))).testBit (cellH c h) <;> rfl
      · rw [g2 _ _ (by omega) (by omega) (by omega) (by omega), q1 _ _ (by omega), l2 _ _ (by omega) (by omega), xu_self]
        rfl
  obtain ⟨r, z1, I', rfl, z2, z3⟩ := key
  refine ⟨I', ?_, z2, z3⟩
  have y106 : xu I 164 21 (nI (cMinute c + 1)) 165 106 = nI (cMoon c) := by rw [xu_o (by omega)]; exact b3
  unfold F_X12_goesOn F_X12_goesOn_42
  simp only [↓bOM hP, o3]
  simp only [nI_1]
  simp only [↓bOM hP, ↓bAM, xu_self, y106, ↓bs l1]
  simp only [nI_add]
  simp only [↓bs kp', ↓bOM hP, ↓bs w1]
  rw [show (0 : Int32) = nI 0 from rfl]
  exact z1
