/-! ===== the rooms as the model lays them ===== -/
def r0D (t : Txt) (s : Nat → Nat) (lv i j : Nat) : Int :=
  if i = 50 then (if j % 2 = 0 ∧ j / 2 < tW t then 268435456 else 0)
  else if i / 2 < tN t then (if i % 2 = 0 then (if j = i + 1 then ((lv - s (i / 2) : Nat) : Int) else 0) else (if j % 2 = 0 ∧ j / 2 < tN t ∧ adjB (tW t) (j / 2) (i / 2) = true then 268435456 else 0))
  else 0
theorem tW_tN {t : Txt} (hw : wfT t) : tW t ≤ tN t := Nat.le_mul_of_pos_left _ hw.1.1
theorem r0D_50 {t : Txt} {s : Nat → Nat} {lv j : Nat} : r0D t s lv 50 j = if j % 2 = 0 ∧ j / 2 < tW t then 268435456 else 0 := if_pos rfl
theorem r0D_in {t : Txt} {s : Nat → Nat} {lv v j : Nat} (hv : v < tN t) (h25 : v < 25) : r0D t s lv (2 * v) j = if j = 2 * v + 1 then ((lv - s v : Nat) : Int) else 0 := by
  unfold r0D
  rw [if_neg (by omega), show 2 * v / 2 = v by omega, if_pos hv, if_pos (by omega)]
theorem r0D_out {t : Txt} {s : Nat → Nat} {lv v j : Nat} (hv : v < tN t) : r0D t s lv (2 * v + 1) j = if j % 2 = 0 ∧ j / 2 < tN t ∧ adjB (tW t) (j / 2) v = true then 268435456 else 0 := by
  unfold r0D
  rw [if_neg (by omega), show (2 * v + 1) / 2 = v by omega, if_pos hv, if_neg (by omega)]
theorem r0D_no {t : Txt} {s : Nat → Nat} {lv i j : Nat} (h1 : i ≠ 50) (h2 : ¬ i / 2 < tN t) : r0D t s lv i j = 0 := by
  unfold r0D
  rw [if_neg h1, if_neg h2]
theorem r0D_rg {t : Txt} {s : Nat → Nat} {lv : Nat} (hlv : lv ≤ 10) (i j : Nat) : 0 ≤ r0D t s lv i j ∧ r0D t s lv i j ≤ 268435456 := by
  unfold r0D
  split
  · split <;> omega
  · split
    · split
      · split <;> omega
      · split <;> omega
    · omega
/-- the pairs of one cell -/
theorem lays103 {P : Nat → Nat → Option Nat} (hP : GP P) {I : Nat → Nat → Int32} {J : Nat → Nat → Int64} {t : Txt} (hw : wfT t) (hA : LandA (I 165) 0 t) {v : Nat} (hv : v < tN t) (v1 : Int32) :
    ∃ I', F_X12_laysRoom_103 164 v1 (nI v) 0 (mm P I J) = some (.inl (nI (v + 1), mm P I' J)) ∧ (∀ a i, a ≠ 174 → I' a i = I a i) ∧ ∀ i j, i < 51 → j < 51 → I' 174 (51 * i + j) = if i = 2 * v + 1 ∧ j % 2 = 0 ∧ j / 2 < tN t ∧ adjB (tW t) (j / 2) v = true then 268435456 else I 174 (51 * i + j) := by
  have hN := tN_le hw
  have hw' := hw
  obtain ⟨-, ⟨w1, w5⟩, -⟩ := hw'
  have key : ∃ r : (Int32 × xM) ⊕ xM, xit (F_X12_laysRoom_103b 164 v1 (nI v)) xFU (nI 0, mm P I J) = some r ∧ (∃ I', r = .inl (nI (v + 1), mm P I' J) ∧ (∀ a i, a ≠ 174 → I' a i = I a i) ∧ ∀ i j, i < 51 → j < 51 → I' 174 (51 * i + j) = if i = 2 * v + 1 ∧ j % 2 = 0 ∧ j / 2 < tN t ∧ adjB (tW t) (j / 2) v = true then 268435456 else I 174 (51 * i + j)) := by
    refine xit_inv (fun d z => ∃ I', z = (nI d, mm P I' J) ∧ (∀ a i, a ≠ 174 → I' a i = I a i) ∧ ∀ i j, i < 51 → j < 51 → I' 174 (51 * i + j) = if i = 2 * v + 1 ∧ j % 2 = 0 ∧ j / 2 < d ∧ adjB (tW t) (j / 2) v = true then 268435456 else I 174 (51 * i + j)) _ (tN t) ⟨I, rfl, fun _ _ _ => rfl, fun i j _ _ => by rw [if_neg (by omega)]⟩ (fun d z hd hq => ?_) (fun z hq => ?_) (by omega)
    · obtain ⟨I1, rfl, g1, g2⟩ := hq
      left
      have e165 : I1 165 = I 165 := funext fun x => g1 165 x (by omega)
      have hA1 : LandA (I1 165) 0 t := by rw [e165]; exact hA
      have ic := isCellM (mm_G (I := I1) (J := J) hP) hw (show LandA ((mm P I1 J).2.1 165) 0 t from hA1) (nI d)
      rw [nI_toInt (by omega), if_pos (by omega)] at ic
      obtain ⟨b1, b2⟩ := besides_M hP (I := I1) (J := J) hw hA1 hv
      have ii := isInM (m := besN (tW t) (tN t) v) (c := d) b2 (by omega) (mm P I1 J)
      rw [besN_bit w1 w5 hd] at ii
      have ix : ((51 : Int32) * ((2 : Int32) * nI v + (1 : Int32))) + (2 : Int32) * nI d = nI (51 * (2 * v + 1) + 2 * d) := by
        rw [show (51 : Int32) = nI 51 from rfl, show (2 : Int32) = nI 2 from rfl, pk_mul, pk_mul, nI_1, pk_mul, nI_add]
      cases hb : adjB (tW t) d v with
      | true =>
        rw [hb, if_pos rfl] at ii
        refine ⟨(nI (d + 1), mm P (xu I1 174 (51 * (2 * v + 1) + 2 * d) 268435456) J), ?_, _, rfl, fun a i h => by rw [xu_o (by omega), g1 a i h], fun i j hi hj => ?_⟩
        · unfold F_X12_laysRoom_103b F_X12_laysRoom_145
          simp (disch := omega) only [↓bOM hP, ↓bs ic, one_ne, ↓reduceIte, ↓bs b1, ↓bs ii, ix, ↓bAM, nI_1]
        · by_cases e : i = 2 * v + 1 ∧ j = 2 * d
          · obtain ⟨rfl, rfl⟩ := e
            rw [xu_self, if_pos ⟨rfl, by omega, by omega, by rw [show 2 * d / 2 = d by omega]; exact hb⟩]
          · rw [xu_o (by omega), g2 i j hi hj]
            by_cases h : i = 2 * v + 1 ∧ j % 2 = 0 ∧ j / 2 < d ∧ adjB (tW t) (j / 2) v = true
            · rw [if_pos h, if_pos ⟨h.1, h.2.1, by omega, h.2.2.2⟩]
            · rw [if_neg h, if_neg (fun z => h ⟨z.1, z.2.1, by omega, z.2.2.2⟩)]
      | false =>
        rw [hb, if_neg (by decide)] at ii
        refine ⟨(nI (d + 1), mm P I1 J), ?_, _, rfl, g1, fun i j hi hj => ?_⟩
        · unfold F_X12_laysRoom_103b F_X12_laysRoom_145
          simp (disch := omega) only [↓bOM hP, ↓bs ic, one_ne, ↓reduceIte, ↓bs b1, ↓bs ii, nI_1]
        · rw [g2 i j hi hj]
          by_cases h : i = 2 * v + 1 ∧ j % 2 = 0 ∧ j / 2 < d ∧ adjB (tW t) (j / 2) v = true
          · rw [if_pos h, if_pos ⟨h.1, h.2.1, by omega, h.2.2.2⟩]
          · rw [if_neg h, if_neg (fun z => by
              by_cases e : j / 2 = d
              · rw [e, hb] at z
                exact absurd z.2.2.2 (by decide)
              · exact h ⟨z.1, z.2.1, by omega, z.2.2.2⟩)]
    · obtain ⟨I1, rfl, g1, g2⟩ := hq
      have e165 : I1 165 = I 165 := funext fun x => g1 165 x (by omega)
      have hA1 : LandA (I1 165) 0 t := by rw [e165]; exact hA
      have ic := isCellM (mm_G (I := I1) (J := J) hP) hw (show LandA ((mm P I1 J).2.1 165) 0 t from hA1) (nI (tN t))
      rw [nI_toInt (by omega), if_neg (by omega)] at ic
      refine ⟨.inl (nI (v + 1), mm P I1 J), ?_, I1, rfl, g1, g2⟩
      unfold F_X12_laysRoom_103b F_X12_laysRoom_151
      simp (disch := omega) only [↓bOM hP, ↓bs ic, ↓reduceIte, nI_1, Option.map_some]
  obtain ⟨r, k1, I', rfl, k2⟩ := key
  exact ⟨I', k1, k2⟩
/-- the rooms after so many cells -/
def r0P (t : Txt) (s : Nat → Nat) (lv v i j : Nat) : Int := if (i = 50 ∧ j / 2 < v) ∨ (i ≠ 50 ∧ i / 2 < v) then r0D t s lv i j else 0
theorem rZ_at {I : Nat → Nat → Int32} {i j : Nat} : rZ I i j = (I 174 (51 * i + j)).toInt := rfl
theorem lays24 {P : Nat → Nat → Option Nat} (hP : GP P) {I : Nat → Nat → Int32} {J : Nat → Nat → Int64} {t : Txt} {s : Nat → Nat} {lv : Nat} (hw : wfT t) (hA : LandA (I 165) 0 t) (hs : ∀ i, i < tN t → I 165 (67 + i) = nI (s i) ∧ s i ≤ 9) (hlv : lv ≤ 10) (h0 : ∀ x, x < 2601 → I 174 x = 0) :
    ∃ I', F_X12_laysRoom_24 164 (nI lv) 0 (mm P I J) = some (mm P I' J) ∧ (∀ a i, a ≠ 174 → I' a i = I a i) ∧ ∀ i j, i < 51 → j < 51 → rZ I' i j = r0D t s lv i j := by
  have hN := tN_le hw
  have hWN := tW_tN hw
  have a2 : I 165 2 = nI (tW t) := hA.2.2.1
  have big : (268435456 : Int32).toInt = 268435456 := by decide
  have key : ∃ r : xM, xit (F_X12_laysRoom_24b 164 (nI lv)) xFU (nI 0, mm P I J) = some r ∧ (∃ I', r = mm P I' J ∧ (∀ a i, a ≠ 174 → I' a i = I a i) ∧ ∀ i j, i < 51 → j < 51 → rZ I' i j = r0D t s lv i j) := by
    refine xit_inv (fun v z => ∃ I', z = (nI v, mm P I' J) ∧ (∀ a i, a ≠ 174 → I' a i = I a i) ∧ ∀ i j, i < 51 → j < 51 → rZ I' i j = r0P t s lv v i j) _ (tN t) ⟨I, rfl, fun _ _ _ => rfl, fun i j hi hj => by
      unfold rZ r0P
      rw [h0 _ (by omega), if_neg (by omega)]
      rfl⟩ (fun v z hv hq => ?_) (fun z hq => ?_) (by omega)
    · obtain ⟨I1, rfl, g1, g2⟩ := hq
      left
      have e165 : I1 165 = I 165 := funext fun x => g1 165 x (by omega)
      have hA1 : LandA (I1 165) 0 t := by rw [e165]; exact hA
      have ic := isCellM (mm_G (I := I1) (J := J) hP) hw (show LandA ((mm P I1 J).2.1 165) 0 t from hA1) (nI v)
      rw [nI_toInt (by omega), if_pos (by omega)] at ic
      obtain ⟨s1, s2⟩ := hs v hv
      have s1' : I1 165 (67 + v) = nI (s v) := by rw [e165]; exact s1
      have ix0 : (67 : Int32) + nI v = nI (67 + v) := nI_add 67 v
      have ix1 : ((102 : Int32) * nI v + (2 : Int32) * nI v) + (1 : Int32) = nI (51 * (2 * v) + (2 * v + 1)) := by
        rw [show (102 : Int32) = nI 102 from rfl, show (2 : Int32) = nI 2 from rfl, pk_mul, pk_mul, nI_add, nI_1]
        congr 1
        omega
      have ix2 : (2550 : Int32) + (2 : Int32) * nI v = nI (51 * 50 + 2 * v) := by
        rw [show (2550 : Int32) = nI 2550 from rfl, show (2 : Int32) = nI 2 from rfl, pk_mul, nI_add]
      have st1 : F_X12_laysRoom_24b 164 (nI lv) (nI v, mm P I1 J) = F_X12_laysRoom_75 164 (nI lv) (nI v) (nI (lv - s v)) (nI (51 * (2 * v) + (2 * v + 1))) 174 (mm P I1 J) := by
        unfold F_X12_laysRoom_24b
        by_cases h : lv ≤ s v
        · have c1 : nI lv ≤ nI (s v) := nI_le h (by omega)
          have e0 : nI (lv - s v) = 0 := by rw [show lv - s v = 0 by omega]; rfl
          simp (disch := omega) only [↓bOM hP, ↓bs ic, one_ne, ↓reduceIte, ix0, ↓bAM, s1', c1, ix1, e0]
        · have c1 : ¬ nI lv ≤ nI (s v) := nI_ge (by omega) (by omega)
          have e0 : nI lv - nI (s v) = nI (lv - s v) := pk_sub (by omega)
          simp (disch := omega) only [↓bOM hP, ↓bs ic, one_ne, ↓reduceIte, ix0, ↓bAM, s1', c1, ix1, e0]
      have rm : (nI (lv - s v)).toInt = ((lv - s v : Nat) : Int) := nI_toInt (by omega)
      -- what is laid of this cell before its pairs
      have st2 : ∃ I2, F_X12_laysRoom_75 164 (nI lv) (nI v) (nI (lv - s v)) (nI (51 * (2 * v) + (2 * v + 1))) 174 (mm P I1 J) = F_X12_laysRoom_101 164 (nI lv) (nI v) (mm P I2 J) ∧ (∀ a i, a ≠ 174 → I2 a i = I1 a i) ∧ ∀ i j, i < 51 → j < 51 → rZ I2 i j = if i = 2 * v ∧ j = 2 * v + 1 then ((lv - s v : Nat) : Int) else if i = 50 ∧ j = 2 * v ∧ v < tW t then 268435456 else rZ I1 i j := by
        have r2 : xu I1 174 (51 * (2 * v) + (2 * v + 1)) (nI (lv - s v)) 165 2 = nI (tW t) := by rw [xu_o (by omega), e165]; exact a2
        by_cases h : v < tW t
        · have c1 : ¬ nI (tW t) ≤ nI v := nI_ge h (by omega)
          refine ⟨xu (xu I1 174 (51 * (2 * v) + (2 * v + 1)) (nI (lv - s v))) 174 (51 * 50 + 2 * v) 268435456, ?_, fun a i ha => by rw [xu_o (by omega), xu_o (by omega)], fun i j hi hj => ?_⟩
          · unfold F_X12_laysRoom_75
            simp (disch := omega) only [↓bOM hP, ↓bAM, r2, c1, ↓reduceIte, ix2]
          · unfold rZ
            by_cases e1 : i = 2 * v ∧ j = 2 * v + 1
            · rw [if_pos e1, e1.1, e1.2, xu_o (by omega), xu_self, rm]
            · rw [if_neg e1]
              by_cases e2 : i = 50 ∧ j = 2 * v ∧ v < tW t
              · rw [if_pos e2, e2.1, e2.2.1, xu_self, big]
              · rw [if_neg e2, xu_o (by omega), xu_o (by omega)]
        · have c1 : nI (tW t) ≤ nI v := nI_le (by omega) (by omega)
          refine ⟨xu I1 174 (51 * (2 * v) + (2 * v + 1)) (nI (lv - s v)), ?_, fun a i ha => by rw [xu_o (by omega)], fun i j hi hj => ?_⟩
          · unfold F_X12_laysRoom_75
            simp (disch := omega) only [↓bOM hP, ↓bAM, r2, c1, ↓reduceIte]
          · unfold rZ
            by_cases e1 : i = 2 * v ∧ j = 2 * v + 1
            · rw [if_pos e1, e1.1, e1.2, xu_self, rm]
            · rw [if_neg e1, if_neg (by omega), xu_o (by omega)]
      obtain ⟨I2, t1, t2, t3⟩ := st2
      have f165 : I2 165 = I 165 := funext fun x => by rw [t2 165 x (by omega), g1 165 x (by omega)]
      obtain ⟨I3, u1, u2, u3⟩ := lays103 hP (I := I2) (J := J) hw (by rw [f165]; exact hA) hv (nI lv)
      refine ⟨(nI (v + 1), mm P I3 J), ?_, I3, rfl, fun a i ha => by rw [u2 a i ha, t2 a i ha, g1 a i ha], fun i j hi hj => ?_⟩
      · rw [st1, t1]
        exact u1
      · rw [rZ_at, u3 i j hi hj]
        have old := g2 i j hi hj
        have new := t3 i j hi hj
        unfold r0P at old ⊢
        by_cases e1 : i = 50
        · subst e1
          rw [if_neg (by omega), ← rZ_at, new, if_neg (by omega), old, r0D_50]
          by_cases e2 : j / 2 = v
          · rw [if_neg (show ¬ ((50 = 50 ∧ j / 2 < v) ∨ (50 ≠ 50 ∧ 50 / 2 < v)) by omega), if_pos (show (50 = 50 ∧ j / 2 < v + 1) ∨ (50 ≠ 50 ∧ 50 / 2 < v + 1) by omega)]
            by_cases e3 : j = 2 * v ∧ v < tW t
            · rw [if_pos (show 50 = 50 ∧ j = 2 * v ∧ v < tW t from ⟨rfl, e3⟩), if_pos (by omega)]
            · rw [if_neg (show ¬ (50 = 50 ∧ j = 2 * v ∧ v < tW t) from fun z => e3 z.2), if_neg (by omega)]
          · rw [if_neg (show ¬ (50 = 50 ∧ j = 2 * v ∧ v < tW t) by omega)]
            by_cases e3 : j / 2 < v
            · rw [if_pos (show (50 = 50 ∧ j / 2 < v) ∨ (50 ≠ 50 ∧ 50 / 2 < v) by omega), if_pos (show (50 = 50 ∧ j / 2 < v + 1) ∨ (50 ≠ 50 ∧ 50 / 2 < v + 1) by omega)]
            · rw [if_neg (show ¬ ((50 = 50 ∧ j / 2 < v) ∨ (50 ≠ 50 ∧ 50 / 2 < v)) by omega), if_neg (show ¬ ((50 = 50 ∧ j / 2 < v + 1) ∨ (50 ≠ 50 ∧ 50 / 2 < v + 1)) by omega)]
        · by_cases e2 : i / 2 = v
          · rw [if_pos (show (i = 50 ∧ j / 2 < v + 1) ∨ (i ≠ 50 ∧ i / 2 < v + 1) by omega)]
            rw [if_neg (show ¬ ((i = 50 ∧ j / 2 < v) ∨ (i ≠ 50 ∧ i / 2 < v)) by omega)] at old
            by_cases e3 : i = 2 * v
            · rw [if_neg (by omega), ← rZ_at, new, e3, r0D_in hv (by omega)]
              by_cases e4 : j = 2 * v + 1
              · rw [if_pos ⟨rfl, e4⟩, if_pos e4]
              · rw [if_neg (by omega), if_neg (by omega), if_neg e4, ← e3, old]
            · have e4 : i = 2 * v + 1 := by omega
              rw [if_neg (by omega), if_neg (by omega), old] at new
              rw [e4, r0D_out hv]
              by_cases e5 : j % 2 = 0 ∧ j / 2 < tN t ∧ adjB (tW t) (j / 2) v = true
              · rw [if_pos ⟨rfl, e5⟩, if_pos e5, big]
              · rw [if_neg (fun z => e5 z.2), if_neg e5]
                rw [e4, rZ_at] at new
                exact new
          · rw [if_neg (by omega), ← rZ_at, new, if_neg (by omega), if_neg (by omega), old]
            by_cases e3 : i / 2 < v
            · rw [if_pos (show (i = 50 ∧ j / 2 < v) ∨ (i ≠ 50 ∧ i / 2 < v) by omega), if_pos (show (i = 50 ∧ j / 2 < v + 1) ∨ (i ≠ 50 ∧ i / 2 < v + 1) by omega)]
            · rw [if_neg (show ¬ ((i = 50 ∧ j / 2 < v) ∨ (i ≠ 50 ∧ i / 2 < v)) by omega), if_neg (show ¬ ((i = 50 ∧ j / 2 < v + 1) ∨ (i ≠ 50 ∧ i / 2 < v + 1)) by omega)]
    · obtain ⟨I1, rfl, g1, g2⟩ := hq
      have e165 : I1 165 = I 165 := funext fun x => g1 165 x (by omega)
      have hA1 : LandA (I1 165) 0 t := by rw [e165]; exact hA
      have ic := isCellM (mm_G (I := I1) (J := J) hP) hw (show LandA ((mm P I1 J).2.1 165) 0 t from hA1) (nI (tN t))
      rw [nI_toInt (by omega), if_neg (by omega)] at ic
      refine ⟨mm P I1 J, ?_, I1, rfl, g1, fun i j hi hj => ?_⟩
      · unfold F_X12_laysRoom_24b F_X12_laysRoom_157
        simp (disch := omega) only [↓bOM hP, ↓bs ic, ↓reduceIte, Option.map_some]
      · rw [g2 i j hi hj]
        unfold r0P
        by_cases h : (i = 50 ∧ j / 2 < tN t) ∨ (i ≠ 50 ∧ i / 2 < tN t)
        · rw [if_pos h]
        · rw [if_neg h]
          by_cases e : i = 50
          · rw [e, r0D_50, if_neg (by omega)]
          · rw [r0D_no e (by omega)]
  obtain ⟨r, k1, I', rfl, k2⟩ := key
  exact ⟨I', k1, k2⟩
theorem lays_R {P : Nat → Nat → Option Nat} (hP : GP P) {I : Nat → Nat → Int32} {J : Nat → Nat → Int64} {t : Txt} {s : Nat → Nat} {lv : Nat} (hw : wfT t) (hA : LandA (I 165) 0 t) (hs : ∀ i, i < tN t → I 165 (67 + i) = nI (s i) ∧ s i ≤ 9) (hlv : lv ≤ 10) :
    ∃ I', F_X12_laysRoom 164 (nI lv) (mm P I J) = some (mm P I' J) ∧ (∀ a i, a ≠ 174 → I' a i = I a i) ∧ ∀ i j, i < 51 → j < 51 → rZ I' i j = r0D t s lv i j := by
  have key : ∃ r : xM, xit (F_X12_laysRoom_2b 164 (nI lv)) xFU (nI 0, mm P I J) = some r ∧ (∃ I', r = mm P I' J ∧ (∀ a i, a ≠ 174 → I' a i = I a i) ∧ ∀ i j, i < 51 → j < 51 → rZ I' i j = r0D t s lv i j) := by
    refine xit_inv (fun x z => ∃ I', z = (nI x, mm P I' J) ∧ (∀ a i, a ≠ 174 → I' a i = I a i) ∧ ∀ y, y < x → I' 174 y = 0) _ 2601 ⟨I, rfl, fun _ _ _ => rfl, fun y hy => by omega⟩ (fun x z hx hq => ?_) (fun z hq => ?_) (by omega)
    · obtain ⟨I1, rfl, g1, g2⟩ := hq
      left
      have c1 : ¬ (2601 : Int32) ≤ nI x := nI_ge (b := 2601) hx (by omega)
      refine ⟨(nI (x + 1), mm P (xu I1 174 x 0) J), ?_, _, rfl, fun a i h => by rw [xu_o (by omega), g1 a i h], fun y hy => ?_⟩
      · unfold F_X12_laysRoom_2b
        simp (disch := omega) only [c1, ↓reduceIte, ↓bOM hP, ↓bAM, nI_1]
      · by_cases e : y = x
        · rw [e, xu_self]
        · rw [xu_o (by omega)]; exact g2 y (by omega)
    · obtain ⟨I1, rfl, g1, g2⟩ := hq
      have e165 : I1 165 = I 165 := funext fun x => g1 165 x (by omega)
      have c1 : (2601 : Int32) ≤ nI 2601 := by decide
      obtain ⟨I2, u1, u2, u3⟩ := lays24 hP (I := I1) (J := J) (s := s) hw (by rw [e165]; exact hA) (by rw [e165]; exact hs) hlv g2
      refine ⟨mm P I2 J, ?_, I2, rfl, fun a i h => by rw [u2 a i h, g1 a i h], u3⟩
      unfold F_X12_laysRoom_2b F_X12_laysRoom_22
      simp only [c1, ↓reduceIte, u1, Option.map_some]
  obtain ⟨r, k1, I', rfl, k2⟩ := key
  exact ⟨I', k1, k2⟩
theorem r0D_enter {t : Txt} {s : Nat → Nat} {lv x : Nat} (hN : tN t ≤ 25) : ∀ i, i < 51 → i ≠ 2 * x → r0D t s lv i (2 * x + 1) = 0 := fun i hi hn => by
  unfold r0D
  by_cases e : i = 50
  · rw [if_pos e, if_neg (by omega)]
  · rw [if_neg e]
    by_cases e2 : i / 2 < tN t
    · rw [if_pos e2]
      by_cases e3 : i % 2 = 0
      · rw [if_pos e3, if_neg (by omega)]
      · rw [if_neg e3, if_neg (by omega)]
    · rw [if_neg e2]
theorem cut_T {t : Txt} {s : Nat → Nat} {lv x : Nat} (hN : tN t ≤ 25) (hx : x < tN t) (hlv : lv ≤ 10) : cutZ (r0D t s lv) (fun u => !(u == 2 * x + 1)) ≤ 10 := by
  rw [cut_all (a := 2 * x) (by omega) (by omega) (by omega) (r0D_enter hN), r0D_in hx (by omega), if_pos rfl]
  omega
theorem least_M {P : Nat → Nat → Option Nat} (hP : GP P) {I : Nat → Nat → Int32} {J : Nat → Nat → Int64} {t : Txt} {s : Nat → Nat} {lv x : Nat} (hw : wfT t) (hA : LandA (I 165) 0 t) (hs : ∀ i, i < tN t → I 165 (67 + i) = nI (s i) ∧ s i ≤ 9) (hlv : lv ≤ 10) (hx : x < tN t) :
    ∃ I' k, F_X12_leastFor 164 (nI x) (nI lv) (mm P I J) = some (nI k, mm P I' J) ∧ (∀ a i, a ≠ 174 → a ≠ 175 → a ≠ 176 → I' a i = I a i) ∧ isLeast (r0D t s lv) (2 * x + 1) k := by
  have hN := tN_le hw
  obtain ⟨I1, a1, a2, a3⟩ := lays_R hP (I := I) (J := J) hw hA hs hlv
  obtain ⟨I2, k, b1, b2, b3⟩ := flow_M hP (I := I1) (J := J) (r0 := r0D t s lv) (T := 2 * x + 1) (by omega) a3 (fun i j _ _ => r0D_rg hlv i j) (cut_T hN.1 hx hlv)
  refine ⟨I2, k, ?_, fun a i h1 h2 h3 => by rw [b2 a i h1 h2 h3, a2 a i h1], b3⟩
  have ix : (2 : Int32) * nI x + (1 : Int32) = nI (2 * x + 1) := by rw [show (2 : Int32) = nI 2 from rfl, pk_mul, nI_1]
  unfold F_X12_leastFor
  simp only [↓bOM hP, ↓bs a1, ix, ↓Option.bind_some]
  exact b1
