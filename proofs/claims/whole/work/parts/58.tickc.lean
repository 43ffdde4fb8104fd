theorem LandC_I {P : Nat → Nat → Option Nat} {I I' : Nat → Nat → Int32} {J J' : Nat → Nat → Int64} {t : Txt} (h : ∀ k i, 14 ≤ k → k ≤ 20 → I' k i = I k i) (hL : LandC (mm P I J) 14 t) : LandC (mm P I' J') 14 t := LandC_cg (M := mm P I J) (fun j hj => funext fun i => h _ i (by omega) (by omega)) hL
theorem CoI_fr {I I' : Nat → Nat → Int32} {k : Nat} {t : Txt} {c : Cst} (h : ∀ a i, k ≤ a → a ≤ k + 3 → I' a i = I a i) (hC : CoI I k t c) : CoI I' k t c := by
  obtain ⟨g1, g2, g3, g4, g5, g6⟩ := hC
  refine ⟨fun i hi => ?_, ?_, fun i q hq => ⟨?_, ?_⟩, ?_, ?_, ?_⟩
  · rw [h _ _ (by omega) (by omega)]; exact g1 i hi
  · rw [h _ _ (by omega) (by omega)]; exact g2
  · rw [h _ _ (by omega) (by omega)]; exact (g3 i q hq).1
  · rw [h _ _ (by omega) (by omega)]; exact (g3 i q hq).2
  · rw [h _ _ (by omega) (by omega)]; exact g4
  · rw [h _ _ (by omega) (by omega)]; exact g5
  · rw [h _ _ (by omega) (by omega)]; exact g6
theorem wet_bits {t : Txt} {s : Nat → Nat} {lv m : Nat} (h : wetP t s lv m) : ∀ b, m.testBit b = true → b < tN t := fun b hb => (lowB_iff.mp (h.1.1 b hb)).1
theorem tickAt_C {P : Nat → Nat → Option Nat} (hP : GP P) {I : Nat → Nat → Int32} {J : Nat → Nat → Int64} {t : Txt} {c : Cst} {n k lv : Nat} (hk : k ∈ coastL) (hw : wfT t) (hc : wfC t c n) (hL : LandC (mm P I J) 14 t) (hC : CoI I k t c) (hlv : lv ≤ 11) :
    ∃ I', F_X8_tickAt 29 14 k (nI lv) (mm P I J) = some (nI (wetS t (cSand c) lv), mm P I' J) ∧ (∀ a i, ¬ (k ≤ a ∧ a ≤ k + 3) → a ≠ 31 → a ≠ 32 → a ≠ 33 → I' a i = I a i) ∧ CoI I' k t (tickS t c lv) := by
  have hf := coast_far k hk
  have hC0 := hC
  obtain ⟨g1, g2, g3, g4, g5, g6⟩ := hC0
  have hL1 : LandC (mm P (xu I k 6 (nI (cMinute c + 1))) J) 14 t := LandC_I (fun a i h1 h2 => xu_o (by omega)) hL
  have hC1 : CoI (xu I k 6 (nI (cMinute c + 1))) k t (c.1, c.2.1, c.2.2.1, c.2.2.2.1, cMinute c + 1) := by
    refine ⟨fun i hi => ?_, ?_, fun i q hq => ⟨?_, ?_⟩, ?_, ?_, xu_self⟩
    · rw [xu_o (by omega)]; exact g1 i hi
    · rw [xu_o (by omega)]; exact g2
    · rw [xu_o (by omega)]; exact (g3 i q hq).1
    · rw [xu_o (by omega)]; exact (g3 i q hq).2
    · rw [xu_o (by omega)]; exact g4
    · rw [xu_o (by omega)]; exact g5
  have hc1 : wfC t (c.1, c.2.1, c.2.2.1, c.2.2.2.1, cMinute c + 1) (n + 1) := ⟨hc.1, hc.2.1, hc.2.2.1, hc.2.2.2.1, by have h : cMinute c ≤ 99 * n := hc.2.2.2.2; show cMinute c + 1 ≤ 99 * (n + 1); omega⟩
  obtain ⟨w1, w2⟩ := wet_C hP (J := J) hk hw hc1 hL1 hC1 (lv := lv) (by omega)
  have w1' : F_X8_wetAt 14 (k + 1) (nI lv) (mm P (xu I k 6 (nI (cMinute c + 1))) J) = some (nI (wetS t (cSand c) lv), mm P (xu I k 6 (nI (cMinute c + 1))) J) := w1
  have w2' : wetP t (cSand c) lv (wetS t (cSand c) lv) := w2
  have wlt := wetI_lt hw w2'.1
  obtain ⟨I2, f1, f2, f3⟩ := fell_C hP (J := J) hk hw hc1 hC1 wlt
  have fs : ∀ x, fellN (c.1, c.2.1, c.2.2.1, c.2.2.2.1, cMinute c + 1) (wetS t (cSand c) lv) x = fellN c (wetS t (cSand c) lv) x := by
    intro x
    induction x with
    | zero => rfl
    | succ x ih =>
      show (if _ then _ else _) = (if _ then _ else _)
      rw [ih]
      rfl
  have f3' : I2 k 4 = nI (fellN c (wetS t (cSand c) lv) (cHouses c).length) := by rw [f3]; exact congrArg nI (fs _)
  have e2 : ∀ a i, ¬ (a = k ∧ i = 4) → ¬ (a = k ∧ i = 6) → I2 a i = I a i := fun a i h1 h2 => by rw [f2 a i h1, xu_o h2]
  have hLL := hL
  obtain ⟨-, -, -, -, -, -, -, -, -, -, u1, v1, u2, v2, nn, -, ln, -, -, l10', l11', b1, b2, c1, c2⟩ := hLL
  have l10 : I2 14 10 = nI u2 := by rw [e2 14 10 (by omega) (by omega)]; exact l10'
  have l11 : I2 14 11 = nI v2 := by rw [e2 14 11 (by omega) (by omega)]; exact l11'
  have m6 : I k 6 = nI (cMinute c) := g6
  have fin : ∀ I', (∀ a i, a ≠ k + 1 → a ≠ 31 → a ≠ 32 → a ≠ 33 → I' a i = I2 a i) → (∀ i, i < tN t → I' (k + 1) i = nI (washS t (cMinute c + 1) (cMoon c) (cSand c) lv (wetS t (cSand c) lv) i)) → (∀ a i, ¬ (k ≤ a ∧ a ≤ k + 3) → a ≠ 31 → a ≠ 32 → a ≠ 33 → I' a i = I a i) ∧ CoI I' k t (tickS t c lv) := by
    intro I' h1 h2
    refine ⟨fun a i h3 h4 h5 h6 => by rw [h1 a i (by omega) h4 h5 h6, e2 a i (by omega) (by omega)], h2, ?_, fun i q hq => ⟨?_, ?_⟩, ?_, ?_, ?_⟩
    · rw [h1 _ _ (by omega) (by omega) (by omega) (by omega), e2 _ _ (by omega) (by omega)]; exact g2
    · rw [h1 _ _ (by omega) (by omega) (by omega) (by omega), e2 _ _ (by omega) (by omega)]; exact (g3 i q hq).1
    · rw [h1 _ _ (by omega) (by omega) (by omega) (by omega), e2 _ _ (by omega) (by omega)]; exact (g3 i q hq).2
    · rw [h1 _ _ (by omega) (by omega) (by omega) (by omega)]; exact f3'
    · rw [h1 _ _ (by omega) (by omega) (by omega) (by omega), e2 _ _ (by omega) (by omega)]; exact g5
    · rw [h1 _ _ (by omega) (by omega) (by omega) (by omega), f2 _ _ (by omega), xu_self]; rfl
  have head : F_X8_tickAt 29 14 k (nI lv) (mm P I J) = (if nI (wetS t (cSand c) lv) = 0 then some (nI (wetS t (cSand c) lv), mm P I2 J) else if nI v2 ≤ nI u2 then some (nI (wetS t (cSand c) lv), mm P I2 J) else (F_X8_wash 29 14 k (nI lv) (nI (wetS t (cSand c) lv)) (mm P I2 J)).bind fun t10 => some (nI (wetS t (cSand c) lv), t10)) := by
    unfold F_X8_tickAt
    simp only [↓bOK hP hk, m6]
    simp only [nI_1]
    simp only [↓bs w1', ↓bOK hP hk, ↓bs f1, ↓bOC hP, l10, l11]
  rw [head]
  have ce := c2.1
  by_cases hz : wetS t (cSand c) lv = 0
  · obtain ⟨z1, z2⟩ := fin I2 (fun _ _ _ _ _ _ => rfl) (fun i hi => by
      rw [e2 _ _ (by omega) (by omega), g1 i hi, hz]
      unfold washS
      rw [if_neg (show ¬ Nat.testBit 0 i = true by rw [Nat.zero_testBit]; decide)]
      split <;> rfl)
    refine ⟨I2, ?_, z1, z2⟩
    rw [if_pos (by rw [hz]; rfl)]
  · rw [if_neg (show ¬ nI (wetS t (cSand c) lv) = 0 from nI_ne0 (by omega) (by omega))]
    by_cases hne : tWash t = []
    · have hlen : (tWash t).length = 0 := by rw [hne]; rfl
      obtain ⟨z1, z2⟩ := fin I2 (fun _ _ _ _ _ _ => rfl) (fun i hi => by
        rw [e2 _ _ (by omega) (by omega), g1 i hi]
        unfold washS
        rw [if_pos hne])
      refine ⟨I2, ?_, z1, z2⟩
      rw [if_pos (nI_le (by omega) (by omega))]
    · have hlen : 0 < (tWash t).length := List.length_pos_iff.mpr hne
      rw [if_neg (nI_ge (by omega) (by omega))]
      obtain ⟨I3, q1, q2, q3⟩ := wash_C hP (I := I2) (J := J) (lv := lv) (wet := wetS t (cSand c) lv) (mi := cMinute c + 1) (mo := cMoon c) (s := cSand c) hk hw (LandC_I (fun a i h1 h2 => e2 a i (by omega) (by omega)) hL) hne (wet_bits w2') wlt (fun i hi => by rw [e2 _ _ (by omega) (by omega)]; exact g1 i hi) (by rw [f2 _ _ (by omega), xu_self]) (by rw [e2 _ _ (by omega) (by omega)]; exact g5)
      obtain ⟨z1, z2⟩ := fin I3 q2 q3
      refine ⟨I3, ?_, z1, z2⟩
      rw [q1]
      rfl
/-- the level of a coast's next minute -/
def lvN (t : Txt) (c : Cst) : Nat := lvlS t (cMinute c + 1) (cMoon c)
theorem tick_C {P : Nat → Nat → Option Nat} (hP : GP P) {I : Nat → Nat → Int32} {J : Nat → Nat → Int64} {t : Txt} {c : Cst} {n k : Nat} (hk : k ∈ coastL) (hw : wfT t) (hc : wfC t c n) (hn : n < 100000) (hL : LandC (mm P I J) 14 t) (hC : CoI I k t c) :
    ∃ I', F_X8_tick 29 14 k (mm P I J) = some (nI (wetS t (cSand c) (lvN t c)), mm P I' J) ∧ (∀ a i, ¬ (k ≤ a ∧ a ≤ k + 3) → a ≠ 31 → a ≠ 32 → a ≠ 33 → I' a i = I a i) ∧ CoI I' k t (tickS t c (lvN t c)) := by
  have hf := coast_far k hk
  have hmi : cMinute c ≤ 99 * n := hc.2.2.2.2
  obtain ⟨I1, h1, h2⟩ := tide_C hP (J := J) hw hL (mi := cMinute c + 1) (mo := cMoon c) (by omega)
  have hl := lvlS_le t (cMinute c + 1) (cMoon c)
  obtain ⟨I2, q1, q2, q3⟩ := tickAt_C hP (I := I1) (J := J) (lv := lvN t c) hk hw hc (LandC_I (fun a i _ _ => h2 a i (by omega) (by omega)) hL) (CoI_fr (fun a i _ _ => h2 a i (by omega) (by omega)) hC) (by unfold lvN; omega)
  refine ⟨I2, ?_, fun a i h3 h4 h5 h6 => by rw [q2 a i h3 h4 h5 h6, h2 a i h4 h5], q3⟩
  have m6 : I k 6 = nI (cMinute c) := hC.2.2.2.2.2
  have m5 : I k 5 = nI (cMoon c) := hC.2.2.2.2.1
  unfold F_X8_tick
  simp only [↓bOK hP hk, m6, m5]
  simp only [nI_1]
  simp only [↓bOC hP, ↓bs h1]
  unfold lvN at q1
  simp only [↓bs q1]
  rfl
