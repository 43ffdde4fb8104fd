/-! ===== a told deed ===== -/
def wH (t : Txt) (c : Cst) (x : Nat) : Nat := if x < tN t then (if cSand c x < 9 then 0 else 2) else 1
def wD (t : Txt) (c : Cst) (x : Nat) : Nat := if x < tN t then (if 0 < cSand c x then 0 else 2) else 1
def attW (t : Txt) (c : Cst) (v : Nat) : Nat := if v = 0 then 0 else if v < 10 then 1 else if v < 20 then 0 else if v < 100 then 1 else if v < 200 then wH t c (v - 100) else if v < 300 then wD t c (v - 200) else if v < 1000 then 1 else whyB t c (((v - 1000) / 10 : Nat) : Int) ((v % 10 : Nat) : Int)
noncomputable def attC (t : Txt) (c : Cst) (v : Nat) : Cst := if v = 0 then tickS t c (lvN t c) else if v < 20 then cSetMoon c (v - 10) else if v < 200 then cHeap c (v - 100) (cSand c (v - 100) + 1) else if v < 300 then cHeap c (v - 200) (cSand c (v - 200) - 1) else cBuild c ((v - 1000) / 10) (v % 10)
def dcd (v : Int64) : Nat := if 0 ≤ v.toInt ∧ v.toInt < 2000 then v.toInt.toNat else 1
theorem whyB_le {t : Txt} {c : Cst} {x o : Int} : whyB t c x o ≤ 3 := by
  unfold whyB
  repeat' split
  all_goals omega
theorem attW_le {t : Txt} {c : Cst} {v : Nat} : attW t c v ≤ 3 := by
  have := @whyB_le t c (((v - 1000) / 10 : Nat) : Int) ((v % 10 : Nat) : Int)
  unfold attW wH wD
  repeat' split
  all_goals omega
theorem dcd_lt (v : Int64) : dcd v < 2000 := by
  unfold dcd
  split <;> omega
theorem att_wf {t : Txt} {c : Cst} {n m v : Nat} (hc : wfC t c n) (hnm : n ≤ m) (hm : cMinute c + 1 ≤ 99 * m) (hv : v < 2000) (h : attW t c v = 0) : wfC t (attC t c v) m ∧ cMinute (attC t c v) ≤ cMinute c + 1 := by
  have hc2 : wfC t c m := ⟨hc.1, hc.2.1, hc.2.2.1, hc.2.2.2.1, by have : cMinute c ≤ 99 * n := hc.2.2.2.2; show cMinute c ≤ 99 * m; omega⟩
  unfold attW at h
  unfold attC
  by_cases h0 : v = 0
  · rw [if_pos h0]
    exact ⟨tick_wf hc hm, Nat.le_refl _⟩
  · rw [if_neg h0] at h ⊢
    by_cases h10 : v < 10
    · rw [if_pos h10] at h; cases h
    · rw [if_neg h10] at h
      by_cases h20 : v < 20
      · rw [if_pos h20]
        exact ⟨⟨hc2.1, hc2.2.1, hc2.2.2.1, by show v - 10 ≤ 9; omega, hc2.2.2.2.2⟩, Nat.le_succ _⟩
      · rw [if_neg h20] at h ⊢
        by_cases h100 : v < 100
        · rw [if_pos h100] at h; cases h
        · rw [if_neg h100] at h
          by_cases h200 : v < 200
          · rw [if_pos h200] at h ⊢
            unfold wH at h
            refine ⟨⟨fun i hi => ?_, hc2.2.1, hc2.2.2.1, hc2.2.2.2.1, hc2.2.2.2.2⟩, Nat.le_succ _⟩
            show (if i = v - 100 then cSand c (v - 100) + 1 else cSand c i) ≤ 9
            have := hc2.1 i hi
            by_cases e : v - 100 < tN t
            · rw [if_pos e] at h
              by_cases e9 : cSand c (v - 100) < 9
              · split <;> omega
              · rw [if_neg e9] at h; cases h
            · rw [if_neg e] at h; cases h
          · rw [if_neg h200] at h ⊢
            by_cases h300 : v < 300
            · rw [if_pos h300] at h ⊢
              unfold wD at h
              refine ⟨⟨fun i hi => ?_, hc2.2.1, hc2.2.2.1, hc2.2.2.2.1, hc2.2.2.2.2⟩, Nat.le_succ _⟩
              show (if i = v - 200 then cSand c (v - 200) - 1 else cSand c i) ≤ 9
              have := hc2.1 i hi
              by_cases e : i = v - 200
              · rw [if_pos e, ← e]; omega
              · rw [if_neg e]; exact this
            · rw [if_neg h300] at h ⊢
              by_cases h1000 : v < 1000
              · rw [if_pos h1000] at h; cases h
              · rw [if_neg h1000] at h
                unfold whyB at h
                split at h
                · next hh =>
                  split at h
                  · cases h
                  · next h6 =>
                    have hl := hc.2.1.1
                    exact ⟨build_wf hc hnm (by omega) (by omega) (by omega), Nat.le_succ _⟩
                · cases h
theorem att_C {P : Nat → Nat → Option Nat} (hP : GP P) {I : Nat → Nat → Int32} {J : Nat → Nat → Int64} {t : Txt} {c : Cst} {n k : Nat} (hk : k ∈ coastL) (hw : wfT t) (hc : wfC t c n) (hn : n < 100000) (hL : LandC (mm P I J) 14 t) (hC : CoI I k t c) (v : Int64) : ∃ I', F_X8_attempt 29 14 k v (mm P I J) = some (nI (attW t c (dcd v)), mm P I' J) ∧ (attW t c (dcd v) ≠ 0 → I' = I) ∧ (∀ a i, ¬ (k ≤ a ∧ a ≤ k + 3) → a ≠ 31 → a ≠ 32 → a ≠ 33 → I' a i = I a i) ∧ (attW t c (dcd v) = 0 → CoI I' k t (attC t c (dcd v))) := by
  have hN := tN_le hw
  have z0 : (0 : Int64).toInt = 0 := by decide
  have z10 : (10 : Int64).toInt = 10 := by decide
  have z2000 : (2000 : Int64).toInt = 2000 := by decide
  by_cases h : 0 ≤ v.toInt ∧ v.toInt < 2000
  · obtain ⟨vv, hvv, rfl⟩ : ∃ vv : Nat, vv < 2000 ∧ v = (nI vv).toInt64 := ⟨v.toInt.toNat, by omega, Int64.toInt_inj.mp (by rw [Int32.toInt_toInt64, nI_toInt (by omega)]; omega)⟩
    have dv : dcd (nI vv).toInt64 = vv := by
      unfold dcd
      rw [if_pos h, Int32.toInt_toInt64, nI_toInt (by omega), Int.toNat_natCast]
    have e32 : (nI vv).toInt64.toInt32 = nI vv := by simp
    have q0 : lg_cmp (nI vv).toInt64 0 = 0 ↔ vv = 0 := by
      rw [lg_cmp_eq, ← Int64.toInt_inj, Int32.toInt_toInt64, nI_toInt (by omega), z0]
      omega
    have q10 : lg_cmp (nI vv).toInt64 10 < 0 ↔ vv < 10 := by
      rw [lg_cmp_lt, Int64.lt_iff_toInt_lt, Int32.toInt_toInt64, nI_toInt (by omega), z10]
      omega
    have q2000 : lg_cmp (nI vv).toInt64 2000 < 0 := by
      rw [lg_cmp_lt, Int64.lt_iff_toInt_lt, Int32.toInt_toInt64, nI_toInt (by omega), z2000]
      omega
    have l20 : (20 : Int32) ≤ nI vv ↔ 20 ≤ vv := nI_leI (a := 20) (by omega) (by omega)
    have l1000 : nI vv < (1000 : Int32) ↔ vv < 1000 := nI_ltI (b := 1000) (by omega) (by omega)
    have l100 : nI vv < (100 : Int32) ↔ vv < 100 := nI_ltI (b := 100) (by omega) (by omega)
    have l200 : (200 : Int32) ≤ nI vv ↔ 200 ≤ vv := nI_leI (a := 200) (by omega) (by omega)
    have l200' : nI vv < (200 : Int32) ↔ vv < 200 := nI_ltI (b := 200) (by omega) (by omega)
    have l300 : (300 : Int32) ≤ nI vv ↔ 300 ≤ vv := nI_leI (a := 300) (by omega) (by omega)
    have cC := cellsC (mm_G hP) hL
    rw [dv]
    unfold F_X8_attempt F_X8_attempt_114 F_X8_attempt_147 attW attC
    simp only [e32]
    by_cases h0 : vv = 0
    · rw [if_pos (q0.mpr h0), if_pos h0, if_pos h0]
      obtain ⟨I', t1, t2, t3⟩ := tick_C hP (J := J) hk hw hc hn hL hC
      exact ⟨I', by simp only [↓bOC hP, ↓bs t1]; rfl, fun z => absurd rfl z, t2, fun _ => t3⟩
    · rw [if_neg (fun z => h0 (q0.mp z)), if_neg h0, if_neg h0]
      by_cases h10 : vv < 10
      · rw [if_pos (q10.mpr h10), if_pos h10]
        exact ⟨I, rfl, fun _ => rfl, fun _ _ _ _ _ _ => rfl, fun z => by cases z⟩
      · rw [if_neg (fun z => h10 (q10.mp z)), if_neg h10, if_pos q2000]
        by_cases h20 : vv < 20
        · have sb : nI vv - (10 : Int32) = nI (vv - 10) := pk_sub (b := 10) (by omega)
          have c1 : nI (vv - 10) < (10 : Int32) := nI_lt (b := 10) (by omega) (by omega)
          have c0 := nI_pos (n := vv - 10) (by omega)
          have n20 : ¬ (20 : Int32) ≤ nI vv := fun z => by have := l20.mp z; omega
          simp only [h20, if_true]
          refine ⟨xu I k 5 (nI (vv - 10)), ?_, fun z => absurd rfl z, fun a i g _ _ _ => xu_o (by omega), fun _ => ?_⟩
          · simp only [↓reduceIte, n20, sb, ↓bOK hP hk, F_X0_changeMoon, c0, c1, Option.bind_some]
            rfl
          · obtain ⟨g1, g2, g3, g4, g5, g6⟩ := hC
            refine ⟨fun i hi => ?_, ?_, fun i q hq => ⟨?_, ?_⟩, ?_, xu_self, ?_⟩
            · rw [xu_o (by omega)]; exact g1 i hi
            · rw [xu_o (by omega)]; exact g2
            · rw [xu_o (by omega)]; exact (g3 i q hq).1
            · rw [xu_o (by omega)]; exact (g3 i q hq).2
            · rw [xu_o (by omega)]; exact g4
            · rw [xu_o (by omega)]; exact g6
        · have n20 : (20 : Int32) ≤ nI vv := l20.mpr (by omega)
          rw [if_pos n20]
          simp only [h20, if_false]
          by_cases h1000 : vv < 1000
          · rw [if_pos (l1000.mpr h1000)]
            by_cases h100 : vv < 100
            · have m200 : nI vv < (200 : Int32) := l200'.mpr (by omega)
              rw [if_pos (l100.mpr h100), if_pos m200]
              simp only [h100, if_true]
              exact ⟨I, rfl, fun _ => rfl, fun _ _ _ _ _ _ => rfl, fun z => by cases z⟩
            · rw [if_neg (fun z => h100 (l100.mp z))]
              simp only [h100, if_false]
              by_cases h200 : vv < 200
              · rw [if_neg (show ¬ (200 : Int32) ≤ nI vv from fun z => by have := l200.mp z; omega)]
                simp only [h200, if_true]
                have sb : nI vv - (100 : Int32) = nI (vv - 100) := pk_sub (b := 100) (by omega)
                simp only [sb, ↓bOC hP, ↓bs cC, ↓bOK hP hk]
                unfold wH
                by_cases hx : vv - 100 < tN t
                · have hi := heap_in hP (J := J) hk hw hc (CoI_iff.mpr hC) hx
                  rw [hi, if_pos hx, Option.bind_some]
                  by_cases h9 : cSand c (vv - 100) < 9
                  · rw [if_pos h9, if_pos h9]
                    refine ⟨_, rfl, fun z => absurd rfl z, fun a i g _ _ _ => xu_o (by omega), fun _ => ?_⟩
                    obtain ⟨g1, g2, g3, g4, g5, g6⟩ := hC
                    refine ⟨fun i hi => ?_, ?_, fun i q hq => ⟨?_, ?_⟩, ?_, ?_, ?_⟩
                    · show xu I (k + 1) (vv - 100) (nI (cSand c (vv - 100) + 1)) (k + 1) i = nI (if i = vv - 100 then cSand c (vv - 100) + 1 else cSand c i)
                      by_cases hij : i = vv - 100
                      · rw [if_pos hij, ← hij]; exact xu_self
                      · rw [xu_o (by omega), if_neg hij]; exact g1 i hi
                    · rw [xu_o (by omega)]; exact g2
                    · rw [xu_o (by omega)]; exact (g3 i q hq).1
                    · rw [xu_o (by omega)]; exact (g3 i q hq).2
                    · rw [xu_o (by omega)]; exact g4
                    · rw [xu_o (by omega)]; exact g5
                    · rw [xu_o (by omega)]; exact g6
                  · rw [if_neg h9, if_neg h9]
                    exact ⟨I, rfl, fun _ => rfl, fun _ _ _ _ _ _ => rfl, fun z => by cases z⟩
                · rw [heap_no hw (by rw [nI_toInt (by omega)]; omega), if_neg hx, Option.bind_some]
                  exact ⟨I, rfl, fun _ => rfl, fun _ _ _ _ _ _ => rfl, fun z => by cases z⟩
              · rw [if_pos (show (200 : Int32) ≤ nI vv from l200.mpr (by omega)), if_neg (show ¬ nI vv < (200 : Int32) from fun z => h200 (l200'.mp z))]
                simp only [h200, if_false]
                by_cases h300 : vv < 300
                · rw [if_neg (show ¬ (300 : Int32) ≤ nI vv from fun z => by have := l300.mp z; omega)]
                  simp only [h300, if_true]
                  have sb : nI vv - (200 : Int32) = nI (vv - 200) := pk_sub (b := 200) (by omega)
                  simp only [sb, ↓bOC hP, ↓bs cC, ↓bOK hP hk]
                  unfold wD
                  by_cases hx : vv - 200 < tN t
                  · have hi := scoop_in hP (J := J) hk hw hc (CoI_iff.mpr hC) hx
                    rw [hi, if_pos hx, Option.bind_some]
                    by_cases h9 : 0 < cSand c (vv - 200)
                    · rw [if_pos h9, if_pos h9]
                      refine ⟨_, rfl, fun z => absurd rfl z, fun a i g _ _ _ => xu_o (by omega), fun _ => ?_⟩
                      obtain ⟨g1, g2, g3, g4, g5, g6⟩ := hC
                      refine ⟨fun i hi => ?_, ?_, fun i q hq => ⟨?_, ?_⟩, ?_, ?_, ?_⟩
                      · show xu I (k + 1) (vv - 200) (nI (cSand c (vv - 200) - 1)) (k + 1) i = nI (if i = vv - 200 then cSand c (vv - 200) - 1 else cSand c i)
                        by_cases hij : i = vv - 200
                        · rw [if_pos hij, ← hij]; exact xu_self
                        · rw [xu_o (by omega), if_neg hij]; exact g1 i hi
                      · rw [xu_o (by omega)]; exact g2
                      · rw [xu_o (by omega)]; exact (g3 i q hq).1
                      · rw [xu_o (by omega)]; exact (g3 i q hq).2
                      · rw [xu_o (by omega)]; exact g4
                      · rw [xu_o (by omega)]; exact g5
                      · rw [xu_o (by omega)]; exact g6
                    · rw [if_neg h9, if_neg h9]
                      exact ⟨I, rfl, fun _ => rfl, fun _ _ _ _ _ _ => rfl, fun z => by cases z⟩
                  · rw [scoop_no hw (by rw [nI_toInt (by omega)]; omega), if_neg hx, Option.bind_some]
                    exact ⟨I, rfl, fun _ => rfl, fun _ _ _ _ _ _ => rfl, fun z => by cases z⟩
                · rw [if_pos (show (300 : Int32) ≤ nI vv from l300.mpr (by omega))]
                  simp only [h300, h1000, if_false, if_true]
                  exact ⟨I, rfl, fun _ => rfl, fun _ _ _ _ _ _ => rfl, fun z => by cases z⟩
          · have n100 : ¬ vv < 100 := by omega
            have n200 : ¬ vv < 200 := by omega
            have n300 : ¬ vv < 300 := by omega
            rw [if_neg (fun z => h1000 (l1000.mp z))]
            simp only [n100, n200, n300, h1000, if_false]
            have sb : (nI vv - (1000 : Int32)) / 10 = nI ((vv - 1000) / 10) := by
              rw [show nI vv - (1000 : Int32) = nI (vv - 1000) from pk_sub (b := 1000) (by omega)]
              exact pk_div (d := 10) (by omega) (by omega) (by omega)
            have rm : nI vv - nI vv / (10 : Int32) * 10 = nI (vv % 10) := pk_rem (d := 10) (by omega) (by omega) (by omega)
            simp only [sb, rm, ↓bOC hP, ↓bs cC, ↓bOK hP hk]
            obtain ⟨I', s1, s2, s3, s4⟩ := settle_C hP (J := J) hk hw hc hC (nI ((vv - 1000) / 10)) (nI (vv % 10))
            rw [nI_toInt (by omega), nI_toInt (by omega)] at s1 s2 s4
            refine ⟨I', by simp only [↓bs s1], s2, fun a i g _ _ _ => s3 a i g, fun z => ?_⟩
            obtain ⟨x, o, e1, e2, hx, ho, -, s5⟩ := s4 z
            have e1' := (nI_eqI (a := (vv - 1000) / 10) (b := x) (by omega) (by omega)).mp e1
            have e2' := (nI_eqI (a := vv % 10) (b := o) (by omega) (by omega)).mp e2
            rw [e1', e2']
            exact s5
  · have dv : dcd v = 1 := if_neg h
    rw [dv]
    refine ⟨I, ?_, fun _ => rfl, fun _ _ _ _ _ _ => rfl, fun z => by cases z⟩
    unfold F_X8_attempt
    simp only [lg_cmp_eq, lg_cmp_lt, Int64.lt_iff_toInt_lt, ← Int64.toInt_inj, z0, z10, z2000]
    rw [if_neg (by omega)]
    by_cases h1 : v.toInt < 10
    · rw [if_pos h1]; rfl
    · rw [if_neg h1, if_neg (by omega)]; rfl
