/-! ===== how high the sea is ===== -/
def rest18 (m : Nat) : Nat := if m % 18 ≤ 9 then m % 18 else 18 - m % 18
def cutI (h : Nat) (v : Int32) : Nat := if v.toInt < 0 then 0 else min h v.toInt.toNat
def wT (mi mo : Nat) : Nat → Int32 := fun i => if i = 0 then nI mi else nI mo
def lvlS (t : Txt) (mi mo : Nat) : Nat := if tTide t = [] then rest18 mi else cutI 10 (lawS (wT mi mo) (tTide t))
theorem rest18_le (m : Nat) : rest18 m ≤ 9 := by unfold rest18; split <;> omega
theorem cutI_le (h : Nat) (v : Int32) : cutI h v ≤ h := by unfold cutI; split <;> omega
theorem lvlS_le (t : Txt) (mi mo : Nat) : lvlS t mi mo ≤ 10 := by
  unfold lvlS
  split
  · have := rest18_le mi; omega
  · exact cutI_le _ _
theorem step_cg {w w' : Nat → Int32} (h0 : w 0 = w' 0) (h1 : w 1 = w' 1) {o : Int32} (ho : o < 1012) (s : List Int32) : stepS w o s = stepS w' o s := by
  unfold stepS
  by_cases a : o < 1000
  · rw [if_pos a, if_pos a]
  · rw [if_neg a, if_neg a]
    by_cases b : 1010 ≤ o
    · rw [if_pos b, if_pos b]
      have e1 : (1012 : Int32).toInt = 1012 := by decide
      have e2 : (1010 : Int32).toInt = 1010 := by decide
      have b1 := Int32.le_iff_toInt_le.mp b
      have b2 := Int32.lt_iff_toInt_lt.mp ho
      obtain ⟨y, hy, rfl⟩ := cell_of (a := o) (n := 1012) (by omega) (by omega)
      rw [nI_toInt (by omega)] at b1
      have hz : y = 1010 ∨ y = 1011 := by omega
      rcases hz with rfl | rfl
      · rw [show (nI 1010 - 1010).toNatClampNeg = 0 by decide, h0]
      · rw [show (nI 1011 - 1010).toNatClampNeg = 1 by decide, h1]
    · rw [if_neg b, if_neg b]
theorem lawS_cg {w w' : Nat → Int32} (h0 : w 0 = w' 0) (h1 : w 1 = w' 1) {l : List Int32} (hl : ∀ o ∈ l, o < 1012) : lawS w l = lawS w' l := by
  have key : ∀ (l : List Int32), (∀ o ∈ l, o < 1012) → ∀ s, l.foldl (fun s o => stepS w o s) s = l.foldl (fun s o => stepS w' o s) s := by
    intro l
    induction l with
    | nil => intro _ s; rfl
    | cons o l ih =>
      intro h s
      rw [List.foldl_cons, List.foldl_cons, step_cg h0 h1 (h o (List.mem_cons_self ..)), ih (fun x hx => h x (List.mem_cons_of_mem _ hx))]
  unfold lawS runS
  rw [key l hl]
theorem xorN {a b : Nat} (ha : a < 2 ^ 31) (hb : b < 2 ^ 31) : nI a ^^^ nI b = nI (a ^^^ b) := by
  apply Int32.toBitVec_inj.mp
  apply BitVec.eq_of_toNat_eq
  have hab : a ^^^ b < 2 ^ 31 := Nat.xor_lt_two_pow ha hb
  rw [Int32.toBitVec_xor, BitVec.toNat_xor, pk_tn (by omega), pk_tn (by omega), pk_tn (by omega)]
theorem floorN {a b : Nat} (ha : a < 2 ^ 31) (h0 : 0 < b) (hb : b < 2 ^ 31) (M : xM) : F_J9_floorMod_7cf53 (nI a) (nI b) M = some (nI (a % b), M) := by
  unfold F_J9_floorMod_7cf53
  rw [if_neg (nI_ne0 h0 hb), Option.bind_some, pk_rem ha h0 hb, xorN ha hb, if_pos (nI_pos' (Nat.xor_lt_two_pow ha hb))]
theorem cutC {h : Nat} (hh : h < 2 ^ 31) (v : Int32) (M : xM) : (F_J9_min_7cf53 (nI h) v M).bind (fun t => F_J9_max_7cf53 0 t.1 t.2) = some (nI (cutI h v), M) := by
  unfold F_J9_min_7cf53 F_J9_max_7cf53 cutI
  by_cases h0 : v < 0
  · have a0 := toInt_neg h0
    have h1 : v < nI h := Int32.lt_iff_toInt_lt.mpr (by rw [nI_toInt hh]; omega)
    rw [if_pos h1, Option.bind_some, if_neg (show ¬ (0 : Int32) < v from fun z => by have := Int32.lt_iff_toInt_lt.mp z; simp at this; omega), if_pos a0]
    rfl
  · obtain ⟨x, hx, rfl⟩ := nI_of h0
    rw [nI_toInt hx, if_neg (show ¬ ((x : Int) < 0) by omega), Int.toNat_natCast]
    by_cases h1 : x < h
    · rw [if_pos (nI_lt h1 hh), Option.bind_some, Nat.min_eq_right (by omega)]
      by_cases h2 : x = 0
      · subst h2; rfl
      · rw [if_pos (show (0 : Int32) < nI x from nI_lt (a := 0) (by omega) hx)]
    · rw [if_neg (nI_nlt (by omega) hx), Option.bind_some, Nat.min_eq_left (by omega)]
      by_cases h2 : h = 0
      · subst h2; rfl
      · rw [if_pos (show (0 : Int32) < nI h from nI_lt (a := 0) (by omega) hh)]
theorem keptM {h : Nat} (hh : h < 2 ^ 31) (v : Int32) (M : xM) : F_X12_kept v (nI h) M = some (nI (cutI h v), M) := by
  unfold F_X12_kept cutI
  by_cases h0 : v < 0
  · have a0 := toInt_neg h0
    rw [if_neg (Int32.not_le.mpr h0), if_pos a0]
    rfl
  · have h3 := Int32.not_lt.mp h0
    obtain ⟨x, hx, rfl⟩ := nI_of h0
    rw [if_pos h3, nI_toInt hx, if_neg (show ¬ ((x : Int) < 0) by omega), Int.toNat_natCast]
    by_cases h1 : x ≤ h
    · rw [if_pos (nI_le h1 hh), Nat.min_eq_right h1]
    · rw [if_neg (nI_ge (by omega) hx), Nat.min_eq_left (by omega)]
theorem tide_C {P : Nat → Nat → Option Nat} (hP : GP P) {I : Nat → Nat → Int32} {J : Nat → Nat → Int64} {t : Txt} (hw : wfT t) (hL : LandC (mm P I J) 14 t) {mi mo : Nat} (hmi : mi < 2 ^ 31) :
    ∃ I', F_X8_tideAt 29 14 (nI mi) (nI mo) (mm P I J) = some (nI (lvlS t mi mo), mm P I' J) ∧ ∀ k i, k ≠ 31 → k ≠ 32 → I' k i = I k i := by
  obtain ⟨-, -, -, -, -, -, -, -, -, -, f1, e1, f2, e2, n, l7, ln, l8, l9, l10, l11, b1, b2, c1, c2⟩ := hL
  have m8 : I 14 8 = nI f1 := l8
  have m9 : I 14 9 = nI e1 := l9
  have ce := c1.1
  unfold lvlS
  by_cases h : tTide t = []
  · rw [if_pos h]
    have hlen : (tTide t).length = 0 := by rw [h]; rfl
    refine ⟨I, ?_, fun _ _ _ _ => rfl⟩
    have c : ¬ nI f1 < nI e1 := nI_nlt (by omega) (by omega)
    have fl : F_J9_floorMod_7cf53 (nI mi) (18 : Int32) (mm P I J) = some (nI (mi % 18), mm P I J) := floorN (b := 18) hmi (by omega) (by omega) _
    simp only [F_X8_tideAt, OC hP, Option.bind_some, m8, m9, if_neg c, fl]
    unfold rest18
    by_cases h9 : mi % 18 ≤ 9
    · rw [if_pos (show nI (mi % 18) ≤ (9 : Int32) from nI_le (b := 9) h9 (by omega)), if_pos h9]
    · rw [if_neg (show ¬ nI (mi % 18) ≤ (9 : Int32) from nI_ge (a := 9) (by omega) (by omega)), if_neg h9]
      have := pk_sub (a := 18) (b := mi % 18) (by omega)
      rw [show (18 : Int32) = nI 18 from rfl, this]
  · rw [if_neg h]
    have hk : kindRun (tTide t) [] = some [false] := by
      rcases hw.2.2.2.2.2.2.2.1 with h1 | h1
      · exact absurd h1 h
      · exact h1
    have hlen : 0 < (tTide t).length := List.length_pos_iff.mpr h
    have c : nI f1 < nI e1 := nI_lt (by omega) (by omega)
    have cA : codeAt ((xu (xu I 31 0 (nI mi)) 31 1 (nI mo)) 20) f1 e1 (tTide t) := codeAt_cg (A := I 20) (fun i _ => by rw [xu_o (by omega), xu_o (by omega)]) c1
    obtain ⟨I', q1, q2⟩ := tell_C hP (I := xu (xu I 31 0 (nI mi)) 31 1 (nI mo)) (J := J) (w := fun i => (xu (xu I 31 0 (nI mi)) 31 1 (nI mo)) 31 i) hk cA (by omega) (fun i _ => rfl)
    have le := lawS_cg (w := fun i => (xu (xu I 31 0 (nI mi)) 31 1 (nI mo)) 31 i) (w' := wT mi mo) (l := tTide t) (by show xu (xu I 31 0 (nI mi)) 31 1 (nI mo) 31 0 = nI mi; rw [xu_o (by omega), xu_self]) (by show xu (xu I 31 0 (nI mi)) 31 1 (nI mo) 31 1 = nI mo; rw [xu_self]) hw.2.2.2.2.2.2.2.2.2
    rw [le] at q1
    refine ⟨I', ?_, fun k i h1 h2 => by rw [q2 k i h2, xu_o (by omega), xu_o (by omega)]⟩
    have m8' : (xu (xu I 31 0 (nI mi)) 31 1 (nI mo)) 14 8 = nI f1 := by rw [xu_o (by omega), xu_o (by omega), m8]
    have m9' : (xu (xu I 31 0 (nI mi)) 31 1 (nI mo)) 14 9 = nI e1 := by rw [xu_o (by omega), xu_o (by omega), m9]
    simp only [F_X8_tideAt, OC hP, AC, Option.bind_some, m8, m9, if_pos c, m8', m9', q1]
    have cc := cutC (h := 10) (by omega) (lawS (wT mi mo) (tTide t)) (mm P I' J)
    rw [show (10 : Int32) = nI 10 from rfl]
    cases hm : F_J9_min_7cf53 (nI 10) (lawS (wT mi mo) (tTide t)) (mm P I' J) with
    | none => rw [hm] at cc; cases cc
    | some q =>
      rw [hm, Option.bind_some] at cc
      rw [Option.bind_some, cc]
      rfl
theorem level_M {P : Nat → Nat → Option Nat} (hP : GP P) {I : Nat → Nat → Int32} {J : Nat → Nat → Int64} {t : Txt} (hw : wfT t) (hA : LandA (I 165) 0 t) {mi mo : Nat} (hmi : mi < 2 ^ 31) :
    ∃ I', F_X12_levelOf 164 (nI mi) (nI mo) (mm P I J) = some (nI (lvlS t mi mo), mm P I' J) ∧ ∀ k i, k ≠ 169 → k ≠ 170 → I' k i = I k i := by
  have a7 : I 165 7 = if tTide t = [] then 0 else 1 := hA.2.2.2.2.2.2.2.2.2.2.1
  have a12 := hA.2.2.2.2.2.2.2.2.2.2.2.2.1
  unfold lvlS
  have m7 : (xu (xu I 170 0 (nI mi)) 170 1 (nI mo)) 165 7 = if tTide t = [] then 0 else 1 := by rw [xu_o (by omega), xu_o (by omega), a7]
  by_cases h : tTide t = []
  · rw [if_pos h] at m7 ⊢
    refine ⟨xu (xu I 170 0 (nI mi)) 170 1 (nI mo), ?_, fun k i h1 h2 => by rw [xu_o (by omega), xu_o (by omega)]⟩
    have rm := pk_rem (a := mi) (d := 18) hmi (by omega) (by omega)
    simp only [F_X12_levelOf, OM hP, AM, Option.bind_some, m7, if_neg (show ¬ (0 : Int32) = 1 by decide), show (18 : Int32) = nI 18 from rfl, rm]
    unfold rest18
    by_cases h9 : mi % 18 ≤ 9
    · rw [if_pos (show nI (mi % 18) ≤ (9 : Int32) from nI_le (b := 9) h9 (by omega)), if_pos h9]
    · rw [if_neg (show ¬ nI (mi % 18) ≤ (9 : Int32) from nI_ge (a := 9) (by omega) (by omega)), if_neg h9]
      have := pk_sub (a := 18) (b := mi % 18) (by omega)
      rw [this]
  · rw [if_neg h] at m7 ⊢
    have hk : kindRun (tTide t) [] = some [false] := by
      rcases hw.2.2.2.2.2.2.2.1 with h1 | h1
      · exact absurd h1 h
      · exact h1
    obtain ⟨f, e, g9, g11, ge, gc⟩ := a12 h
    have cA : codeAt (fun i => (xu (xu I 170 0 (nI mi)) 170 1 (nI mo)) 165 (520 + i)) f e ((tTide t).map trC) := codeAt_cg (fun i _ => by rw [xu_o (by omega), xu_o (by omega), Nat.zero_add]) gc
    obtain ⟨I', q1, q2⟩ := reck_M hP (I := xu (xu I 170 0 (nI mi)) 170 1 (nI mo)) (J := J) (w := fun i => (xu (xu I 170 0 (nI mi)) 170 1 (nI mo)) 170 i) (lw := 0) (by omega) hk cA ge (by rw [xu_o (by omega), xu_o (by omega)]; exact g11) (by rw [xu_o (by omega), xu_o (by omega)]; exact g9) (fun i _ => rfl)
    have le := lawS_cg (w := fun i => (xu (xu I 170 0 (nI mi)) 170 1 (nI mo)) 170 i) (w' := wT mi mo) (l := tTide t) (by show xu (xu I 170 0 (nI mi)) 170 1 (nI mo) 170 0 = nI mi; rw [xu_o (by omega), xu_self]) (by show xu (xu I 170 0 (nI mi)) 170 1 (nI mo) 170 1 = nI mo; rw [xu_self]) hw.2.2.2.2.2.2.2.2.2
    rw [le] at q1
    have q1' : F_X12_reckons 164 (0 : Int32) (mm P (xu (xu I 170 0 (nI mi)) 170 1 (nI mo)) J) = some (lawS (wT mi mo) (tTide t), mm P I' J) := q1
    have kp := keptM (h := 10) (by omega) (lawS (wT mi mo) (tTide t)) (mm P I' J)
    have kp' : F_X12_kept (lawS (wT mi mo) (tTide t)) (10 : Int32) (mm P I' J) = some (nI (cutI 10 (lawS (wT mi mo) (tTide t))), mm P I' J) := kp
    refine ⟨I', ?_, fun k i h1 h2 => by rw [q2 k i h1, xu_o (by omega), xu_o (by omega)]⟩
    simp only [F_X12_levelOf, OM hP, AM, Option.bind_some, m7, if_true, q1', kp']
theorem Sc_mm {P : Nat → Nat → Option Nat} {I I' : Nat → Nat → Int32} {J J' : Nat → Nat → Int64} (h : ∀ k i, ¬ scr k i → I' k i = I k i) (hJ : ∀ k i, ¬ scr k i → J' k i = J k i) : Sc (mm P I J) (mm P I' J') := ⟨rfl, rfl, h, hJ⟩
theorem sim_level (a1 : Int32) : xSim INV (F_X11_level 0 a1) (F_X12_level 164 a1) := by
  refine xSim_query fun n M hI => ?_
  obtain ⟨P, I, J, rfl, hP⟩ := G_mm hI.1
  obtain ⟨t, c, cs, nx, hw, hL, hA, hc, hC, hD, -⟩ := INV_sh hI
  have z0 : (0 : Int64).toInt = 0 := by decide
  have z9 : (999 : Int64).toInt = 999 := by decide
  have y9 : (999 : Int32).toInt = 999 := by decide
  have m5 : I 21 5 = nI (cMoon c) := hC.2.2.2.2.1
  by_cases h : 0 ≤ a1.toInt ∧ a1.toInt ≤ 999
  · obtain ⟨m, hm, rfl⟩ := cell_of (a := a1) (n := 1000) (by omega) (by omega)
    obtain ⟨I1, q1, q2⟩ := tide_C hP (J := J) hw hL (mi := m) (mo := cMoon c) (by omega)
    have a1' : ∀ i, xu I1 164 0 0 165 i = I 165 i := fun i => by rw [xu_o (by omega), q2 165 i (by omega) (by omega)]
    have hA1 : LandA (xu I1 164 0 0 165) 0 t := LandA_cg (A := I 165) hw (fun i _ => a1' _) hA
    obtain ⟨I2, r1, r2⟩ := level_M hP (I := xu I1 164 0 0) (J := J) hw hA1 (mi := m) (mo := cMoon c) (by omega)
    have m106 : xu I1 164 0 0 165 106 = nI (cMoon c) := by rw [a1']; exact hD.2.2.2.2.1
    have hle : nI m ≤ (999 : Int32) := nI_le (b := 999) (by omega) (by omega)
    refine ⟨nI (lvlS t m (cMoon c)), mm P I1 J, mm P I2 J, ?_, Sc_mm (fun k i h => q2 k i (fun z => h (by unfold scr; omega)) (fun z => h (by unfold scr; omega))) (fun _ _ _ => rfl), ?_, Sc_mm (fun k i h => ?_) (fun _ _ _ => rfl)⟩
    · simp only [F_X11_level, if_neg (nI_pos (n := m) (by omega)), if_pos hle, OC hP, Option.bind_some, m5, q1]
    · simp only [F_X12_level, OM hP, AM, Option.bind_some, within_lit, z0, z9, if_pos h, if_neg one_ne, m106, r1]
    · rw [r2 k i (fun z => h (by unfold scr; omega)) (fun z => h (by unfold scr; omega)), xu_o (fun z => h (by unfold scr; omega))]
  · refine ⟨-3, mm P I J, thr (mm P I J), ?_, Sc.rf, ?_, thr_Sc⟩
    · unfold F_X11_level F_X11_level_11
      by_cases h0 : a1 < 0
      · rw [if_pos h0]
      · have h1 := toInt_nneg h0
        rw [if_neg h0, if_neg (show ¬ a1 ≤ (999 : Int32) from fun z => by have := Int32.le_iff_toInt_le.mp z; omega)]
    · simp only [F_X12_level, OM hP, Option.bind_some, within_lit, z0, z9, if_neg h, if_true, thr_mm]
