/-! ===== the model's gales ===== -/
theorem goes7_M {P : Nat → Nat → Option Nat} (hP : GP P) {I : Nat → Nat → Int32} {J : Nat → Nat → Int64} {t : Txt} {c : Cst} {n w : Nat} (hc : wfC t c n) (hH : HsM I c) (hO : OnM I t c) (rc : Nat → Int32 → Int64 → xM → Option xM) :
    ∃ J', F_X12_goesGale_7 rc 164 (nJ w) 0 (mm P I J) = some (mm P I J') ∧ (∀ a i, a ≠ 181 → J' a i = J a i) ∧ ∀ h, h < 6 → J' 181 h = J 181 h + nJ (w * (if (cStand c).testBit h then 1 else 0)) := by
  have hl := hc.2.1.1
  have slt := hc.2.2.1
  obtain ⟨o1, ⟨f, f1, f2, f3⟩, o3⟩ := hO
  have b1 := hH.1
  have key : ∃ r : xM, xit (F_X12_goesGale_7b rc 164 (nJ w)) xFU (nI 0, mm P I J) = some r ∧ (∃ J', r = mm P I J' ∧ (∀ a i, a ≠ 181 → J' a i = J a i) ∧ ∀ h, h < 6 → J' 181 h = J 181 h + nJ (w * (if (cStand c).testBit h then 1 else 0))) := by
    refine xit_inv (fun j z => ∃ J', z = (nI j, mm P I J') ∧ (∀ a i, a ≠ 181 → J' a i = J a i) ∧ (∀ h, h < j → J' 181 h = J 181 h + nJ (w * (if (cStand c).testBit h then 1 else 0))) ∧ ∀ h, j ≤ h → J' 181 h = J 181 h) _ (cHouses c).length ⟨J, rfl, fun _ _ _ => rfl, fun h hh => by omega, fun _ _ => rfl⟩ (fun j z hj hq => ?_) (fun z hq => ?_) (by omega)
    · obtain ⟨J1, rfl, q1, q2, q3⟩ := hq
      left
      have c1 : ¬ nI (cHouses c).length ≤ nI j := nI_ge hj (by omega)
      have ii := isInM (m := f) (c := j) (by omega) (by omega) (mm P I J1)
      have fj := f3 j hj
      cases hb : (cStand c).testBit j with
      | false =>
        rw [hb] at fj
        rw [fj, if_pos (by decide)] at ii
        refine ⟨(nI (j + 1), mm P I (xu J1 181 j (J1 181 j + 0))), ?_, _, rfl, fun a i h => by rw [xu_o (by omega), q1 a i h], fun h hh => ?_, fun h hh => by rw [xu_o (by omega)]; exact q3 h (by omega)⟩
        · simp (disch := omega) only [F_X12_goesGale_7b, F_X12_goesGale_45, ↓bOM hP, ↓bAM, b1, ↓reduceIte, c1, f2, ↓bs ii, one_ne, nI_1]
        · by_cases e : h = j
          · rw [e, xu_self, q3 j (Nat.le_refl _), hb]
            simp [nJ]
          · rw [xu_o (by omega)]; exact q2 h (by omega)
      | true =>
        rw [hb] at fj
        rw [fj, if_neg (by decide)] at ii
        refine ⟨(nI (j + 1), mm P I (xu J1 181 j (J1 181 j + nJ w))), ?_, _, rfl, fun a i h => by rw [xu_o (by omega), q1 a i h], fun h hh => ?_, fun h hh => by rw [xu_o (by omega)]; exact q3 h (by omega)⟩
        · simp (disch := omega) only [F_X12_goesGale_7b, F_X12_goesGale_45, ↓bOM hP, ↓bAM, b1, ↓reduceIte, c1, f2, ↓bs ii, one_ne, nI_1]
        · by_cases e : h = j
          · rw [e, xu_self, q3 j (Nat.le_refl _), hb, if_pos rfl, Nat.mul_one]
          · rw [xu_o (by omega)]; exact q2 h (by omega)
    · obtain ⟨J1, rfl, q1, q2, q3⟩ := hq
      have c1 : nI (cHouses c).length ≤ nI (cHouses c).length := nI_le (Nat.le_refl _) (by omega)
      refine ⟨mm P I J1, by simp only [F_X12_goesGale_7b, F_X12_goesGale_53, ↓bOM hP, ↓bAM, b1, ↓reduceIte, c1, Option.map_some], J1, rfl, q1, fun h hh => ?_⟩
      by_cases e : h < (cHouses c).length
      · exact q2 h e
      · have p : 2 ^ (cHouses c).length ≤ 2 ^ h := Nat.pow_le_pow_right (by omega) (by omega)
        have hb : (cStand c).testBit h = false := Nat.testBit_lt_two_pow (by omega)
        rw [q3 h (by omega), hb]
        simp [nJ]
  obtain ⟨r, h1, J', rfl, h2, h3⟩ := key
  exact ⟨J', h1, h2, h3⟩
/-- where the model stands on the way through the gales -/
def GaS (I I2 : Nat → Nat → Int32) (t : Txt) (c : Cst) (d : Nat) (v : Int32) : Prop :=
  (∀ a i, ¬ (a = 164 ∧ (i = 20 ∨ i = 21)) → a ≠ 169 → a ≠ 170 → a ≠ 171 → a ≠ 172 → ¬ (a = 180 ∧ i < 25 * (d + 1)) → I2 a i = I a i) ∧ OnM I2 t c ∧ I2 164 20 = v
theorem goesGale_M {P : Nat → Nat → Option Nat} (hP : GP P) {t : Txt} {n : Nat} (hw : wfT t) (hn : n < 1000) : ∀ fuel d (c : Cst) (w : Nat) (I : Nat → Nat → Int32) (J : Nat → Nat → Int64), d < fuel → d ≤ 8 → wfC t c n → cMinute c + d ≤ 99 * n → LandA (I 165) 0 t → HsM I c → OnM I t c →
    ∃ I' J', R_X12_goesGale fuel 164 (nI d) (nJ w) (mm P I J) = some (mm P I' J') ∧ GaS I I' t c d (I 164 20) ∧ (∀ a i, a ≠ 181 → J' a i = J a i) ∧ ∀ h, h < 6 → J' 181 h = J 181 h + nJ (w * stW t d c h)
  | 0, d, c, w, I, J, h, _, _, _, _, _, _ => by omega
  | fuel + 1, 0, c, w, I, J, hf, hd, hc, hmi, hA, hH, hO => by
    obtain ⟨J', e1, e2, e3⟩ := goes7_M hP (J := J) (w := w) hc hH hO (R_X12_goesGale fuel)
    refine ⟨I, J', ?_, ⟨fun _ _ _ _ _ _ _ _ => rfl, hO, rfl⟩, e2, e3⟩
    show F_X12_goesGale (R_X12_goesGale fuel) 164 (nI 0) (nJ w) (mm P I J) = _
    have z : nI 0 = 0 := rfl
    simp only [F_X12_goesGale, z, ↓reduceIte, e1]
  | fuel + 1, d + 1, c, w, I, J, hf, hd, hc, hmi, hA, hH, hO => by
    have hN := tN_le hw
    have hg : tGale t ≤ 10 := hw.2.2.2.1
    have a3 : I 165 3 = nI (tGale t) := hA.2.2.2.1
    have z1 : ¬ nI (d + 1) = 0 := nI_ne0 (by omega) (by omega)
    -- one branch
    have one : ∀ I2 J2 more x, more ≤ 1 → x ≤ 10 → GaS I I2 t c (d + 1) (I 164 20) → (∀ i, i < tN t → I2 180 (25 * (d + 1) + i) = nI (cSand c i)) → ∃ I3 J3, F_X12_goesGale_128 (R_X12_goesGale fuel) 164 (nI (d + 1)) (nJ w) (I 164 20) (nI more) (nI x) (mm P I2 J2) = some (.inl (nI (more + 1), mm P I3 J3)) ∧ GaS I I3 t c (d + 1) (I 164 20) ∧ (∀ i, i < tN t → I3 180 (25 * (d + 1) + i) = nI (cSand c i)) ∧ (∀ a i, a ≠ 181 → J3 a i = J2 a i) ∧ ∀ h, h < 6 → J3 181 h = J2 181 h + nJ (w * (x * stW t d (tickS t c (min 10 (lvN t c + more))) h)) := by
      intro I2 J2 more x hm hx g1 g2
      by_cases hx0 : x = 0
      · have z : nI x = 0 := by rw [hx0]; rfl
        refine ⟨I2, J2, ?_, g1, g2, fun _ _ _ => rfl, fun h hh => ?_⟩
        · simp only [F_X12_goesGale_128, F_X12_goesGale_208, z, ↓reduceIte, nI_1]
        · rw [hx0, Nat.zero_mul, Nat.mul_zero]
          simp [nJ]
      · have z : ¬ nI x = 0 := nI_ne0 (by omega) (by omega)
        obtain ⟨k1, k2, k3⟩ := g1
        have e165 : ∀ i, I2 165 i = I 165 i := fun i => k1 _ _ (by omega) (by omega) (by omega) (by omega) (by omega) (by omega)
        obtain ⟨I3, s1, s2, s3⟩ := goesOn_M hP (I := I2) (J := J2) (more := more) hw hc (by omega) (LandA_cg (A := I 165) hw (fun x _ => e165 _) hA) (HsM_fr e165 hH) k2 hm
        have e165' : ∀ i, I3 165 i = I 165 i := fun i => by rw [s2 _ _ (by omega) (by omega) (by omega) (by omega) (by omega), e165]
        obtain ⟨I4, J4, r1, ⟨r2, r3, -⟩, r5, r6⟩ := goesGale_M hP hw hn fuel d (tickS t c (min 10 (lvN t c + more))) (w * x) I3 J2 (by omega) (by omega) (tick_wf hc (by omega)) (by show cMinute c + 1 + d ≤ 99 * n; omega) (LandA_cg (A := I 165) hw (fun x _ => e165' _) hA) (HsM_fr (I := I) e165' hH) s3
        have v21 : I4 164 21 = nI (cMinute c + 1) := r3.2.2
        have sb : nI (cMinute c + 1) - (1 : Int32) = nI (cMinute c) := pk_sub (a := cMinute c + 1) (b := 1) (by omega)
        have sd : nI (d + 1) - (1 : Int32) = nI d := pk_sub (a := d + 1) (b := 1) (by omega)
        have lp : F_X12_goesGale_176 (R_X12_goesGale fuel) 164 (nI (d + 1)) (nJ w) (I 164 20) (nI more) 0 (mm P (xu (xu I4 164 21 (nI (cMinute c))) 164 20 (I 164 20)) J4) = some (.inl (nI (more + 1), mm P (cpx (xu (xu I4 164 21 (nI (cMinute c))) 164 20 (I 164 20)) 171 0 180 (25 * (d + 1)) 25) J4)) := by
          unfold F_X12_goesGale_176
          refine cp_loop 171 0 180 (25 * (d + 1)) 25 (by omega) (fun j hj => ?_) ?_ (by omega)
          · have h1 : ¬ (25 : Int32) ≤ nI j := nI_ge (b := 25) hj (by omega)
            have ei : (25 : Int32) * nI (d + 1) + nI j = nI (25 * (d + 1) + j) := by rw [show (25 : Int32) = nI 25 from rfl, pk_mul, nI_add]
            unfold F_X12_goesGale_176b
            simp only [ei]
            simp (disch := omega) only [↓reduceIte, h1, ↓bOM hP, ↓bAM, nI_1, Nat.zero_add]
          · have h1 : (25 : Int32) ≤ nI 25 := by decide
            simp only [F_X12_goesGale_176b, F_X12_goesGale_208, ↓reduceIte, h1, nI_1, Option.map_some]
        have sv : ∀ i, i < tN t → I4 180 (25 * (d + 1) + i) = nI (cSand c i) := fun i hi => by
          rw [r2 _ _ (by omega) (by omega) (by omega) (by omega) (by omega) (by omega), s2 _ _ (by omega) (by omega) (by omega) (by omega) (by omega)]
          exact g2 i hi
        refine ⟨cpx (xu (xu I4 164 21 (nI (cMinute c))) 164 20 (I 164 20)) 171 0 180 (25 * (d + 1)) 25, J4, ?_, ⟨fun a i h1 h2 h3 h4 h5 h6 => ?_, ⟨fun i hi => ?_, ?_, ?_⟩, ?_⟩, fun i hi => ?_, r5, fun h hh => ?_⟩
        · unfold F_X12_goesGale_128
          simp only [↓reduceIte, z, ↓bOM hP, ↓bs s1, sd, nI_nJ (show x < 2 ^ 31 by omega), nJ_mul]
          simp only [↓bs r1, ↓bOM hP, v21, sb, lp]
        · rw [cpx_o (by omega), xu_o (by omega), xu_o (by omega), r2 a i (by omega) h2 h3 h4 h5 (by omega), s2 a i (by omega) h2 h3 h4 h5, k1 a i h1 h2 h3 h4 h5 h6]
        · have e := cpx_in (I := xu (xu I4 164 21 (nI (cMinute c))) 164 20 (I 164 20)) (b := 171) (j0 := 0) (a := 180) (i0 := 25 * (d + 1)) (show i < 25 by omega)
          rw [Nat.zero_add] at e
          rw [e, xu_o (by omega), xu_o (by omega)]
          exact sv i hi
        · obtain ⟨f, f1, f2, f3⟩ := hO.2.1
          exact ⟨f, f1, by rw [cpx_o (by omega), xu_self]; exact f2, f3⟩
        · rw [cpx_o (by omega), xu_o (by omega), xu_self]
        · rw [cpx_o (by omega), xu_self]
        · rw [cpx_o (by omega), xu_o (by omega), xu_o (by omega)]
          exact sv i hi
        · rw [r6 h hh, Nat.mul_assoc]
    -- the sand kept
    have h63 : ∀ r, F_X12_goesGale_98 (R_X12_goesGale fuel) 164 (nI (d + 1)) (nJ w) (I 164 20) 0 (mm P (cpx I 180 (25 * (d + 1)) 171 0 25) J) = some r → F_X12_goesGale_63 (R_X12_goesGale fuel) 164 (nI (d + 1)) (nJ w) (I 164 20) 0 (mm P I J) = some r := by
      intro r hr
      unfold F_X12_goesGale_63
      refine cp_loop 180 (25 * (d + 1)) 171 0 25 (by omega) (fun j hj => ?_) ?_ (by omega)
      · have h1 : ¬ (25 : Int32) ≤ nI j := nI_ge (b := 25) hj (by omega)
        have ei : (25 : Int32) * nI (d + 1) + nI j = nI (25 * (d + 1) + j) := by rw [show (25 : Int32) = nI 25 from rfl, pk_mul, nI_add]
        unfold F_X12_goesGale_63b
        simp only [ei]
        simp (disch := omega) only [↓reduceIte, h1, ↓bOM hP, ↓bAM, nI_1, Nat.zero_add]
      · have h1 : (25 : Int32) ≤ nI 25 := by decide
        simp only [F_X12_goesGale_63b, F_X12_goesGale_95, ↓reduceIte, h1, hr, Option.map_some]
    have key : ∃ r : xM, xit (F_X12_goesGale_98b (R_X12_goesGale fuel) 164 (nI (d + 1)) (nJ w) (I 164 20)) xFU (nI 0, mm P (cpx I 180 (25 * (d + 1)) 171 0 25) J) = some r ∧ (∃ I' J', r = mm P I' J' ∧ GaS I I' t c (d + 1) (I 164 20) ∧ (∀ a i, a ≠ 181 → J' a i = J a i) ∧ ∀ h, h < 6 → J' 181 h = J 181 h + nJ (w * stW t (d + 1) c h)) := by
      have g0 : GaS I (cpx I 180 (25 * (d + 1)) 171 0 25) t c (d + 1) (I 164 20) := by
        refine ⟨fun a i h1 h2 h3 h4 h5 h6 => cpx_o (by omega), ⟨fun i hi => ?_, ?_, ?_⟩, cpx_o (by omega)⟩
        · rw [cpx_o (by omega)]; exact hO.1 i hi
        · obtain ⟨f, f1, f2, f3⟩ := hO.2.1
          exact ⟨f, f1, by rw [cpx_o (by omega)]; exact f2, f3⟩
        · rw [cpx_o (by omega)]; exact hO.2.2
      have s0 : ∀ i, i < tN t → cpx I 180 (25 * (d + 1)) 171 0 25 180 (25 * (d + 1) + i) = nI (cSand c i) := fun i hi => by
        rw [cpx_in (show i < 25 by omega), Nat.zero_add]
        exact hO.1 i hi
      have ml : min 10 (lvN t c + 0) = lvN t c := by
        have := lvlS_le t (cMinute c + 1) (cMoon c)
        unfold lvN; omega
      have sb : (10 : Int32) - nI (tGale t) = nI (10 - tGale t) := pk_sub (a := 10) hg
      obtain ⟨I1, J1, p1, p2, p3, p4, p5⟩ := one _ J 0 (10 - tGale t) (by omega) (by omega) g0 s0
      obtain ⟨I2, J2, q1, q2, q3, q4, q5⟩ := one I1 J1 1 (tGale t) (by omega) (by omega) p2 p3
      have v0 : cpx I 180 (25 * (d + 1)) 171 0 25 165 3 = nI (tGale t) := by rw [cpx_o (by omega)]; exact a3
      have v1 : I1 165 3 = nI (tGale t) := by rw [p2.1 _ _ (by omega) (by omega) (by omega) (by omega) (by omega) (by omega)]; exact a3
      refine xit_inv (fun j z => (j = 0 ∧ z = (nI 0, mm P (cpx I 180 (25 * (d + 1)) 171 0 25) J)) ∨ (j = 1 ∧ z = (nI 1, mm P I1 J1)) ∨ (j = 2 ∧ z = (nI 2, mm P I2 J2))) _ 2 (Or.inl ⟨rfl, rfl⟩) (fun j z hj hq => ?_) (fun z hq => ?_) (by omega)
      · left
        rcases hq with ⟨rfl, rfl⟩ | ⟨rfl, rfl⟩ | ⟨h, -⟩
        · refine ⟨(nI 1, mm P I1 J1), ?_, Or.inr (Or.inl ⟨rfl, rfl⟩)⟩
          have c1 : ¬ (2 : Int32) ≤ nI 0 := by decide
          have c2 : ¬ nI 0 = (1 : Int32) := by decide
          simp only [F_X12_goesGale_98b, ↓reduceIte, c1, c2, ↓bOM hP, ↓bAM, v0, sb, p1]
        · refine ⟨(nI 2, mm P I2 J2), ?_, Or.inr (Or.inr ⟨rfl, rfl⟩)⟩
          have c1 : ¬ (2 : Int32) ≤ 1 := by decide
          have c2 : nI 1 = (1 : Int32) := rfl
          have q1' : F_X12_goesGale_128 (R_X12_goesGale fuel) 164 (nI (d + 1)) (nJ w) (I 164 20) 1 (nI (tGale t)) (mm P I1 J1) = some (.inl (nI 2, mm P I2 J2)) := q1
          simp only [F_X12_goesGale_98b, ↓reduceIte, c1, c2, ↓bOM hP, ↓bAM, v1, q1']
        · omega
      · rcases hq with ⟨h, -⟩ | ⟨h, -⟩ | ⟨-, rfl⟩
        · omega
        · omega
        · have c1 : (2 : Int32) ≤ nI 2 := by decide
          refine ⟨mm P I2 J2, by simp only [F_X12_goesGale_98b, F_X12_goesGale_214, ↓reduceIte, c1, Option.map_some], I2, J2, rfl, q2, fun a i h => by rw [q4 a i h, p4 a i h], fun h hh => ?_⟩
          rw [q5 h hh, p5 h hh, ml, Int64.add_assoc, nJ_add, ← Nat.mul_add]
          rfl
    obtain ⟨r, k1, I', J', rfl, k2, k3, k4⟩ := key
    refine ⟨I', J', ?_, k2, k3, k4⟩
    show F_X12_goesGale (R_X12_goesGale fuel) 164 (nI (d + 1)) (nJ w) (mm P I J) = _
    have k := h63 _ k1
    simp only [F_X12_goesGale, ↓reduceIte, z1, ↓bOM hP, k]
