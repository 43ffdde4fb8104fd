/-- nothing that counts has changed -/
theorem same_INV {n : Nat} {P : Nat → Nat → Option Nat} {I I' : Nat → Nat → Int32} {J : Nat → Nat → Int64} {t : Txt} {c : Cst} {cs : List Cst} {nx : Nat} (hI : INV n (mm P I J)) (hS : Ish n (mm P I J) t c cs nx)
    (hk : ∀ k i, ¬ ((21 ≤ k ∧ k ≤ 24) ∨ (37 + 4 * nx ≤ k ∧ k ≤ 37 + 4 * nx + 3) ∨ scr k i ∨ (k = 165 ∧ 67 ≤ i ∧ i < 108)) → I' k i = I k i) (hC' : CoI I' 21 t c) (hD' : CoastA (I' 165) 67 t c) : INV n (mm P I' J) := by
  obtain ⟨hw, hL, hA, hc, hC, hD, p1, p2, p3, p4, p5, p6⟩ := hS
  obtain ⟨g, f1, f2, f4, f5, f6⟩ := rest_fr hI (I' := I') (fun k i h => hk k i (by unfold scr at h ⊢; omega))
  refine sh_INV (t := t) (c := c) (cs := cs) (nx := nx) g f1 f2 ⟨hw, LandC_I (fun a i _ _ => hk a i (by unfold scr; omega)) hL, LandA_cg2 (A := I 165) hw (fun i hi => hk 165 _ (by unfold scr; omega)) hA, hc, hC', hD', p1, p2, (hk 35 0 (by unfold scr; omega)).trans p3, (hk 35 1 (by unfold scr; omega)).trans p4, (hk 165 108 (by unfold scr; omega)).trans p5, fun j c0 hj => ?_⟩ f4 f5 f6
  obtain ⟨q1, q2, q3⟩ := p6 j c0 hj
  have hjl := getlt hj
  exact ⟨q1, CoastC_cg (M := mm P I J) (fun i hi => funext fun x => hk _ x (by unfold scr; omega)) q2, CoastA_cg (A := I 165) hw q1 (fun i hi => hk 165 _ (by unfold scr; omega)) q3⟩
theorem sim_perform (a1 : Int32) : xSim INV (F_X11_perform 0 a1) (F_X12_perform 164 a1) := by
  intro n M hn hI
  have hT := hI.2.2.2.2.1
  obtain ⟨P, I, J, rfl, hP⟩ := G_mm hI.1
  obtain ⟨t, c, cs, nx, hS⟩ := INV_sh hI
  have hS' := hS
  obtain ⟨hw, hL, hA, hc, hC, hD, p1, p2, p3, p4, p5, -⟩ := hS'
  have rf := refusedC (mm_G hP) hT a1
  by_cases hy : trayWhy (mm P I J) a1 = 0
  · rw [hy] at rf
    obtain ⟨u, sz, so, hu, rfl, hsz, hso, d1, d2, d3, d4, d5⟩ := tray_ok hT hy
    obtain ⟨I1, e1, k1⟩ := keep_C hP I J p4 p2
    have hL1 : LandC (mm P I1 J) 14 t := LandC_I (fun a i _ _ => k1.1 a i (by omega)) hL
    have hC1 : CoI I1 21 t c := CoI_fr (fun a i _ _ => k1.1 a i (by omega)) (CoI_iff.mp hC)
    obtain ⟨I2, K, q1, q2, q3, q4⟩ := deeds_C hP (I := I1) (I0 := I1) (J := J) (k := 21) (sz := sz) (u := u) (by decide) hu hw hc (by omega) hL1 ⟨fun _ _ _ _ _ _ => rfl, hC1⟩ (by omega) (by rw [k1.1 _ _ (by omega)]; exact d1) hsz
    have k2 : ∀ k i, ¬ inD k i → I2 k i = I1 k i := fun k i hh => by
      unfold inD scr at hh
      exact q3 k i (by omega) (by omega) (by omega) (by omega)
    have hK := q2.1
    have tp : ∀ I', xaP (mm P I' J) 40 81 (nI u) = some (82 + 2 * u) := fun I' => trayP (mm_G hP) hu
    have vq : ∀ j, j < sz → dcd (J (83 + 2 * u) j) = dcd (J 184 (40 * u + j)) := fun j hj => by rw [d5 j hj]
    have q2' := stopS_cg (vs' := fun j => dcd (J 184 (40 * u + j))) vq q2
    have q4' : CoI I2 21 t (seqS t c (fun j => dcd (J 184 (40 * u + j))) K) := by
      rw [← seqS_cg K (fun j hj => vq j (by omega))]; exact q4
    have wK := (seq_wf hc (fun j => dcd_lt _) K (by omega) q2'.2.1).1
    have C : F_X11_perform 0 (nI u) (mm P I J) = (F_X11_confirmedIfAny 0 (nI K) (mm P I2 J)).bind fun t13 => some (t13.1, t13.2) := by
      unfold F_X11_perform
      simp only [↓bOC hP, ↓bs rf, ↓reduceIte, ↓bs e1, ↓bs (tp _), ↓bs q1]
    by_cases hK0 : K = 0
    · subst hK0
      have C' : F_X11_perform 0 (nI u) (mm P I J) = some (nI 0, mm P I2 J) := by
        rw [C]
        have z : nI 0 ≤ 0 := by decide
        simp only [F_X11_confirmedIfAny, ↓reduceIte, z, Option.bind_some]
      have e165 : ∀ i, xu I2 164 0 0 165 i = I 165 i := fun i => by rw [xu_o (by omega), k2 165 i (by unfold inD scr; omega), k1.1 165 i (by omega)]
      have st165 : ∀ i, stI I2 165 i = I 165 i := fun i => by rw [stI, cpx_o (by omega), e165]
      obtain ⟨I5, K', r1, r2, r3, r4, -⟩ := tells_M hP (I := stI I2) (J := J) (u := u) (sz := sz) hu hw hc (by omega) (LandA_cg (A := I 165) hw (fun x _ => st165 _) hA) (CoastA_cg (A := I 165) hw hc (fun x _ => st165 _) hD) (by rw [stI, cpx_o (by omega), xu_o (by omega), k2 183 _ (by unfold inD scr; omega), k1.1 _ _ (by omega)]; exact d4) hsz
      have eK := stopS_eq q2' r2
      subst eK
      have nt := noTrayM (mm_G (I := xu I2 164 0 0) (J := J) hP) (nI u)
      rw [trayWhy_I (I := I) (J := J) (fun i => by rw [xu_o (by omega), k2 182 _ (by unfold inD scr; omega), k1.1 _ _ (by omega)]), hy] at nt
      have D : F_X12_perform 164 (nI u) (mm P I2 J) = some (nI 0, mm P I5 J) := by
        have z : nI 0 ≤ 0 := by decide
        unfold F_X12_perform
        simp only [↓bOM hP, ↓bs nt, ↓reduceIte, ↓bs (stores_t hP), ↓bs r1, z]
      refine ⟨_, _, _, C', D, m_ck (by decide +kernel) _ _, m_ck (by decide +kernel) _ _, INV_mono _ _ (same_INV hI hS (fun k i hh => ?_) (CoI_fr (I := I2) (fun a i _ _ => ?_) q4') r4)⟩
      · unfold scr at hh
        rw [r3 k i (by unfold ahT; omega), stI, cpx_o (by omega), xu_o (by omega), k2 k i (by unfold inD scr; omega), k1.1 k i (by omega)]
      · rw [r3 a i (by unfold ahT; omega), stI, cpx_o (by omega), xu_o (by omega)]
    · have C' : F_X11_perform 0 (nI u) (mm P I J) = some (nI K, mm P (cfI I2 nx cs.length) J) := by
        rw [C]
        have z : ¬ nI K ≤ 0 := nI_ge (a := 0) (by omega) (by omega)
        simp only [F_X11_confirmedIfAny, ↓reduceIte, z, ↓bOC hP, ↓bs (confirmed_C (J := J) hP p4 p2 p3 p1 k1 k2 _), Option.bind_some]
      have eB : stI (cfI I2 nx cs.length) 165 = I 165 := st_165 p2 k1 k2
      have e183 : stI (cfI I2 nx cs.length) 183 u = nI sz := by rw [stI, cpx_o (by omega), xu_o (by omega), cfI, xu_o (by omega), xu_o (by omega), k2 183 _ (by unfold inD scr; omega), k1.1 _ _ (by omega)]; exact d4
      obtain ⟨I5, K', r1, r2, r3, r4, -⟩ := tells_M hP (I := stI (cfI I2 nx cs.length)) (J := J) (u := u) (sz := sz) hu hw hc (by omega) (by rw [eB]; exact hA) (by rw [eB]; exact hD) e183 hsz
      have eK := stopS_eq q2' r2
      subst eK
      have nt := noTrayM (mm_G (I := xu (cfI I2 nx cs.length) 164 0 0) (J := J) hP) (nI u)
      rw [trayWhy_I (I := I) (J := J) (fun i => by rw [xu_o (by omega), cfI, xu_o (by omega), xu_o (by omega), k2 182 _ (by unfold inD scr; omega), k1.1 _ _ (by omega)]), hy] at nt
      have n5 : I5 165 108 = nI cs.length := by rw [r3 165 108 (by unfold ahT; omega), eB]; exact p5
      have D : F_X12_perform 164 (nI u) (mm P (cfI I2 nx cs.length) J) = some (nI K, mm P (noteI I5 cs.length) J) := by
        have z : ¬ nI K ≤ 0 := nI_ge (a := 0) (by omega) (by omega)
        unfold F_X12_perform
        simp only [↓bOM hP, ↓bs nt, ↓reduceIte, ↓bs (stores_t hP), ↓bs r1, z, ↓bs (notes_M hP _ J n5 p1)]
      refine ⟨_, _, _, C', D, m_ck (by decide +kernel) _ _, m_ck (by decide +kernel) _ _, deed_all (c' := seqS t c (fun j => dcd (J 184 (40 * u + j))) K) hI hS k1 k2 (fun k i hh => r3 k i ?_) wK q4' r4⟩
      unfold inE scr at hh
      unfold ahT
      omega
  · have nt := noTrayM (mm_G (I := xu I 164 0 0) (J := J) hP) a1
    rw [trayWhy_I (I := I) (J := J) (fun i => xu_o (by omega))] at nt
    refine ⟨trayWhy (mm P I J) a1, mm P I J, thr (mm P I J), ?_, ?_, m_ck (by decide +kernel) _ _, m_ck (by decide +kernel) _ _, INV_mono _ _ (INV_Sc hI thr_Sc)⟩
    · simp only [F_X11_perform, ↓bOC hP, ↓bs rf, ↓reduceIte, hy]
    · simp only [F_X12_perform, ↓bOM hP, ↓bs nt, ↓reduceIte, hy, thr_mm]
/-! ===== a day ===== -/
def nx1 (x : Int32) : Int32 := 1103515245 * x + 12345
def u16 (x : Int32) : Nat := (nx1 x).toBitVec.toNat / 2 ^ 16
theorem u16_lt (x : Int32) : u16 x < 65536 := by
  have := (nx1 x).toBitVec.isLt
  unfold u16
  omega
theorem u16_eq (x : Int32) : ((nx1 x).toUInt32 >>> ((16 : Int32).toUInt32 &&& Int32.toUInt32 31)).toInt32 = nI (u16 x) := by
  apply Int32.toBitVec_inj.mp
  apply BitVec.eq_of_toNat_eq
  rw [pk_ushr (nx1 x) 16 16 (by decide), pk_tn (by have := u16_lt x; omega)]
  rfl
theorem draw_C {P : Nat → Nat → Option Nat} (hP : GP P) {I : Nat → Nat → Int32} {J : Nat → Nat → Int64} {s : Nat} (hs : 0 < s) (hs2 : s < 100) : F_X11_draw 0 (nI s) (mm P I J) = some (nI (u16 (I 0 16) % s), mm P (xu I 0 16 (nx1 (I 0 16))) J) := by
  have z : ¬ nI s ≤ 0 := nI_ge (a := 0) hs (by omega)
  have z2 : ¬ nI s = 0 := nI_ne0 hs (by omega)
  have lt := u16_lt (I 0 16)
  have rm := pk_rem (a := u16 (I 0 16)) (d := s) (by omega) hs (by omega)
  have e := u16_eq (I 0 16)
  unfold F_X11_draw
  simp only [↓bOC hP]
  rw [show (1103515245 : Int32) * I 0 16 + 12345 = nx1 (I 0 16) from rfl]
  simp only [↓reduceIte, z, z2, ↓bOC hP, xu_self, e, rm]
theorem draw_M {P : Nat → Nat → Option Nat} (hP : GP P) {I : Nat → Nat → Int32} {J : Nat → Nat → Int64} {s : Nat} (hs : 0 < s) (hs2 : s < 100) : F_X12_draw 164 (nI s) (mm P I J) = some (nI (u16 (I 164 24) % s), mm P (xu I 164 24 (nx1 (I 164 24))) J) := by
  have z2 : ¬ nI s = 0 := nI_ne0 hs (by omega)
  have lt := u16_lt (I 164 24)
  have rm := pk_rem (a := u16 (I 164 24)) (d := s) (by omega) hs (by omega)
  have e := u16_eq (I 164 24)
  unfold F_X12_draw
  simp only [↓bOM hP]
  rw [show (1103515245 : Int32) * I 164 24 + 12345 = nx1 (I 164 24) from rfl]
  simp only [↓reduceIte, z2, ↓bOM hP, xu_self, e, rm]
/-- the next deed, and what is drawn from then -/
def deedV (x : Int32) : Nat := if u16 x % 6 = 2 then 100 + u16 (nx1 x) % 25 else if u16 x % 6 = 3 then 200 + u16 (nx1 x) % 25 else if u16 x % 6 = 4 then 1000 + 10 * (u16 (nx1 x) % 25) + u16 (nx1 (nx1 x)) % 5 else if u16 x % 6 = 5 then 10 + u16 (nx1 x) % 10 else 0
def deedX (x : Int32) : Int32 := if u16 x % 6 = 2 then nx1 (nx1 x) else if u16 x % 6 = 3 then nx1 (nx1 x) else if u16 x % 6 = 4 then nx1 (nx1 (nx1 x)) else if u16 x % 6 = 5 then nx1 (nx1 x) else nx1 x
theorem deedV_lt (x : Int32) : deedV x < 2000 := by
  unfold deedV
  repeat' split
  all_goals omega
theorem deed_C {P : Nat → Nat → Option Nat} (hP : GP P) {I : Nat → Nat → Int32} {J : Nat → Nat → Int64} : ∃ I', F_X11_drawDeed 0 (mm P I J) = some (nI (deedV (I 0 16)), mm P I' J) ∧ I' 0 16 = deedX (I 0 16) ∧ ∀ a i, ¬ (a = 0 ∧ i = 16) → I' a i = I a i := by
  have b6 : F_X11_draw 0 (6 : Int32) (mm P I J) = some (nI (u16 (I 0 16) % 6), mm P (xu I 0 16 (nx1 (I 0 16))) J) := draw_C hP (s := 6) (by omega) (by omega)
  have b25 : ∀ I, F_X11_draw 0 (25 : Int32) (mm P I J) = some (nI (u16 (I 0 16) % 25), mm P (xu I 0 16 (nx1 (I 0 16))) J) := fun I => draw_C hP (s := 25) (by omega) (by omega)
  have b5 : ∀ I, F_X11_draw 0 (5 : Int32) (mm P I J) = some (nI (u16 (I 0 16) % 5), mm P (xu I 0 16 (nx1 (I 0 16))) J) := fun I => draw_C hP (s := 5) (by omega) (by omega)
  have b10 : ∀ I, F_X11_draw 0 (10 : Int32) (mm P I J) = some (nI (u16 (I 0 16) % 10), mm P (xu I 0 16 (nx1 (I 0 16))) J) := fun I => draw_C hP (s := 10) (by omega) (by omega)
  have q2 : nI (u16 (I 0 16) % 6) = (2 : Int32) ↔ u16 (I 0 16) % 6 = 2 := nI_eqI (b := 2) (by omega) (by omega)
  have q3 : nI (u16 (I 0 16) % 6) = (3 : Int32) ↔ u16 (I 0 16) % 6 = 3 := nI_eqI (b := 3) (by omega) (by omega)
  have q4 : nI (u16 (I 0 16) % 6) = (4 : Int32) ↔ u16 (I 0 16) % 6 = 4 := nI_eqI (b := 4) (by omega) (by omega)
  have q5 : nI (u16 (I 0 16) % 6) = (5 : Int32) ↔ u16 (I 0 16) % 6 = 5 := nI_eqI (b := 5) (by omega) (by omega)
  unfold deedV deedX F_X11_drawDeed
  simp only [↓bOC hP, ↓bs b6, q2, q3, q4, q5]
  by_cases h2 : u16 (I 0 16) % 6 = 2
  · simp only [h2, if_true, ↓bOC hP, ↓bs (b25 _), xu_self]
    exact ⟨_, by rw [show (100 : Int32) = nI 100 from rfl, nI_add], xu_self, fun a i h => by rw [xu_o h, xu_o h]⟩
  · by_cases h3 : u16 (I 0 16) % 6 = 3
    · simp only [h2, h3, if_true, if_false, ↓bOC hP, ↓bs (b25 _), xu_self]
      exact ⟨_, by rw [show (200 : Int32) = nI 200 from rfl, nI_add]; rfl, xu_self, fun a i h => by rw [xu_o h, xu_o h]⟩
    · by_cases h4 : u16 (I 0 16) % 6 = 4
      · simp only [h2, h3, h4, if_true, if_false, ↓bOC hP, ↓bs (b25 _), ↓bs (b5 _), xu_self]
        exact ⟨_, by rw [show (1000 : Int32) = nI 1000 from rfl, show (10 : Int32) = nI 10 from rfl, pk_mul, nI_add, nI_add]; rfl, xu_self, fun a i h => by rw [xu_o h, xu_o h, xu_o h]⟩
      · by_cases h5 : u16 (I 0 16) % 6 = 5
        · simp only [h2, h3, h4, h5, if_true, if_false, ↓bOC hP, ↓bs (b10 _), xu_self]
          exact ⟨_, by rw [show (10 : Int32) = nI 10 from rfl, nI_add]; rfl, xu_self, fun a i h => by rw [xu_o h, xu_o h]⟩
        · simp only [h2, h3, h4, h5, if_false]
          exact ⟨_, rfl, xu_self, fun a i h => xu_o h⟩
theorem deed_M {P : Nat → Nat → Option Nat} (hP : GP P) {I : Nat → Nat → Int32} {J : Nat → Nat → Int64} : ∃ I', F_X12_drawn 164 (mm P I J) = some (nI (deedV (I 164 24)), mm P I' J) ∧ I' 164 24 = deedX (I 164 24) ∧ ∀ a i, ¬ (a = 164 ∧ i = 24) → I' a i = I a i := by
  have b6 : F_X12_draw 164 (6 : Int32) (mm P I J) = some (nI (u16 (I 164 24) % 6), mm P (xu I 164 24 (nx1 (I 164 24))) J) := draw_M hP (s := 6) (by omega) (by omega)
  have b25 : ∀ I, F_X12_draw 164 (25 : Int32) (mm P I J) = some (nI (u16 (I 164 24) % 25), mm P (xu I 164 24 (nx1 (I 164 24))) J) := fun I => draw_M hP (s := 25) (by omega) (by omega)
  have b5 : ∀ I, F_X12_draw 164 (5 : Int32) (mm P I J) = some (nI (u16 (I 164 24) % 5), mm P (xu I 164 24 (nx1 (I 164 24))) J) := fun I => draw_M hP (s := 5) (by omega) (by omega)
  have b10 : ∀ I, F_X12_draw 164 (10 : Int32) (mm P I J) = some (nI (u16 (I 164 24) % 10), mm P (xu I 164 24 (nx1 (I 164 24))) J) := fun I => draw_M hP (s := 10) (by omega) (by omega)
  have q2 : nI (u16 (I 164 24) % 6) = (2 : Int32) ↔ u16 (I 164 24) % 6 = 2 := nI_eqI (b := 2) (by omega) (by omega)
  have q5 : nI (u16 (I 164 24) % 6) = (5 : Int32) ↔ u16 (I 164 24) % 6 = 5 := nI_eqI (b := 5) (by omega) (by omega)
  have l2 : (2 : Int32) ≤ nI (u16 (I 164 24) % 6) ↔ 2 ≤ u16 (I 164 24) % 6 := nI_leI (a := 2) (by omega) (by omega)
  have l4 : (4 : Int32) ≤ nI (u16 (I 164 24) % 6) ↔ 4 ≤ u16 (I 164 24) % 6 := nI_leI (a := 4) (by omega) (by omega)
  have hd : u16 (I 164 24) % 6 < 6 := Nat.mod_lt _ (by omega)
  unfold deedV deedX F_X12_drawn F_X12_drawn_32
  simp only [↓bOM hP, ↓bs b6, q2, q5, l2, l4]
  by_cases h2 : u16 (I 164 24) % 6 = 2
  · simp only [h2, if_true, show (2 ≤ 2) from Nat.le_refl 2, show ¬ (4 ≤ 2) by omega, if_false, ↓bOM hP, ↓bs (b25 _), xu_self]
    exact ⟨_, by rw [show (100 : Int32) = nI 100 from rfl, nI_add], xu_self, fun a i h => by rw [xu_o h, xu_o h]⟩
  · by_cases h3 : u16 (I 164 24) % 6 = 3
    · simp only [h3, if_true, show (2 ≤ 3) by omega, show ¬ (4 ≤ 3) by omega, show ¬ (3 = 2) by omega, if_false, ↓bOM hP, ↓bs (b25 _), xu_self]
      exact ⟨_, by rw [show (200 : Int32) = nI 200 from rfl, nI_add], xu_self, fun a i h => by rw [xu_o h, xu_o h]⟩
    · by_cases h4 : u16 (I 164 24) % 6 = 4
      · simp only [h4, if_true, show (2 ≤ 4) by omega, show (4 ≤ 4) by omega, show ¬ (4 = 2) by omega, show ¬ (4 = 3) by omega, show ¬ (4 = 5) by omega, if_false, ↓bOM hP, ↓bs (b25 _), ↓bs (b5 _), xu_self]
        exact ⟨_, by rw [show (1000 : Int32) = nI 1000 from rfl, show (10 : Int32) = nI 10 from rfl, pk_mul, nI_add, nI_add], xu_self, fun a i h => by rw [xu_o h, xu_o h, xu_o h]⟩
      · by_cases h5 : u16 (I 164 24) % 6 = 5
        · simp only [h5, if_true, show (2 ≤ 5) by omega, show (4 ≤ 5) by omega, show ¬ (5 = 2) by omega, show ¬ (5 = 3) by omega, show ¬ (5 = 4) by omega, if_false, ↓bOM hP, ↓bs (b10 _), xu_self]
          exact ⟨_, by rw [show (10 : Int32) = nI 10 from rfl, nI_add], xu_self, fun a i h => by rw [xu_o h, xu_o h]⟩
        · simp only [h2, h3, h4, h5, show ¬ (2 ≤ u16 (I 164 24) % 6) by omega, if_false]
          exact ⟨_, rfl, xu_self, fun a i h => xu_o h⟩
/-- draws, coast and done deeds, behind so many draws -/
noncomputable def dayS (t : Txt) (c : Cst) (x : Int32) : Nat → Int32 × Cst × Nat
  | 0 => (x, c, 0)
  | j + 1 => if attW t (dayS t c x j).2.1 (deedV (dayS t c x j).1) = 0 then (deedX (dayS t c x j).1, attC t (dayS t c x j).2.1 (deedV (dayS t c x j).1), (dayS t c x j).2.2 + 1) else (deedX (dayS t c x j).1, (dayS t c x j).2.1, (dayS t c x j).2.2)
theorem day_wf {t : Txt} {c : Cst} {n : Nat} {x : Int32} (hc : wfC t c n) : ∀ j, j ≤ 98 → wfC t (dayS t c x j).2.1 (n + 1) ∧ cMinute (dayS t c x j).2.1 ≤ cMinute c + j ∧ (dayS t c x j).2.2 ≤ j ∧ ((dayS t c x j).2.2 = 0 → (dayS t c x j).2.1 = c)
  | 0, _ => ⟨wfC_mono hc, Nat.le_refl _, Nat.le_refl _, fun _ => rfl⟩
  | j + 1, hj => by
    obtain ⟨i1, i2, i3, i4⟩ := day_wf (x := x) hc j (by omega)
    have hm : cMinute c ≤ 99 * n := hc.2.2.2.2
    unfold dayS
    by_cases h : attW t (dayS t c x j).2.1 (deedV (dayS t c x j).1) = 0
    · rw [if_pos h]
      obtain ⟨j1, j2⟩ := att_wf (m := n + 1) i1 (Nat.le_refl _) (by omega) (deedV_lt _) h
      exact ⟨j1, by show cMinute (attC _ _ _) ≤ _; omega, by show _ + 1 ≤ _; omega, fun z => by cases z⟩
    · rw [if_neg h]
      exact ⟨i1, by show cMinute (dayS t c x j).2.1 ≤ _; omega, by show (dayS t c x j).2.2 ≤ _; omega, i4⟩
