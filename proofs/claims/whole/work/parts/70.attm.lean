theorem i64rem100 : ∀ v, v < 2000 → (nI v).toInt64 - (nI v).toInt64 / 100 * 100 = (nI (v % 100)).toInt64 := by decide +kernel
theorem i64rem10 : ∀ v, v < 2000 → (nI v).toInt64 - (nI v).toInt64 / 10 * 10 = (nI (v % 10)).toInt64 := by decide +kernel
theorem i64div : ∀ v, v < 1000 → ((nI (1000 + v)).toInt64 - 1000) / 10 = (nI (v / 10)).toInt64 := by decide +kernel
theorem dcd_nI {v : Nat} (h : v < 2000) : dcd (nI v).toInt64 = v := by
  unfold dcd
  rw [Int32.toInt_toInt64, nI_toInt (by omega), if_pos (by omega), Int.toNat_natCast]
theorem whyNot_M {P : Nat → Nat → Option Nat} (hP : GP P) {I : Nat → Nat → Int32} {J : Nat → Nat → Int64} {t : Txt} {c : Cst} {n : Nat} (hw : wfT t) (hc : wfC t c n) (hA : LandA (I 165) 0 t) (hD : CoastA (I 165) 67 t c) (v : Int64) : F_X12_whyNot 164 v (mm P I J) = some (nI (attW t c (dcd v)), mm P I J) := by
  have hN := tN_le hw
  have z0 : (0 : Int64).toInt = 0 := by decide
  have z10 : (10 : Int64).toInt = 10 := by decide
  have z19 : (19 : Int64).toInt = 19 := by decide
  have z100 : (100 : Int64).toInt = 100 := by decide
  have z200 : (200 : Int64).toInt = 200 := by decide
  have z299 : (299 : Int64).toInt = 299 := by decide
  have z1000 : (1000 : Int64).toInt = 1000 := by decide
  have z1999 : (1999 : Int64).toInt = 1999 := by decide
  unfold F_X12_whyNot F_X12_whyNot_53
  simp only [within_eq, lg_cmp_eq, lg_cmp_ge, Int64.le_iff_toInt_le, ← Int64.toInt_inj, z0, z10, z19, z100, z200, z299, z1000, z1999, Option.bind_some]
  by_cases h : 0 ≤ v.toInt ∧ v.toInt < 2000
  · obtain ⟨vv, hvv, rfl⟩ : ∃ vv : Nat, vv < 2000 ∧ v = (nI vv).toInt64 := ⟨v.toInt.toNat, by omega, Int64.toInt_inj.mp (by rw [Int32.toInt_toInt64, nI_toInt (by omega)]; omega)⟩
    rw [dcd_nI hvv, i64rem100 vv hvv, i64rem10 vv hvv]
    simp only [Int32.toInt_toInt64, nI_toInt (show vv < 2 ^ 31 by omega)]
    unfold attW
    by_cases h0 : vv = 0
    · rw [if_pos (by omega), if_pos h0]; rfl
    · rw [if_neg (by omega), if_neg h0]
      by_cases h1 : 10 ≤ vv ∧ vv ≤ 19
      · rw [if_pos (show (10 : Int) ≤ vv ∧ (vv : Int) ≤ 19 by omega), if_neg one_ne, if_neg (show ¬ vv < 10 by omega), if_pos (show vv < 20 by omega)]; rfl
      · rw [if_neg (show ¬ ((10 : Int) ≤ vv ∧ (vv : Int) ≤ 19) by omega), if_pos rfl]
        by_cases h2 : 100 ≤ vv ∧ vv ≤ 299
        · rw [if_pos (show (100 : Int) ≤ vv ∧ (vv : Int) ≤ 299 by omega), if_neg one_ne, if_neg (show ¬ vv < 10 by omega), if_neg (show ¬ vv < 20 by omega), if_neg (show ¬ vv < 100 by omega)]
          by_cases h3 : vv < 200
          · rw [if_neg (show ¬ (200 : Int) ≤ vv by omega), if_pos h3, show vv % 100 = vv - 100 by omega]
            unfold wH
            by_cases hx : vv - 100 < tN t
            · have := hc.1 _ hx
              rw [if_pos hx]
              simp only [↓bOM hP, ↓bs (whySand_in hP (J := J) hw hc hA hD hx (1 : Int32))]
              rw [if_neg (show ¬ (1 : Int32) ≤ 0 by decide)]
              by_cases h9 : cSand c (vv - 100) < 9
              · rw [if_pos h9, if_neg (by omega)]; rfl
              · rw [if_neg h9, if_pos (by omega)]; rfl
            · rw [if_neg hx]
              simp only [↓bOM hP, ↓bs (whySand_no hP (J := J) hw hA (a := nI (vv - 100)) (by rw [nI_toInt (by omega)]; omega) (1 : Int32))]
              rfl
          · rw [if_pos (show (200 : Int) ≤ vv by omega), if_neg h3, if_pos (show vv < 300 by omega), show vv % 100 = vv - 200 by omega]
            unfold wD
            by_cases hx : vv - 200 < tN t
            · have := hc.1 _ hx
              rw [if_pos hx]
              simp only [↓bOM hP, ↓bs (whySand_in hP (J := J) hw hc hA hD hx (-1 : Int32))]
              rw [if_pos (show (-1 : Int32) ≤ 0 by decide)]
              by_cases h9 : 0 < cSand c (vv - 200)
              · rw [if_pos h9, if_neg (by omega)]; rfl
              · rw [if_neg h9, if_pos (by omega)]; rfl
            · rw [if_neg hx]
              simp only [↓bOM hP, ↓bs (whySand_no hP (J := J) hw hA (a := nI (vv - 200)) (by rw [nI_toInt (by omega)]; omega) (-1 : Int32))]
              rfl
        · rw [if_neg (show ¬ ((100 : Int) ≤ vv ∧ (vv : Int) ≤ 299) by omega), if_pos rfl]
          by_cases h4 : 1000 ≤ vv
          · obtain ⟨u, rfl⟩ : ∃ u, vv = 1000 + u := ⟨vv - 1000, by omega⟩
            rw [if_pos (show (1000 : Int) ≤ (1000 + u : Nat) ∧ ((1000 + u : Nat) : Int) ≤ 1999 by omega), if_neg one_ne, if_neg (show ¬ 1000 + u < 10 by omega), if_neg (show ¬ 1000 + u < 20 by omega), if_neg (show ¬ 1000 + u < 100 by omega), if_neg (show ¬ 1000 + u < 200 by omega), if_neg (show ¬ 1000 + u < 300 by omega), if_neg (show ¬ 1000 + u < 1000 by omega), i64div u (by omega)]
            have wb := whyBuild_M hP (J := J) hw hc hA hD (nI (u / 10)) (nI ((1000 + u) % 10))
            rw [nI_toInt (by omega), nI_toInt (by omega)] at wb
            simp only [↓bOM hP, ↓bs wb]
            rw [show 1000 + u - 1000 = u by omega]
          · rw [if_neg (show ¬ ((1000 : Int) ≤ vv ∧ (vv : Int) ≤ 1999) by omega), if_pos rfl]
            by_cases h5 : vv < 10
            · rw [if_pos h5]; rfl
            · rw [if_neg h5, if_neg (show ¬ vv < 20 by omega)]
              by_cases h6 : vv < 100
              · rw [if_pos h6]; rfl
              · rw [if_neg h6, if_neg (show ¬ vv < 200 by omega), if_neg (show ¬ vv < 300 by omega), if_pos (show vv < 1000 by omega)]; rfl
  · have dv : dcd v = 1 := if_neg h
    rw [dv, if_neg (show ¬ v.toInt = 0 by omega), if_neg (show ¬ (10 ≤ v.toInt ∧ v.toInt ≤ 19) by omega), if_pos rfl, if_neg (show ¬ (100 ≤ v.toInt ∧ v.toInt ≤ 299) by omega), if_pos rfl, if_neg (show ¬ (1000 ≤ v.toInt ∧ v.toInt ≤ 1999) by omega), if_pos rfl]
    rfl
theorem does_M {P : Nat → Nat → Option Nat} (hP : GP P) {I : Nat → Nat → Int32} {J : Nat → Nat → Int64} {t : Txt} {c : Cst} {n v : Nat} (hw : wfT t) (hc : wfC t c n) (hn : n < 1000) (hA : LandA (I 165) 0 t) (hD : CoastA (I 165) 67 t c) (hv : v < 2000) (h : attW t c v = 0) : ∃ I', F_X12_does 164 (nI v) (mm P I J) = some (mm P I' J) ∧ (∀ y i, ¬ (y = 165 ∧ 67 ≤ i ∧ i < 108) → ¬ (y = 164 ∧ (i = 20 ∨ i = 21)) → y ≠ 169 → y ≠ 170 → y ≠ 171 → y ≠ 172 → I' y i = I y i) ∧ CoastA (I' 165) 67 t (attC t c v) := by
  have hN := tN_le hw
  have hl := hc.2.1.1
  have l20 : (20 : Int32) ≤ nI v ↔ 20 ≤ v := nI_leI (a := 20) (by omega) (by omega)
  have l200 : (200 : Int32) ≤ nI v ↔ 200 ≤ v := nI_leI (a := 200) (by omega) (by omega)
  have l300 : (300 : Int32) ≤ nI v ↔ 300 ≤ v := nI_leI (a := 300) (by omega) (by omega)
  have sandA : ∀ x w, x < tN t → CoastA ((xu I 165 (67 + x) (nI w)) 165) 67 t (cHeap c x w) := by
    intro x w hx
    obtain ⟨g1, g2, g3, ⟨f, f1, f2, f3⟩, g5, g6⟩ := hD
    refine ⟨fun i hi => ?_, ?_, fun i q hq => ?_, ⟨f, f1, ?_, f3⟩, ?_, ?_⟩
    · show xu I 165 (67 + x) (nI w) 165 (67 + i) = nI (if i = x then w else cSand c i)
      by_cases e : i = x
      · rw [if_pos e, e, xu_self]
      · rw [if_neg e, xu_o (by omega)]; exact g1 i hi
    · rw [xu_o (by omega)]; exact g2
    · have hi : i < (cHouses c).length := getlt hq
      rw [xu_o (by omega), xu_o (by omega)]
      exact g3 i q hq
    · rw [xu_o (by omega)]; exact f2
    · rw [xu_o (by omega)]; exact g5
    · rw [xu_o (by omega)]; exact g6
  unfold attW at h
  unfold attC
  by_cases h0 : v = 0
  · subst h0
    obtain ⟨I', q1, q2, q3⟩ := goesMin_M hP (J := J) (m := 1) hw hc hn hA hD (by omega)
    have q1' : F_X12_goesMinutes 164 (1 : Int32) (mm P I J) = some (mm P I' J) := q1
    refine ⟨I', ?_, q2, q3⟩
    have z : nI 0 = (0 : Int32) := rfl
    simp only [F_X12_does, z, ↓reduceIte, ↓bOM hP, ↓bs q1']
  · have nz : ¬ nI v = 0 := nI_ne0 (by omega) (by omega)
    rw [if_neg h0] at h ⊢
    by_cases h10 : v < 10
    · rw [if_pos h10] at h; cases h
    · rw [if_neg h10] at h
      by_cases h20 : v < 20
      · rw [if_pos h20]
        have sb : nI v - (10 : Int32) = nI (v - 10) := pk_sub (b := 10) (by omega)
        have n20 : ¬ (20 : Int32) ≤ nI v := fun z => by have := l20.mp z; omega
        refine ⟨xu I 165 106 (nI (v - 10)), ?_, fun y i g1 _ _ _ _ _ => xu_o (by omega), ?_⟩
        · simp only [F_X12_does, ↓reduceIte, nz, n20, sb, ↓bOM hP, ↓bAM]
        · obtain ⟨g1, g2, g3, ⟨f, f1, f2, f3⟩, g5, g6⟩ := hD
          refine ⟨fun i hi => ?_, ?_, fun i q hq => ?_, ⟨f, f1, ?_, f3⟩, xu_self, ?_⟩
          · rw [xu_o (by omega)]; exact g1 i hi
          · rw [xu_o (by omega)]; exact g2
          · have hi : i < (cHouses c).length := getlt hq
            rw [xu_o (by omega), xu_o (by omega)]
            exact g3 i q hq
          · rw [xu_o (by omega)]; exact f2
          · rw [xu_o (by omega)]; exact g6
      · rw [if_neg h20] at h ⊢
        have n20 : (20 : Int32) ≤ nI v := l20.mpr (by omega)
        by_cases h100 : v < 100
        · rw [if_pos h100] at h; cases h
        · rw [if_neg h100] at h
          by_cases h300 : v < 300
          · have n300 : ¬ (300 : Int32) ≤ nI v := fun z => by have := l300.mp z; omega
            have rm : nI v - nI v / (100 : Int32) * 100 = nI (v % 100) := pk_rem (d := 100) (by omega) (by omega) (by omega)
            have e67 : (67 : Int32) + nI (v % 100) = nI (67 + v % 100) := nI_add 67 _
            by_cases h200 : v < 200
            · rw [if_pos h200] at h ⊢
              unfold wH at h
              by_cases hx : v - 100 < tN t
              · rw [if_pos hx] at h
                by_cases h9 : cSand c (v - 100) < 9
                · have n200 : ¬ (200 : Int32) ≤ nI v := fun z => by have := l200.mp z; omega
                  have s1 : I 165 (67 + (v - 100)) = nI (cSand c (v - 100)) := hD.1 _ hx
                  refine ⟨xu I 165 (67 + (v - 100)) (nI (cSand c (v - 100) + 1)), ?_, fun y i g1 _ _ _ _ _ => xu_o (by omega), sandA _ _ hx⟩
                  unfold F_X12_does F_X12_does_64
                  simp only [rm, e67]
                  rw [show v % 100 = v - 100 by omega]
                  simp (disch := omega) only [↓reduceIte, nz, n20, n300, n200, ↓bOM hP, ↓bAM, s1, nI_1]
                · rw [if_neg h9] at h; cases h
              · rw [if_neg hx] at h; cases h
            · rw [if_neg h200, if_pos h300] at h ⊢
              unfold wD at h
              by_cases hx : v - 200 < tN t
              · rw [if_pos hx] at h
                by_cases h9 : 0 < cSand c (v - 200)
                · have n200 : (200 : Int32) ≤ nI v := l200.mpr (by omega)
                  have s1 : I 165 (67 + (v - 200)) = nI (cSand c (v - 200)) := hD.1 _ hx
                  have ad : nI (cSand c (v - 200)) + (-1 : Int32) = nI (cSand c (v - 200) - 1) := by
                    have e := nI_m1 (cSand c (v - 200) - 1)
                    rw [show cSand c (v - 200) - 1 + 1 = cSand c (v - 200) by omega] at e
                    exact e
                  refine ⟨xu I 165 (67 + (v - 200)) (nI (cSand c (v - 200) - 1)), ?_, fun y i g1 _ _ _ _ _ => xu_o (by omega), sandA _ _ hx⟩
                  unfold F_X12_does F_X12_does_64
                  simp only [rm, e67]
                  rw [show v % 100 = v - 200 by omega]
                  simp (disch := omega) only [↓reduceIte, nz, n20, n300, n200, ↓bOM hP, ↓bAM, s1, ad]
                · rw [if_neg h9] at h; cases h
              · rw [if_neg hx] at h; cases h
          · rw [if_neg (show ¬ v < 200 by omega), if_neg h300] at h ⊢
            by_cases h1000 : v < 1000
            · rw [if_pos h1000] at h; cases h
            · rw [if_neg h1000] at h
              have n300 : (300 : Int32) ≤ nI v := l300.mpr (by omega)
              have sb : (nI v - (1000 : Int32)) / 10 = nI ((v - 1000) / 10) := by
                rw [show nI v - (1000 : Int32) = nI (v - 1000) from pk_sub (b := 1000) (by omega)]
                exact pk_div (d := 10) (by omega) (by omega) (by omega)
              have rm : nI v - nI v / (10 : Int32) * 10 = nI (v % 10) := pk_rem (d := 10) (by omega) (by omega) (by omega)
              have h6 : (cHouses c).length < 6 := by
                unfold whyB at h
                split at h
                · split at h
                  · cases h
                  · omega
                · cases h
              obtain ⟨I', q1, q2, q3⟩ := builds_M hP (J := J) (x := (v - 1000) / 10) (o := v % 10) hw hc hD h6
              refine ⟨I', ?_, fun y i g1 _ _ _ _ _ => q2 y i (by omega), q3⟩
              unfold F_X12_does
              simp only [sb, rm]
              simp only [↓reduceIte, nz, n20, n300, ↓bOM hP, ↓bs q1]
/-! ===== deeds one behind another ===== -/
noncomputable def seqS (t : Txt) (c : Cst) (vs : Nat → Nat) : Nat → Cst
  | 0 => c
  | j + 1 => attC t (seqS t c vs j) (vs j)
/-- so many are done, and then one cannot be, or there is none -/
def stopS (t : Txt) (c : Cst) (vs : Nat → Nat) (sz K : Nat) : Prop := K ≤ sz ∧ (∀ j, j < K → attW t (seqS t c vs j) (vs j) = 0) ∧ (K = sz ∨ attW t (seqS t c vs K) (vs K) ≠ 0)
theorem stopS_eq {t : Txt} {c : Cst} {vs : Nat → Nat} {sz K K' : Nat} (h : stopS t c vs sz K) (h' : stopS t c vs sz K') : K = K' := by
  obtain ⟨a1, a2, a3⟩ := h
  obtain ⟨b1, b2, b3⟩ := h'
  by_cases h1 : K < K'
  · rcases a3 with a3 | a3
    · omega
    · exact absurd (b2 K h1) a3
  · by_cases h2 : K' < K
    · rcases b3 with b3 | b3
      · omega
      · exact absurd (a2 K' h2) b3
    · omega
theorem seq_wf {t : Txt} {c : Cst} {vs : Nat → Nat} {n : Nat} (hc : wfC t c n) (hv : ∀ j, vs j < 2000) : ∀ K, K ≤ 98 → (∀ j, j < K → attW t (seqS t c vs j) (vs j) = 0) → wfC t (seqS t c vs K) (n + 1) ∧ cMinute (seqS t c vs K) ≤ cMinute c + K
  | 0, _, _ => ⟨wfC_mono hc, Nat.le_refl _⟩
  | K + 1, hK, h => by
    obtain ⟨i1, i2⟩ := seq_wf hc hv K (by omega) (fun j hj => h j (by omega))
    have hm : cMinute c ≤ 99 * n := hc.2.2.2.2
    obtain ⟨j1, j2⟩ := att_wf (m := n + 1) i1 (Nat.le_refl _) (by omega) (hv K) (h K (by omega))
    refine ⟨j1, ?_⟩
    have j2' : cMinute (seqS t c vs (K + 1)) ≤ cMinute (seqS t c vs K) + 1 := j2
    omega
theorem deeds_C {P : Nat → Nat → Option Nat} (hP : GP P) {I I0 : Nat → Nat → Int32} {J : Nat → Nat → Int64} {t : Txt} {c : Cst} {n k u sz : Nat} (hk : k ∈ coastL) (hu : u < 4) (hw : wfT t) (hc : wfC t c n) (hn : n < 1000) (hL : LandC (mm P I J) 14 t) (h0 : (∀ a i, ¬ (k ≤ a ∧ a ≤ k + 3) → a ≠ 31 → a ≠ 32 → a ≠ 33 → I0 a i = I a i) ∧ CoI I0 k t c) (hkf : k + 3 < 82) (hz : I (82 + 2 * u) 0 = nI sz) (hsz : sz ≤ 40) :
    ∃ I' K, F_X11_doDeeds 0 (82 + 2 * u) k (mm P I0 J) = some (nI K, mm P I' J) ∧ stopS t c (fun j => dcd (J (83 + 2 * u) j)) sz K ∧ (∀ a i, ¬ (k ≤ a ∧ a ≤ k + 3) → a ≠ 31 → a ≠ 32 → a ≠ 33 → I' a i = I a i) ∧ CoI I' k t (seqS t c (fun j => dcd (J (83 + 2 * u) j)) K) := by
  have hf := coast_far k hk
  have key : ∃ r : Int32 × xM, xit (F_X11_doDeeds_2b 0 (82 + 2 * u) k) xFU (nI 0, mm P I0 J) = some r ∧ (∃ I' K, r = (nI K, mm P I' J) ∧ stopS t c (fun j => dcd (J (83 + 2 * u) j)) sz K ∧ (∀ a i, ¬ (k ≤ a ∧ a ≤ k + 3) → a ≠ 31 → a ≠ 32 → a ≠ 33 → I' a i = I a i) ∧ CoI I' k t (seqS t c (fun j => dcd (J (83 + 2 * u) j)) K)) := by
    refine xit_inv (fun j z => ∃ I', z = (nI j, mm P I' J) ∧ (∀ i, i < j → attW t (seqS t c (fun j => dcd (J (83 + 2 * u) j)) i) (dcd (J (83 + 2 * u) i)) = 0) ∧ (∀ a i, ¬ (k ≤ a ∧ a ≤ k + 3) → a ≠ 31 → a ≠ 32 → a ≠ 33 → I' a i = I a i) ∧ CoI I' k t (seqS t c (fun j => dcd (J (83 + 2 * u) j)) j)) _ sz ⟨I0, rfl, fun i hi => by omega, h0⟩ (fun j z hj hq => ?_) (fun z hq => ?_) (by omega)
    · obtain ⟨I1, rfl, q1, q2, q3⟩ := hq
      have wj := (seq_wf hc (fun j => dcd_lt _) j (by omega) q1).1
      have z1 : I1 (82 + 2 * u) 0 = nI sz := by rw [q2 _ _ (by omega) (by omega) (by omega) (by omega)]; exact hz
      have c1 : ¬ nI sz ≤ nI j := nI_ge hj (by omega)
      have g1 : xgI (mm P I1 J) (82 + 2 * u) 10 0 = some (I1 (82 + 2 * u) 0) := m_gI (traySh hu) I1 J 0
      have g2 : xgP (mm P I1 J) (82 + 2 * u) 10 2 = some (83 + 2 * u) := trayNum (mm_G hP) hu
      have g3 : xaJ (mm P I1 J) (83 + 2 * u) (nI j) = some (J (83 + 2 * u) j) := m_aJ (trayLen hu) (by omega) I1 J j (by omega)
      obtain ⟨I2, s1, s2, s3, s4⟩ := att_C hP (I := I1) (J := J) hk hw wj (by omega) (LandC_I (fun a i _ _ => q2 a i (by omega) (by omega) (by omega) (by omega)) hL) q3 (J (83 + 2 * u) j)
      by_cases h : attW t (seqS t c (fun j => dcd (J (83 + 2 * u) j)) j) (dcd (J (83 + 2 * u) j)) = 0
      · rw [h] at s1
        have s1' : F_X8_attempt 29 14 k (J (83 + 2 * u) j) (mm P I1 J) = some (0, mm P I2 J) := s1
        left
        refine ⟨(nI (j + 1), mm P I2 J), ?_, I2, rfl, fun i hi => ?_, fun a i g1 g2 g3 g4 => by rw [s3 a i g1 g2 g3 g4, q2 a i g1 g2 g3 g4], s4 h⟩
        · simp only [F_X11_doDeeds_2b, ↓bs g1, z1, ↓reduceIte, c1, ↓bOC hP, ↓bs g2, ↓bs g3, ↓bs s1', nI_1]
        · by_cases e : i = j
          · rw [e]; exact h
          · exact q1 i (by omega)
      · have nz : ¬ nI (attW t (seqS t c (fun j => dcd (J (83 + 2 * u) j)) j) (dcd (J (83 + 2 * u) j))) = 0 := nI_ne0 (by omega) (by have := @attW_le t (seqS t c (fun j => dcd (J (83 + 2 * u) j)) j) (dcd (J (83 + 2 * u) j)); omega)
        have e2 := s2 h
        subst e2
        right
        refine ⟨(nI j, mm P I2 J), ?_, I2, j, rfl, ⟨by omega, q1, Or.inr h⟩, q2, q3⟩
        simp only [F_X11_doDeeds_2b, F_X11_doDeeds_37, ↓bs g1, z1, ↓reduceIte, c1, ↓bOC hP, ↓bs g2, ↓bs g3, ↓bs s1, nz, Option.map_some]
    · obtain ⟨I1, rfl, q1, q2, q3⟩ := hq
      have z1 : I1 (82 + 2 * u) 0 = nI sz := by rw [q2 _ _ (by omega) (by omega) (by omega) (by omega)]; exact hz
      have c1 : nI sz ≤ nI sz := nI_le (Nat.le_refl _) (by omega)
      have g1 : xgI (mm P I1 J) (82 + 2 * u) 10 0 = some (I1 (82 + 2 * u) 0) := m_gI (traySh hu) I1 J 0
      refine ⟨(nI sz, mm P I1 J), ?_, I1, sz, rfl, ⟨Nat.le_refl _, q1, Or.inl rfl⟩, q2, q3⟩
      simp only [F_X11_doDeeds_2b, F_X11_doDeeds_37, ↓bs g1, z1, ↓reduceIte, c1, Option.map_some]
  obtain ⟨r, h1, I', K, rfl, h2, h3, h4⟩ := key
  exact ⟨I', K, h1, h2, h3, h4⟩
def ahT (y i : Nat) : Prop := (y = 165 ∧ 67 ≤ i ∧ i < 108) ∨ (y = 164 ∧ (i = 20 ∨ i = 21 ∨ i = 23)) ∨ y = 169 ∨ y = 170 ∨ y = 171 ∨ y = 172
theorem tells_M {P : Nat → Nat → Option Nat} (hP : GP P) {I : Nat → Nat → Int32} {J : Nat → Nat → Int64} {t : Txt} {c : Cst} {n u sz : Nat} (hu : u < 4) (hw : wfT t) (hc : wfC t c n) (hn : n < 999) (hA : LandA (I 165) 0 t) (hD : CoastA (I 165) 67 t c) (hz : I 183 u = nI sz) (hsz : sz ≤ 40) :
    ∃ I' K, F_X12_tells 164 (nI u) (mm P I J) = some (nI K, mm P I' J) ∧ stopS t c (fun j => dcd (J 184 (40 * u + j))) sz K ∧ (∀ a i, ¬ ahT a i → I' a i = I a i) ∧ CoastA (I' 165) 67 t (seqS t c (fun j => dcd (J 184 (40 * u + j))) K) ∧ I' 164 23 = (if K = sz then 0 else nI (attW t (seqS t c (fun j => dcd (J 184 (40 * u + j))) K) (dcd (J 184 (40 * u + K))))) := by
  have key : ∃ r : Int32 × xM, xit (F_X12_tells_7b 164 (nI u)) xFU (nI 0, mm P (xu I 164 23 0) J) = some r ∧ (∃ I' K, r = (nI K, mm P I' J) ∧ stopS t c (fun j => dcd (J 184 (40 * u + j))) sz K ∧ (∀ a i, ¬ ahT a i → I' a i = I a i) ∧ CoastA (I' 165) 67 t (seqS t c (fun j => dcd (J 184 (40 * u + j))) K) ∧ I' 164 23 = (if K = sz then 0 else nI (attW t (seqS t c (fun j => dcd (J 184 (40 * u + j))) K) (dcd (J 184 (40 * u + K)))))) := by
    refine xit_inv (fun j z => ∃ I', z = (nI j, mm P I' J) ∧ (∀ i, i < j → attW t (seqS t c (fun j => dcd (J 184 (40 * u + j))) i) (dcd (J 184 (40 * u + i))) = 0) ∧ (∀ a i, ¬ ahT a i → I' a i = I a i) ∧ CoastA (I' 165) 67 t (seqS t c (fun j => dcd (J 184 (40 * u + j))) j) ∧ I' 164 23 = 0) _ sz ⟨xu I 164 23 0, rfl, fun i hi => by omega, fun a i g => xu_o (by unfold ahT at g; omega), CoastA_cg (A := I 165) hw hc (fun x _ => xu_o (by omega)) hD, xu_self⟩ (fun j z hj hq => ?_) (fun z hq => ?_) (by omega)
    · obtain ⟨I1, rfl, q1, q2, q3, q4⟩ := hq
      have wj := (seq_wf hc (fun j => dcd_lt _) j (by omega) q1).1
      have z1 : I1 183 u = nI sz := by rw [q2 _ _ (by unfold ahT; omega)]; exact hz
      have c1 : ¬ nI sz ≤ nI j := nI_ge hj (by omega)
      have ix : (40 : Int32) * nI u + nI j = nI (40 * u + j) := by rw [show (40 : Int32) = nI 40 from rfl, pk_mul, nI_add]
      have hA1 : LandA (I1 165) 0 t := LandA_cg2 (A := I 165) hw (fun x hx => q2 _ _ (by unfold ahT; omega)) hA
      have wn := whyNot_M hP (J := J) hw wj hA1 q3 (J 184 (40 * u + j))
      have wl := @attW_le t (seqS t c (fun j => dcd (J 184 (40 * u + j))) j) (dcd (J 184 (40 * u + j)))
      by_cases h : attW t (seqS t c (fun j => dcd (J 184 (40 * u + j))) j) (dcd (J 184 (40 * u + j))) = 0
      · rw [h] at wn
        have wn' : F_X12_whyNot 164 (J 184 (40 * u + j)) (mm P I1 J) = some (0, mm P I1 J) := wn
        have e32 : (J 184 (40 * u + j)).toInt32 = nI (dcd (J 184 (40 * u + j))) := by
          unfold dcd
          by_cases hr : 0 ≤ (J 184 (40 * u + j)).toInt ∧ (J 184 (40 * u + j)).toInt < 2000
          · rw [if_pos hr]
            have e : J 184 (40 * u + j) = (nI (J 184 (40 * u + j)).toInt.toNat).toInt64 := Int64.toInt_inj.mp (by rw [Int32.toInt_toInt64, nI_toInt (by omega)]; omega)
            rw [e]
            simp only [Int32.toInt_toInt64]
            rw [nI_toInt (by omega), Int.toNat_natCast]
            simp
          · have dv : dcd (J 184 (40 * u + j)) = 1 := if_neg hr
            rw [dv] at h
            cases h
        obtain ⟨I2, d1, d2, d3⟩ := does_M hP (I := xu I1 164 23 0) (J := J) hw wj (by omega) (LandA_cg (A := I1 165) hw (fun x _ => xu_o (by omega)) hA1) (CoastA_cg (A := I1 165) hw wj (fun x _ => xu_o (by omega)) q3) (dcd_lt _) h
        left
        refine ⟨(nI (j + 1), mm P I2 J), ?_, I2, rfl, fun i hi => ?_, fun a i g => ?_, d3, ?_⟩
        · unfold F_X12_tells_7b
          simp only [ix]
          simp (disch := omega) only [↓bOM hP, ↓bAM, z1, ↓reduceIte, c1, ↓bs wn', xu_self]
          rw [e32, d1, Option.bind_some, nI_1]
        · by_cases e : i = j
          · rw [e]; exact h
          · exact q1 i (by omega)
        · have g' := g
          unfold ahT at g'
          rw [d2 a i (by omega) (by omega) (by omega) (by omega) (by omega) (by omega), xu_o (by omega), q2 a i g]
        · rw [d2 164 23 (by omega) (by omega) (by omega) (by omega) (by omega) (by omega), xu_self]
      · have nz : ¬ nI (attW t (seqS t c (fun j => dcd (J 184 (40 * u + j))) j) (dcd (J 184 (40 * u + j)))) = 0 := nI_ne0 (by omega) (by omega)
        right
        refine ⟨(nI j, mm P (xu I1 164 23 (nI (attW t (seqS t c (fun j => dcd (J 184 (40 * u + j))) j) (dcd (J 184 (40 * u + j)))))) J), ?_, _, j, rfl, ⟨by omega, q1, Or.inr h⟩, fun a i g => ?_, CoastA_cg (A := I1 165) hw wj (fun x _ => xu_o (by omega)) q3, ?_⟩
        · unfold F_X12_tells_7b F_X12_tells_43
          simp only [ix]
          simp (disch := omega) only [↓bOM hP, ↓bAM, z1, ↓reduceIte, c1, ↓bs wn, xu_self, nz, Option.map_some]
        · have g' := g
          unfold ahT at g'
          rw [xu_o (by omega), q2 a i g]
        · rw [xu_self, if_neg (by omega)]
    · obtain ⟨I1, rfl, q1, q2, q3, q4⟩ := hq
      have z1 : I1 183 u = nI sz := by rw [q2 _ _ (by unfold ahT; omega)]; exact hz
      have c1 : nI sz ≤ nI sz := nI_le (Nat.le_refl _) (by omega)
      refine ⟨(nI sz, mm P I1 J), ?_, I1, sz, rfl, ⟨Nat.le_refl _, q1, Or.inl rfl⟩, q2, q3, by rw [if_pos rfl]; exact q4⟩
      simp (disch := omega) only [F_X12_tells_7b, F_X12_tells_67, ↓bOM hP, ↓bAM, z1, ↓reduceIte, c1, Option.map_some]
  obtain ⟨r, h1, I', K, rfl, h2, h3, h4, h5⟩ := key
  refine ⟨I', K, ?_, h2, h3, h4, h5⟩
  unfold F_X12_tells F_X12_tells_7
  simp only [↓bOM hP]
  exact h1
