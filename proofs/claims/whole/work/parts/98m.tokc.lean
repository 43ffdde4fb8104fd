/-! ===== tokens in the class ===== -/
def sx (c : Nat) : Int32 := (nI c).toInt8.toInt32
theorem sx_tab : ∀ c, c < 256 → (c < 128 → sx c = nI c) ∧ (128 ≤ c → (sx c).toInt < 0) ∧ ((sx c &&& (255 : Int32)).toUInt32 % 65536).toInt32 = nI c := by decide +kernel
theorem sx_eq {c d : Nat} (hc : c < 256) (hd : d < 128) : sx c = nI d ↔ c = d := by
  obtain ⟨h1, h2, -⟩ := sx_tab c hc
  by_cases h : c < 128
  · rw [h1 h]; exact nI_eqI (by omega) (by omega)
  · constructor
    · intro z
      have := h2 (by omega)
      rw [z, nI_toInt (by omega)] at this
      omega
    · intro z; omega
theorem sx_lt {c d : Nat} (hc : c < 256) (hd : d < 128) : sx c < nI d ↔ c < d ∨ 128 ≤ c := by
  obtain ⟨h1, h2, -⟩ := sx_tab c hc
  by_cases h : c < 128
  · rw [h1 h, nI_ltI (by omega) (by omega)]; omega
  · rw [Int32.lt_iff_toInt_lt, nI_toInt (by omega)]
    have := h2 (by omega)
    constructor <;> intro z <;> omega
theorem sx_gt {c d : Nat} (hc : c < 256) (hd : d < 128) : nI d < sx c ↔ d < c ∧ c < 128 := by
  obtain ⟨h1, h2, -⟩ := sx_tab c hc
  by_cases h : c < 128
  · rw [h1 h, nI_ltI (by omega) (by omega)]; omega
  · rw [Int32.lt_iff_toInt_lt, nI_toInt (by omega)]
    have := h2 (by omega)
    constructor <;> intro z <;> omega
/-- the text in the class -/
def TxC (I : Nat → Nat → Int32) (b : Nat → Nat) (n : Nat) : Prop := n ≤ 900 ∧ I 1 5 = nI n ∧ ∀ x, x < n → b x < 256 ∧ I 2 x = sx (b x)
theorem TxC_fr {I I' : Nat → Nat → Int32} {b : Nat → Nat} {n : Nat} (h : TxC I b n) (e1 : I' 1 5 = I 1 5) (e2 : ∀ x, I' 2 x = I 2 x) : TxC I' b n := ⟨h.1, by rw [e1]; exact h.2.1, fun x hx => by rw [e2]; exact h.2.2 x hx⟩
/-- what step() leaves as it was -/
def frS (I I' : Nat → Nat → Int32) : Prop := ∀ a i, ¬ (a = 1 ∧ (i = 6 ∨ i = 7 ∨ i = 8)) → I' a i = I a i
theorem frS.rf {I : Nat → Nat → Int32} : frS I I := fun _ _ _ => rfl
theorem frS.tr {I I1 I2 : Nat → Nat → Int32} (h : frS I I1) (g : frS I1 I2) : frS I I2 := fun a i z => (g a i z).trans (h a i z)
theorem frS.pt {I : Nat → Nat → Int32} {i : Nat} {v : Int32} (h : i = 6 ∨ i = 7 ∨ i = 8) : frS I (xu I 1 i v) := fun a j z => xu_o (fun w => z ⟨w.1, by omega⟩)
theorem TxC.fr {I I' : Nat → Nat → Int32} {b : Nat → Nat} {n : Nat} (h : TxC I b n) (g : frS I I') : TxC I' b n := TxC_fr h (g _ _ (by omega)) (fun x => g _ _ (by omega))
theorem pass_C {P : Nat → Nat → Option Nat} (hP : GP P) {I : Nat → Nat → Int32} {J : Nat → Nat → Int64} {b : Nat → Nat} {n f e lo hi : Nat} (hT : TxC I b n) (h7 : I 1 7 = nI f) (hlo : lo < 128) (hhi : hi < 127) (hr : runE (fun c => lo ≤ c ∧ c ≤ hi) b n f e) :
    ∃ I', F_X7_pass 1 (nI lo) (nI hi) (mm P I J) = some (mm P I' J) ∧ (∀ a i, ¬ (a = 1 ∧ i = 7) → I' a i = I a i) ∧ I' 1 7 = nI e := by
  obtain ⟨r1, r2, r3, r4⟩ := hr
  have n9 := hT.1
  have key : ∃ r : xM, xit (F_X7_pass_0b 1 (nI lo) (nI hi)) xFU (mm P I J) = some r ∧ (∃ I', r = mm P I' J ∧ (∀ a i, ¬ (a = 1 ∧ i = 7) → I' a i = I a i) ∧ I' 1 7 = nI e) := by
    refine xit_inv (fun j z => ∃ I', z = mm P I' J ∧ (∀ a i, ¬ (a = 1 ∧ i = 7) → I' a i = I a i) ∧ I' 1 7 = nI (f + j)) _ (e - f) ⟨I, rfl, fun _ _ _ => rfl, h7⟩ (fun j z hj hz => ?_) (fun z hz => ?_) (by omega)
    · obtain ⟨I1, rfl, g1, g2⟩ := hz
      left
      have g5 : I1 1 5 = nI n := by rw [g1 _ _ (by omega)]; exact hT.2.1
      obtain ⟨b1, b2⟩ := hT.2.2 (f + j) (by omega)
      have b3 : I1 2 (f + j) = sx (b (f + j)) := by rw [g1 _ _ (by omega)]; exact b2
      obtain ⟨q1, q2⟩ := r3 (f + j) (by omega) (by omega)
      have c1 : ¬ nI n ≤ nI (f + j) := nI_ge (by omega) (by omega)
      have c2 : ¬ sx (b (f + j)) < nI lo := fun z => by have := (sx_lt b1 hlo).mp z; omega
      have c3 : ¬ nI hi < sx (b (f + j)) := fun z => by have := (sx_gt b1 (by omega)).mp z; omega
      refine ⟨mm P (xu I1 1 7 (nI (f + (j + 1)))) J, ?_, _, rfl, fun a i z => by rw [xu_o z, g1 a i z], xu_self⟩
      unfold F_X7_pass_0b
      simp (disch := omega) only [↓bOR hP, g2, g5, c1, ↓reduceIte, ↓bAR, b3, c2, c3, nI_1]
      rfl
    · obtain ⟨I1, rfl, g1, g2⟩ := hz
      have g5 : I1 1 5 = nI n := by rw [g1 _ _ (by omega)]; exact hT.2.1
      rw [show f + (e - f) = e by omega] at g2
      by_cases h : e < n
      · obtain ⟨b1, b2⟩ := hT.2.2 e h
        have b3 : I1 2 e = sx (b e) := by rw [g1 _ _ (by omega)]; exact b2
        have c1 : ¬ nI n ≤ nI e := nI_ge h (by omega)
        refine ⟨mm P I1 J, ?_, I1, rfl, g1, g2⟩
        unfold F_X7_pass_0b F_X7_pass_50
        by_cases c2 : sx (b e) < nI lo
        · simp (disch := omega) only [↓bOR hP, g2, g5, c1, ↓reduceIte, ↓bAR, b3, c2, Option.map_some]
        · have c3 : nI hi < sx (b e) := (sx_gt b1 (by omega)).mpr (by
            have := r4 h
            have z : ¬ (b e < lo ∨ 128 ≤ b e) := fun w => c2 ((sx_lt b1 hlo).mpr w)
            omega)
          simp (disch := omega) only [↓bOR hP, g2, g5, c1, ↓reduceIte, ↓bAR, b3, c2, c3, Option.map_some]
      · have c1 : nI n ≤ nI e := nI_le (by omega) (by omega)
        refine ⟨mm P I1 J, ?_, I1, rfl, g1, g2⟩
        unfold F_X7_pass_0b F_X7_pass_50
        simp (disch := omega) only [↓bOR hP, g2, g5, c1, ↓reduceIte, Option.map_some]
  obtain ⟨r, k1, I', rfl, k2⟩ := key
  exact ⟨I', k1, k2⟩
theorem idx_C {c : Nat} (hc : c < 256) (M : xM) : ∃ v, F_J0_indexOf_0f7a4 0 (nI c) M = some (v, M) ∧ ((v < 0 ∧ ∀ j, j < 12 → sCh 0 j ≠ c) ∨ (¬ v < 0 ∧ ∃ j, j < 12 ∧ sCh 0 j = c)) := by
  have l0 : sLen 0 = 12 := by decide +kernel
  obtain ⟨so, sl, -⟩ := str_tab 0 (by omega)
  rw [l0] at sl
  have ln := lenA (i := 0) (by omega) M
  rw [l0] at ln
  have lp : ∃ r : Int32 × xM, xit (F_J1_indexOfChar_4cfef_7b 0 (nI 12) (nI c).toInt8.toInt32) xFU (nI 0, M) = some r ∧ (∃ v, r = (v, M) ∧ ((v < 0 ∧ ∀ j, j < 12 → sCh 0 j ≠ c) ∨ (¬ v < 0 ∧ ∃ j, j < 12 ∧ sCh 0 j = c))) := by
    refine xit_inv (fun j z => z = (nI j, M) ∧ ∀ x, x < j → sCh 0 x ≠ c) _ 12 ⟨rfl, fun x hx => by omega⟩ (fun j z hj hz => ?_) (fun z hz => ?_) (by omega)
    · obtain ⟨rfl, g1⟩ := hz
      obtain ⟨h1, h2⟩ := str_ch 0 (by omega) j (by omega)
      have c1 : ¬ nI 12 ≤ nI j := nI_ge hj (by omega)
      by_cases h : sCh 0 j = c
      · right
        refine ⟨(nI j, M), ?_, nI j, rfl, Or.inr ⟨nI_pos (by omega), j, hj, h⟩⟩
        have c2 : nI (sCh 0 j) = (nI c).toInt8.toInt32 := ((sx_eq hc h2).mpr h.symm).symm
        unfold F_J1_indexOfChar_4cfef_7b F_J1_indexOfChar_4cfef_22
        simp only [c1, ↓reduceIte, ↓bs h1, c2, Option.map_some]
      · left
        have c2 : ¬ nI (sCh 0 j) = (nI c).toInt8.toInt32 := fun z => h ((sx_eq hc h2).mp z.symm).symm
        refine ⟨(nI (j + 1), M), ?_, rfl, fun x hx => ?_⟩
        · unfold F_J1_indexOfChar_4cfef_7b
          simp only [c1, ↓reduceIte, ↓bs h1, c2, nI_1]
        · by_cases e : x = j
          · rw [e]; exact h
          · exact g1 x (by omega)
    · obtain ⟨rfl, g1⟩ := hz
      have c1 : nI 12 ≤ nI 12 := nI_le (Nat.le_refl _) (by omega)
      refine ⟨(-1, M), ?_, -1, rfl, Or.inl ⟨by decide, g1⟩⟩
      unfold F_J1_indexOfChar_4cfef_7b F_J1_indexOfChar_4cfef_31
      simp only [c1, ↓reduceIte, Option.map_some]
  obtain ⟨r, k1, v, rfl, k2⟩ := lp
  refine ⟨v, ?_, k2⟩
  have c1 : ¬ nI c < 0 := nI_pos (by omega)
  have c2 : ¬ (255 : Int32) < nI c := nI_nlt (a := 255) (by omega) (by omega)
  have m1 : F_J9_max_7cf53 0 0 M = some (nI 0, M) := rfl
  have m2 : F_J9_min_7cf53 (nI 12) (nI 12) M = some (nI 12, M) := minJ (by omega) (by omega) M
  have c3 : nI 0 < nI 12 := nI_lt (by omega) (by omega)
  have lp' : F_J1_indexOfChar_4cfef 0 (nI c) (nI 0) (nI 12) M = some (v, M) := k1
  unfold F_J0_indexOf_0f7a4 F_J0_indexOf_7cf53 F_J0_isLatin1_aae02 F_J1_indexOf_4cfef F_J1_canEncode_9a6ad
  simp only [↓bs so, one_ne, ↓reduceIte, xz1, Option.bind_some, ↓bs ln, c1, c2, ↓bs m1, ↓bs sl, ↓bs m2, c3, ↓bs lp']
def clsK (k : Nat) : Nat := if k ≤ 28 then 2 else if k = 29 then 3 else if k = 30 then 0 else if k = 31 then 1 else 4
theorem clsK_w {k : Nat} (h : k ≤ 28) : clsK k = 2 := if_pos h
theorem clsK_s {k : Nat} (h : 32 ≤ k) : clsK k = 4 := by unfold clsK; rw [if_neg (by omega), if_neg (by omega), if_neg (by omega), if_neg (by omega)]
theorem clsK_lt (k : Nat) : clsK k < 5 := by
  unfold clsK
  split
  · omega
  · split
    · omega
    · split
      · omega
      · split <;> omega
theorem step60 {P : Nat → Nat → Option Nat} (hP : GP P) {I : Nat → Nat → Int32} {J : Nat → Nat → Int64} {b : Nat → Nat} {n f e k : Nat} (hT : TxC I b n) (h6 : I 1 6 = nI f) (ht : tokE b n f e k) (hf : f ≤ n) :
    ∃ I', F_X7_step_60 1 (mm P I J) = some (mm P I' J) ∧ frS I I' ∧ I' 1 6 = nI f ∧ I' 1 7 = nI e ∧ I' 1 8 = nI (clsK k) := by
  have n9 := hT.1
  have f1 : frS I (xu I 1 7 (nI f)) := frS.pt (by omega)
  have t1 := hT.fr f1
  have e6 : ∀ w, xu I 1 7 w 1 6 = nI f := fun w => by rw [xu_o (by omega)]; exact h6
  have e5 : ∀ w, xu I 1 7 w 1 5 = nI n := fun w => by rw [xu_o (by omega)]; exact hT.2.1
  by_cases h : f < n
  · have c1 : nI f < nI n := nI_lt h (by omega)
    obtain ⟨b1, b2⟩ := hT.2.2 f h
    have b3 : ∀ w, xu I 1 7 w 2 f = sx (b f) := fun w => by rw [xu_o (by omega)]; exact b2
    have sm : smP (b f) ↔ ¬ sx (b f) < (97 : Int32) ∧ ¬ (122 : Int32) < sx (b f) := by
      have a1 := sx_lt (d := 97) b1 (by omega)
      have a2 := sx_gt (d := 122) b1 (by omega)
      have a1' : sx (b f) < (97 : Int32) ↔ b f < 97 ∨ 128 ≤ b f := a1
      have a2' : (122 : Int32) < sx (b f) ↔ 122 < b f ∧ b f < 128 := a2
      rw [a1', a2']
      unfold smP
      omega
    have dg : dgP (b f) ↔ ¬ sx (b f) < (48 : Int32) ∧ ¬ (57 : Int32) < sx (b f) := by
      have a1 := sx_lt (d := 48) b1 (by omega)
      have a2 := sx_gt (d := 57) b1 (by omega)
      have a1' : sx (b f) < (48 : Int32) ↔ b f < 48 ∨ 128 ≤ b f := a1
      have a2' : (57 : Int32) < sx (b f) ↔ 57 < b f ∧ b f < 128 := a2
      rw [a1', a2']
      unfold dgP
      omega
    -- not a small letter: on
    have notSm : ¬ smP (b f) → F_X7_step_60 1 (mm P I J) = F_X7_step_131 1 (mm P (xu I 1 7 (nI f)) J) := fun ns => by
      unfold F_X7_step_60
      by_cases c2 : sx (b f) < (97 : Int32)
      · simp (disch := omega) only [↓bOR hP, h6, e6, e5, c1, ↓reduceIte, ↓bAR, b3, c2]
      · have c3 : (122 : Int32) < sx (b f) := Classical.byContradiction fun z => ns (sm.mpr ⟨c2, z⟩)
        simp (disch := omega) only [↓bOR hP, h6, e6, e5, c1, ↓reduceIte, ↓bAR, b3, c2, c3]
    rcases ht with ⟨z, -⟩ | ⟨-, z2, z3, z4⟩ | ⟨-, z2, z3, z4⟩ | ⟨-, z2, z3, z4, z5⟩
    · omega
    · obtain ⟨c2, c3⟩ := sm.mp z2
      obtain ⟨I', p1, p2, p3⟩ := pass_C hP (J := J) t1 xu_self (lo := 97) (hi := 122) (by omega) (by omega) (show runE (fun c => 97 ≤ c ∧ c ≤ 122) b n f e from z3)
      have k28 : k ≤ 28 := by rcases z4 with ⟨z4, _⟩ | ⟨z4, _⟩ <;> omega
      refine ⟨xu I' 1 8 (nI 2), ?_, (f1.tr (fun a i z => p2 a i (by omega))).tr (frS.pt (by omega)), by rw [xu_o (by omega), p2 _ _ (by omega)]; exact e6 _, by rw [xu_o (by omega)]; exact p3, by rw [xu_self, clsK_w k28]⟩
      have p1' : F_X7_pass 1 (97 : Int32) (122 : Int32) (mm P (xu I 1 7 (nI f)) J) = some (mm P I' J) := p1
      unfold F_X7_step_60
      simp (disch := omega) only [↓bOR hP, h6, e6, e5, c1, ↓reduceIte, ↓bAR, b3, c2, c3, ↓bs p1']
      rfl
    · have ns : ¬ smP (b f) := fun w => by unfold smP at w; unfold dgP at z2; omega
      obtain ⟨c2, c3⟩ := dg.mp z2
      obtain ⟨I', p1, p2, p3⟩ := pass_C hP (J := J) t1 xu_self (lo := 48) (hi := 57) (by omega) (by omega) (show runE (fun c => 48 ≤ c ∧ c ≤ 57) b n f e from z3)
      have p1' : F_X7_pass 1 (48 : Int32) (57 : Int32) (mm P (xu I 1 7 (nI f)) J) = some (mm P I' J) := p1
      have p6 : I' 1 6 = nI f := by rw [p2 _ _ (by omega)]; exact e6 _
      have fe := z3.1
      have en := z3.2.1
      have sb : nI e - nI f = nI (e - f) := pk_sub (by omega)
      have fr : frS I I' := f1.tr (fun a i z => p2 a i (by omega))
      rw [notSm ns]
      by_cases h3 : e - f ≤ 3
      · have c4 : ¬ (3 : Int32) < nI (e - f) := nI_nlt (a := 3) (by omega) (by omega)
        rw [if_pos h3] at z4
        refine ⟨xu I' 1 8 (nI 3), ?_, fr.tr (frS.pt (by omega)), by rw [xu_o (by omega)]; exact p6, by rw [xu_o (by omega)]; exact p3, by rw [xu_self, z4]; rfl⟩
        unfold F_X7_step_131 F_X7_step_186
        simp (disch := omega) only [↓bOR hP, e6, ↓bAR, b3, c2, c3, ↓reduceIte, ↓bs p1', p3, p6, sb, c4]
        rfl
      · have c4 : (3 : Int32) < nI (e - f) := nI_lt (a := 3) (by omega) (by omega)
        rw [if_neg h3] at z4
        refine ⟨xu I' 1 8 (nI 1), ?_, fr.tr (frS.pt (by omega)), by rw [xu_o (by omega)]; exact p6, by rw [xu_o (by omega)]; exact p3, by rw [xu_self, z4]; rfl⟩
        unfold F_X7_step_131 F_X7_step_186
        simp (disch := omega) only [↓bOR hP, e6, ↓bAR, b3, c2, c3, ↓reduceIte, ↓bs p1', p3, p6, sb, c4]
        rfl
    · have e7 : xu I 1 7 (nI f) 1 7 = nI f := xu_self
      have f2 : frS I (xu (xu I 1 7 (nI f)) 1 7 (nI (f + 1))) := f1.tr (frS.pt (by omega))
      have st : F_X7_step_131 1 (mm P (xu I 1 7 (nI f)) J) = F_X7_step_192 1 (mm P (xu I 1 7 (nI f)) J) := by
        unfold F_X7_step_131
        by_cases c2 : sx (b f) < (48 : Int32)
        · simp (disch := omega) only [↓bOR hP, e6, ↓bAR, b3, c2, ↓reduceIte]
        · have c3 : (57 : Int32) < sx (b f) := Classical.byContradiction fun z => z3 (dg.mpr ⟨c2, z⟩)
          simp (disch := omega) only [↓bOR hP, e6, ↓bAR, b3, c2, c3, ↓reduceIte]
      obtain ⟨v, v1, v2⟩ := idx_C b1 (mm P (xu (xu I 1 7 (nI f)) 1 7 (nI (f + 1))) J)
      have g6 : ∀ w, xu (xu I 1 7 (nI f)) 1 7 w 1 6 = nI f := fun w => by rw [xu_o (by omega)]; exact e6 _
      have gb : ∀ w, xu (xu I 1 7 (nI f)) 1 7 w 2 f = sx (b f) := fun w => by rw [xu_o (by omega)]; exact b3 _
      have ch := (sx_tab _ b1).2.2
      have so := (str_tab 0 (by omega)).1
      rw [notSm z2, st, z4]
      rcases v2 with ⟨v3, v4⟩ | ⟨v3, v4⟩
      · have hk : k = 31 := by
          rcases z5 with ⟨j, j1, j2, j3⟩ | ⟨j1, j2⟩
          · exact absurd j2 (v4 j j1)
          · exact j1
        refine ⟨xu (xu (xu I 1 7 (nI f)) 1 7 (nI (f + 1))) 1 8 (nI 1), ?_, f2.tr (frS.pt (by omega)), by rw [xu_o (by omega)]; exact g6 _, by rw [xu_o (by omega), xu_self], by rw [xu_self, hk]; rfl⟩
        unfold F_X7_step_192 F_X7_step_230
        simp (disch := omega) only [↓bOR hP, e7, nI_1, g6, ↓bAR, gb, ↓bs so, ch, ↓bs v1, v3, ↓reduceIte]
        rfl
      · have hk : 32 ≤ k := by
          obtain ⟨j, j1, j2⟩ := v4
          rcases z5 with ⟨j', j1', j2', j3'⟩ | ⟨j1', j2'⟩
          · omega
          · exact absurd j2 (j2' j j1)
        refine ⟨xu (xu (xu I 1 7 (nI f)) 1 7 (nI (f + 1))) 1 8 (nI 4), ?_, f2.tr (frS.pt (by omega)), by rw [xu_o (by omega)]; exact g6 _, by rw [xu_o (by omega), xu_self], by rw [xu_self, clsK_s hk]⟩
        unfold F_X7_step_192 F_X7_step_230
        simp (disch := omega) only [↓bOR hP, e7, nI_1, g6, ↓bAR, gb, ↓bs so, ch, ↓bs v1, v3, ↓reduceIte]
        rfl
  · have c1 : ¬ nI f < nI n := nI_nlt (by omega) (by omega)
    have hk : e = f ∧ k = 30 := by
      rcases ht with ⟨z1, z2, z3⟩ | ⟨z, -⟩ | ⟨z, -⟩ | ⟨z, -⟩
      · exact ⟨z2, z3⟩
      · omega
      · omega
      · omega
    refine ⟨xu (xu I 1 7 (nI f)) 1 8 (nI 0), ?_, f1.tr (frS.pt (by omega)), by rw [xu_o (by omega)]; exact e6 _, by rw [xu_o (by omega), xu_self, hk.1], by rw [xu_self, hk.2]; rfl⟩
    unfold F_X7_step_60
    simp (disch := omega) only [↓bOR hP, h6, e6, e5, c1, ↓reduceIte]
    rfl
theorem step_C {P : Nat → Nat → Option Nat} (hP : GP P) {I : Nat → Nat → Int32} {J : Nat → Nat → Int64} {b : Nat → Nat} {n p f e k : Nat} (hT : TxC I b n) (h7 : I 1 7 = nI p) (ht : isTok b n p f e k) :
    ∃ I', F_X7_step 1 (mm P I J) = some (mm P I' J) ∧ frS I I' ∧ I' 1 6 = nI f ∧ I' 1 7 = nI e ∧ I' 1 8 = nI (clsK k) := by
  obtain ⟨⟨t1, t2, t3, t4⟩, t5⟩ := ht
  have n9 := hT.1
  have f1 : frS I (xu I 1 6 (nI p)) := frS.pt (by omega)
  have key : ∃ r : xM, xit (F_X7_step_8b 1) xFU (mm P (xu I 1 6 (nI p)) J) = some r ∧ (∃ I', r = mm P I' J ∧ frS I I' ∧ I' 1 6 = nI f ∧ I' 1 7 = nI e ∧ I' 1 8 = nI (clsK k)) := by
    refine xit_inv (fun j z => ∃ I1, z = mm P I1 J ∧ frS I I1 ∧ I1 1 6 = nI (p + j)) _ (f - p) ⟨_, rfl, f1, xu_self⟩ (fun j z hj hz => ?_) (fun z hz => ?_) (by omega)
    · obtain ⟨I1, rfl, g1, g2⟩ := hz
      left
      have tx := hT.fr g1
      obtain ⟨b1, b2⟩ := tx.2.2 (p + j) (by omega)
      have c1 : ¬ nI n ≤ nI (p + j) := nI_ge (by omega) (by omega)
      have g5 := tx.2.1
      refine ⟨mm P (xu I1 1 6 (nI (p + (j + 1)))) J, ?_, _, rfl, g1.tr (frS.pt (by omega)), xu_self⟩
      unfold F_X7_step_8b F_X7_step_47
      rcases t3 (p + j) (by omega) (by omega) with hb | hb
      · have c2 : sx (b (p + j)) = (10 : Int32) := (sx_eq (d := 10) b1 (by omega)).mpr hb
        simp (disch := omega) only [↓bOR hP, g2, g5, c1, ↓reduceIte, ↓bAR, b2, c2, nI_1]
        rfl
      · have c2 : sx (b (p + j)) = (32 : Int32) := (sx_eq (d := 32) b1 (by omega)).mpr hb
        have c3 : ¬ (32 : Int32) = 10 := by decide
        simp (disch := omega) only [↓bOR hP, g2, g5, c1, ↓reduceIte, ↓bAR, b2, c2, c3, nI_1]
        rfl
    · obtain ⟨I1, rfl, g1, g2⟩ := hz
      rw [show p + (f - p) = f by omega] at g2
      have tx := hT.fr g1
      have g5 := tx.2.1
      obtain ⟨I', k1, k2, k3, k4, k5⟩ := step60 hP (J := J) tx g2 t5 t2
      refine ⟨mm P I' J, ?_, I', rfl, g1.tr k2, k3, k4, k5⟩
      unfold F_X7_step_8b
      by_cases h : f < n
      · obtain ⟨b1, b2⟩ := tx.2.2 f h
        have c1 : ¬ nI n ≤ nI f := nI_ge h (by omega)
        have c2 : ¬ sx (b f) = (10 : Int32) := fun z => t4 h (Or.inl ((sx_eq (d := 10) b1 (by omega)).mp z))
        have c3 : ¬ sx (b f) = (32 : Int32) := fun z => t4 h (Or.inr ((sx_eq (d := 32) b1 (by omega)).mp z))
        simp (disch := omega) only [↓bOR hP, g2, g5, c1, ↓reduceIte, ↓bAR, b2, c2, c3, k1, Option.map_some]
      · have c1 : nI n ≤ nI f := nI_le (by omega) (by omega)
        simp (disch := omega) only [↓bOR hP, g2, g5, c1, ↓reduceIte, k1, Option.map_some]
  obtain ⟨r, k1, I', rfl, k2⟩ := key
  refine ⟨I', ?_, k2⟩
  unfold F_X7_step
  simp only [↓bOR hP, h7]
  exact k1
