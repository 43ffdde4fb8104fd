theorem sim_colours (a1 : Int32) : xSim INV (F_X11_colours 0 a1) (F_X12_colours 164 a1) := by
  refine xSim_qn fun n M hn hI => ?_
  obtain ⟨P, I, J, rfl, hP⟩ := G_mm hI.1
  obtain ⟨t, c, cs, nx, hw, hL, hA, hc, hC, hD, -⟩ := INV_sh hI
  have h6 := hw.2.2.2.2.2.1.1
  have l6 : I 14 6 = nI (tPapers t).length := hL.2.2.2.2.2.2.1
  have y10 : (10 : Int32).toInt = 10 := by decide
  have z10 : (10 : Int64).toInt = 10 := by decide
  -- the fewest
  have fit6 : ∀ k, k ≤ 6 → ∀ I', LandC (mm P I' J) 14 t → ∃ I2, Fx_X9_fits 122 14 0 (nI k) (mm P I' J) = some (if (fitS t (tPapers t).length k (tPapers t).length 0 (fun _ => 0)).isSome then 1 else 0, mm P I2 J) ∧ (∀ a i, a ≠ 123 → I2 a i = I' a i) ∧ ∀ r, fitS t (tPapers t).length k (tPapers t).length 0 (fun _ => 0) = some r → ∀ q, q < (tPapers t).length → I2 123 q = nI (r q) := by
    intro k hk I' hL'
    obtain ⟨I2, r1, r2, -, r4⟩ := fit_C hP (J := J) hw hk 8 (tPapers t).length 0 (fun _ => 0) I' (by omega) (by omega) hL' (fun q hq => by omega)
    exact ⟨I2, r1, r2, fun r hr q hq => ((r4 r hr).1 q hq).1⟩
  have fitM : ∀ k, k ≤ 6 → ∀ I', LandA (I' 165) 0 t → ∃ I2, Fx_X12_canColour 164 0 (nI k) (mm P I' J) = some (if (fitS t (tPapers t).length k (tPapers t).length 0 (fun _ => 0)).isSome then 1 else 0, mm P I2 J) ∧ (∀ a i, a ≠ 178 → I2 a i = I' a i) ∧ ∀ r, fitS t (tPapers t).length k (tPapers t).length 0 (fun _ => 0) = some r → ∀ q, q < (tPapers t).length → I2 178 q = nI (r q) := by
    intro k hk I' hA'
    obtain ⟨I2, r1, r2, -, r4⟩ := fit_M hP (J := J) hw hk 8 (tPapers t).length 0 (fun _ => 0) I' (by omega) (by omega) hA' (fun q hq => by omega)
    exact ⟨I2, r1, r2, fun r hr q hq => ((r4 r hr).1 q hq).1⟩
  have hall : (fitS t (tPapers t).length (tPapers t).length (tPapers t).length 0 (fun _ => 0)).isSome = true := by
    rw [Option.isSome_iff_ne_none]
    exact fit_n _ _ _ (by omega)
  -- the first that does
  have first : ∃ K, K ≤ (tPapers t).length ∧ (fitS t (tPapers t).length K (tPapers t).length 0 (fun _ => 0)).isSome = true ∧ ∀ k, k < K → (fitS t (tPapers t).length k (tPapers t).length 0 (fun _ => 0)).isSome = false := by
    have gen : ∀ m, (∀ k, k < m → (fitS t (tPapers t).length k (tPapers t).length 0 (fun _ => 0)).isSome = false) ∨ ∃ K, K < m ∧ (fitS t (tPapers t).length K (tPapers t).length 0 (fun _ => 0)).isSome = true ∧ ∀ k, k < K → (fitS t (tPapers t).length k (tPapers t).length 0 (fun _ => 0)).isSome = false := by
      intro m
      induction m with
      | zero => exact Or.inl (fun k hk => by omega)
      | succ m ih =>
        rcases ih with ih | ⟨K, k1, k2, k3⟩
        · cases hm : (fitS t (tPapers t).length m (tPapers t).length 0 (fun _ => 0)).isSome with
          | true => exact Or.inr ⟨m, by omega, hm, ih⟩
          | false =>
            refine Or.inl (fun k hk => ?_)
            by_cases e : k = m
            · rw [e]; exact hm
            · exact ih k (by omega)
        · exact Or.inr ⟨K, by omega, k2, k3⟩
    rcases gen (tPapers t).length with g | ⟨K, k1, k2, k3⟩
    · exact ⟨(tPapers t).length, Nat.le_refl _, hall, g⟩
    · exact ⟨K, by omega, k2, k3⟩
  obtain ⟨K, K1, K2, K3⟩ := first
  obtain ⟨rr, hrr⟩ := Option.isSome_iff_exists.mp K2
  have paint : ∃ I2, F_X9_paint 122 14 (mm P I J) = some (nI K, mm P I2 J) ∧ (∀ a i, a ≠ 123 → I2 a i = I a i) ∧ ∀ q, q < (tPapers t).length → I2 123 q = nI (rr q) := by
    have key : ∃ r : Int32 × xM, xit (F_X9_paint_2b 122 14) xFU (nI 0, mm P I J) = some r ∧ (∃ I2, r = (nI K, mm P I2 J) ∧ (∀ a i, a ≠ 123 → I2 a i = I a i) ∧ ∀ q, q < (tPapers t).length → I2 123 q = nI (rr q)) := by
      refine xit_inv (fun j z => ∃ I2, z = (nI j, mm P I2 J) ∧ (∀ a i, a ≠ 123 → I2 a i = I a i)) _ K ⟨I, rfl, fun _ _ _ => rfl⟩ (fun j z hj hq => ?_) (fun z hq => ?_) (by omega)
      · obtain ⟨I1, rfl, q1⟩ := hq
        left
        have v6 : I1 14 6 = nI (tPapers t).length := by rw [q1 _ _ (by omega)]; exact l6
        have c1 : ¬ nI (tPapers t).length ≤ nI j := nI_ge (by omega) (by omega)
        obtain ⟨I2, e1, e2, -⟩ := fit6 j (by omega) I1 (LandC_I (fun a i _ _ => q1 a i (by omega)) hL)
        rw [K3 j hj] at e1
        refine ⟨(nI (j + 1), mm P I2 J), ?_, I2, rfl, fun a i h => by rw [e2 a i h, q1 a i h]⟩
        simp only [F_X9_paint_2b, ↓bOC hP, v6, ↓reduceIte, c1, ↓bOX hP, ↓bs e1, Bool.false_eq_true, nI_1]
      · obtain ⟨I1, rfl, q1⟩ := hq
        have v6 : I1 14 6 = nI (tPapers t).length := by rw [q1 _ _ (by omega)]; exact l6
        obtain ⟨I2, e1, e2, e3⟩ := fit6 K (by omega) I1 (LandC_I (fun a i _ _ => q1 a i (by omega)) hL)
        rw [K2] at e1
        by_cases hK : K = (tPapers t).length
        · have c1 : nI (tPapers t).length ≤ nI (tPapers t).length := nI_le (Nat.le_refl _) (by omega)
          have v6' : I2 14 6 = nI (tPapers t).length := by rw [e2 _ _ (by omega)]; exact v6
          have e1' : Fx_X9_fits 122 14 0 (nI (tPapers t).length) (mm P I1 J) = some (if true = true then 1 else 0, mm P I2 J) := by rw [← hK]; exact e1
          refine ⟨(nI K, mm P I2 J), ?_, I2, rfl, fun a i h => by rw [e2 a i h, q1 a i h], e3 rr hrr⟩
          simp only [F_X9_paint_2b, F_X9_paint_28, ↓bOC hP, v6, ↓reduceIte, c1, ↓bOX hP, ↓bs e1', v6', Option.map_some, hK]
        · have c1 : ¬ nI (tPapers t).length ≤ nI K := nI_ge (by omega) (by omega)
          refine ⟨(nI K, mm P I2 J), ?_, I2, rfl, fun a i h => by rw [e2 a i h, q1 a i h], e3 rr hrr⟩
          simp only [F_X9_paint_2b, F_X9_paint_20, ↓bOC hP, v6, ↓reduceIte, c1, ↓bOX hP, ↓bs e1, one_ne, Option.map_some]
    obtain ⟨r, h1, I2, rfl, h2⟩ := key
    exact ⟨I2, h1, h2⟩
  obtain ⟨I1, p1, p2, p3⟩ := paint
  have model : ∀ I', (∀ i, I' 165 i = I 165 i) → ∃ I2, F_X12_colours_33 164 a1 (mm P I' J) = F_X12_colours_50 164 a1 (nI K) (mm P I2 J) ∧ (∀ a i, a ≠ 178 → I2 a i = I' a i) ∧ ∀ q, q < (tPapers t).length → I2 178 q = nI (rr q) := by
    intro I' e165
    have run : ∀ d j fuel, j + d = K → d < fuel → ∀ I3, (∀ a i, a ≠ 178 → I3 a i = I' a i) → ∃ I2, xit (F_X12_colours_35b 164 a1) fuel (nI j, mm P I3 J) = F_X12_colours_50 164 a1 (nI K) (mm P I2 J) ∧ (∀ a i, a ≠ 178 → I2 a i = I' a i) ∧ ∀ q, q < (tPapers t).length → I2 178 q = nI (rr q) := by
      intro d
      induction d with
      | zero =>
        intro j fuel hj hf I3 q1
        obtain ⟨fu, rfl⟩ : ∃ fu, fuel = fu + 1 := ⟨fuel - 1, by omega⟩
        have ej : j = K := by omega
        subst ej
        obtain ⟨I2, e1, e2, e3⟩ := fitM j (by omega) I3 (LandA_cg (A := I 165) hw (fun x _ => by rw [q1 _ _ (by omega), e165]) hA)
        rw [K2] at e1
        refine ⟨I2, ?_, fun a i h => by rw [e2 a i h, q1 a i h], e3 rr hrr⟩
        have st : F_X12_colours_35b 164 a1 (nI j, mm P I3 J) = (F_X12_colours_50 164 a1 (nI j) (mm P I2 J)).map Sum.inr := by
          simp only [F_X12_colours_35b, ↓bOM hP, ↓bs e1, ↓reduceIte, one_ne]
        unfold xit
        rw [st]
        cases F_X12_colours_50 164 a1 (nI j) (mm P I2 J) <;> rfl
      | succ d ih =>
        intro j fuel hj hf I3 q1
        obtain ⟨fu, rfl⟩ : ∃ fu, fuel = fu + 1 := ⟨fuel - 1, by omega⟩
        obtain ⟨I2, e1, e2, -⟩ := fitM j (by omega) I3 (LandA_cg (A := I 165) hw (fun x _ => by rw [q1 _ _ (by omega), e165]) hA)
        rw [K3 j (by omega)] at e1
        have st : F_X12_colours_35b 164 a1 (nI j, mm P I3 J) = some (.inl (nI (j + 1), mm P I2 J)) := by
          simp only [F_X12_colours_35b, ↓bOM hP, ↓bs e1, Bool.false_eq_true, ↓reduceIte, nI_1]
        unfold xit
        rw [st]
        exact ih (j + 1) fu (by omega) (by omega) I2 (fun a i h => by rw [e2 a i h, q1 a i h])
    exact run K 0 xFU (by omega) (by unfold xFU; omega) I' (fun _ _ _ => rfl)
  have e165 : ∀ i, xu I1 164 0 0 165 i = I 165 i := fun i => by rw [xu_o (by omega), p2 165 i (by omega)]
  obtain ⟨I2, m1, m2, m3⟩ := model (xu I1 164 0 0) e165
  have S1 : Sc (mm P I J) (mm P I1 J) := Sc_mm (fun k i g => p2 k i (fun z => g (by unfold scr; omega))) (fun _ _ _ => rfl)
  have S2 : Sc (mm P I1 J) (mm P I2 J) := Sc_mm (fun k i g => by rw [m2 k i (fun z => g (by unfold scr; omega)), xu_o (fun z => g (by unfold scr; omega))]) (fun _ _ _ => rfl)
  have a5 : xu I1 164 0 0 165 5 = nI (tPapers t).length := by rw [e165]; exact hA.2.2.2.2.2.1
  by_cases h0 : a1 = 0
  · subst h0
    refine ⟨nI K, mm P I1 J, mm P I2 J, ?_, S1, ?_, S2⟩
    · simp only [F_X11_colours, F_X11_colours_27, ↓reduceIte, ↓bOC hP, ↓bOX hP, ↓bs p1]
    · simp only [F_X12_colours, ↓bOM hP, ↓reduceIte, m1, F_X12_colours_50]
  · have e9 : (9 : Int32) + nI (tPapers t).length = nI (9 + (tPapers t).length) := nI_add 9 _
    have eL : (nI (9 + (tPapers t).length)).toInt64.toInt = ((9 + (tPapers t).length : Nat) : Int) := by rw [Int32.toInt_toInt64, nI_toInt (by omega)]
    by_cases h : 10 ≤ a1.toInt ∧ a1.toInt ≤ ((9 + (tPapers t).length : Nat) : Int)
    · obtain ⟨w, hw2, rfl⟩ := cell_of (a := a1) (n := 10 + (tPapers t).length) (by omega) (by omega)
      have hw10 : 10 ≤ w := by
        have := h.1
        rw [nI_toInt (by omega)] at this
        omega
      have sb : nI w - (10 : Int32) = nI (w - 10) := pk_sub (b := 10) (by omega)
      have c1 : ¬ nI w < (10 : Int32) := nI_nlt (b := 10) (by omega) (by omega)
      have c2 : nI (w - 10) < nI (tPapers t).length := nI_lt (by omega) (by omega)
      have v1 := p3 (w - 10) (by omega)
      have v2 := m3 (w - 10) (by omega)
      refine ⟨nI (rr (w - 10)), mm P I1 J, mm P I2 J, ?_, S1, ?_, S2⟩
      · unfold F_X11_colours F_X11_colours_27
        simp only [sb]
        simp (disch := omega) only [↓reduceIte, h0, c1, ↓bOC hP, ↓bOX hP, ↓bAX, l6, c2, ↓bs p1, v1]
      · unfold F_X12_colours
        simp only [↓bOM hP, ↓bAM, ↓reduceIte, h0, a5]
        simp only [e9, within_lit, z10, eL, h, and_self, ↓reduceIte, ↓Option.bind_some, one_ne, m1]
        unfold F_X12_colours_50
        simp only [sb]
        simp (disch := omega) only [↓reduceIte, h0, ↓bOM hP, ↓bAM, v2]
    · refine ⟨-2, mm P I J, thr (mm P I J), ?_, Sc.rf, ?_, thr_Sc⟩
      · unfold F_X11_colours
        simp only [h0, ↓reduceIte]
        by_cases h1 : a1 < (10 : Int32)
        · rw [if_pos h1]
        · have h2 : ¬ a1.toInt < (10 : Int32).toInt := fun z => h1 (Int32.lt_iff_toInt_lt.mpr z)
          rw [if_neg h1]
          simp only [↓bOC hP, l6]
          obtain ⟨x, hx, rfl⟩ := nI_of (x := a1) (fun z => by have := toInt_neg z; omega)
          rw [nI_toInt hx] at h h2
          have sb : nI x - (10 : Int32) = nI (x - 10) := pk_sub (b := 10) (by omega)
          rw [sb, if_neg (nI_nlt (by omega) (by omega))]
      · have a5' : xu I 164 0 0 165 5 = nI (tPapers t).length := by rw [xu_o (by omega)]; exact hA.2.2.2.2.2.1
        unfold F_X12_colours
        simp only [↓bOM hP, ↓bAM, ↓reduceIte, h0, a5']
        simp only [e9, within_lit, z10, eL, if_neg h, ↓reduceIte, ↓Option.bind_some, thr_mm]
