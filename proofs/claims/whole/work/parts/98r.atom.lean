/-! ===== atom ===== -/
theorem atom_G {P : Nat → Nat → Option Nat} (hP : GP P) {J : Nat → Nat → Int64} {b : Nat → Nat} {n w : Nat} {wa : Int32} {rc rm rc2 rm2 : Nat → Nat → Int32 → xM → Option xM} (hwa : wa = 0 ∨ wa = 1) (hw : w ≤ 6)
    (h6 : w < 6 → (∀ M, rc 2 1 (nI (w + 1)) M = F_X7_readChoice rc2 1 (nI (w + 1)) M) ∧ SimG P J b n wa (rc 4 1 (nI (w + 1))) (rm 3 164 (nI (w + 1))) (cP (10 + 5 * (w + 1)) false wa) ∧ SimG P J b n wa (rc2 6 1 (nI (w + 1))) (rm2 5 164 (nI (w + 1))) (cP (7 + 5 * (w + 1)) true wa) ∧ SimG P J b n wa (rc2 4 1 (nI (w + 1))) (rm2 3 164 (nI (w + 1))) (cP (10 + 5 * (w + 1)) false wa))
    (hif : ∀ M, rm 2 164 (nI w) M = F_X12_readIf rm2 164 (nI w) M) : SimG P J b n wa (F_X7_readAtom rc 1 (nI w)) (F_X12_readAtom rm 164 (nI w)) (cP (11 + 5 * w + 1) false wa) := by
  refine ⟨fun I K f e k L h hL => ?_, fun I K h => ?_⟩
  · have ps := h.1.pos
    have h1 := h.1.2.2.1
    have h2 := h.1.2.2.2.1
    have c8 := h.1.1.2.2.2.2.2
    have k9 := h.1.2.1.2.2.2.2.2.1
    have nm := name_C hP J h.1.1 h.2.2.1
    have wo := wordOf_M hP J (K := K) ps.2.2.2.1 h.2.2.2 hwa
    have m29 := is_M hP J h.1 (w := 29) 29 rfl (by omega)
    have mwa : wa ∈ [(0 : Int32), 1] := by rcases hwa with rfl | rfl <;> simp
    by_cases k29 : k = 29
    · subst k29
      rw [if_pos rfl] at m29
      have c8' : I 1 8 = (3 : Int32) := c8
      obtain ⟨nc, nl⟩ := num_C hP (J := J) h.1.1
      have k10 := h.1.2.1.2.2.2.2.2.2 rfl
      obtain ⟨o1, o2, o3, o4⟩ := num_code _ nl
      have fe := ps.2.2.2.2.1 (by omega)
      obtain ⟨I1, K1, a1, a2, a3, a4, a5⟩ := emit_Lw hP J h (by omega) (o := nI (numF b f (e - f))) (w := nI (numF b f (e - f))) o1.symm
      obtain ⟨I2, K2, f2, e2, k2, b1, b2, b3, b4, b5, b6⟩ := advL hP J a5
      refine ⟨I2, K2, ?_, ?_, a3.tr b3, a4.tr b4, Or.inr ⟨f2, e2, k2, [nI (numF b f (e - f))], b5, by show 1 + f ≤ f2; omega, cP_one (by omega) (Or.inl ⟨o2, o3⟩) (fun _ => o4)⟩⟩
      · unfold F_X7_readAtom
        simp only [↓bOR hP, h1, ↓reduceIte, ↓bs nm, c8', ↓bs nc, ↓bs a1, ↓bs b1]
      · unfold F_X12_readAtom
        simp only [↓bOM hP, ↓bs m29, one_ne, ↓reduceIte, k10, ↓bs a2, ↓bs b2]
    · rw [if_neg k29] at m29
      have c8' : ¬ nI (clsK k) = (3 : Int32) := fun z => by
        have := (nI_eqI (b := 3) (by have := clsK_lt k; omega) (by omega)).mp z
        unfold clsK at this
        rw [if_neg k29] at this
        split at this
        · omega
        · split at this
          · omega
          · split at this <;> omega
      by_cases hn : nmV k wa = -1
      · rw [hn] at nm wo
        have s40 := sign_C hP (J := J) h.1.1 (s := 40) (j := 5) (by omega) (by decide +kernel)
        have w20 := word_C hP (J := J) h.1.1 (i := 20) (j := 15) (by omega) rfl
        have m37 := is_M hP J h.1 (w := 37) 37 rfl (by omega)
        have m15 := is_M hP J h.1 (w := 15) 15 rfl (by omega)
        by_cases k37 : k = 37
        · rw [if_pos (show k = 32 + 5 by omega)] at s40
          rw [if_pos k37] at m37
          by_cases w6 : w < 6
          · obtain ⟨-, q2, -, -⟩ := h6 w6
            obtain ⟨I1, K1, f1, e1, k1, a1, a2, a3, a4, a5, a6⟩ := deep_yes hP J h (by omega) w6
            obtain ⟨I2, K2, b1, b2, b3, b4, b5⟩ := StP_sub q2 (show L.length ≤ f1 by omega) (StP_in a5)
            obtain ⟨I3, K3, d1, d2, d3, d4, d5⟩ := StP_sign hP (J := J) (s := 41) (w := 38) 6 (by omega) (by decide +kernel) rfl b5
            refine ⟨I3, K3, ?_, ?_, (a3.tr b3).tr d3, (a4.tr b4).tr d4, StP_out d5 (by omega) ?_⟩
            · unfold F_X7_readAtom
              simp only [↓bOR hP, h1, ↓reduceIte, ↓bs nm, c8, c8', ↓bs s40, one_ne, ↓bs a1, nI_1, ↓bs b1, ↓bs d1]
            · have dx := d2 some
              unfold F_X12_readAtom F_X12_readAtom_66
              simp only [↓bOM hP, ↓bs m29, ↓reduceIte, h2, k9, ↓bs wo, ↓bs m37, one_ne, ↓bs a2, nI_1, ↓bs b2]
              exact dx
            · rintro c ⟨c1, c2, rfl, rfl, q⟩
              exact cP_le q (by omega)
          · have ew : w = 6 := by omega
            subst ew
            obtain ⟨I1, K1, a1, a2, a3, a4, a5⟩ := deep_no hP J h.1
            refine ⟨I1, K1, ?_, ?_, a3, a4, Or.inl a5⟩
            · unfold F_X7_readAtom
              simp only [↓bOR hP, h1, ↓reduceIte, ↓bs nm, c8, c8', ↓bs s40, one_ne, ↓bs a1]
            · unfold F_X12_readAtom F_X12_readAtom_66
              simp only [↓bOM hP, ↓bs m29, ↓reduceIte, h2, k9, ↓bs wo, ↓bs m37, one_ne, ↓bs a2]
        · rw [if_neg (show ¬ k = 32 + 5 by omega)] at s40
          rw [if_neg k37] at m37
          by_cases k15 : k = 15
          · rw [if_pos k15] at w20 m15
            by_cases w6 : w < 6
            · obtain ⟨q1, -, q3, q4⟩ := h6 w6
              obtain ⟨I1, K1, f1, e1, k1, a1, a2, a3, a4, a5, a6⟩ := deep_yes hP J h (by omega) w6
              obtain ⟨g, rfl⟩ : ∃ g, f1 = g + 1 := ⟨f1 - 1, by omega⟩
              obtain ⟨I2, K2, b1, b2, b3, b4, b5⟩ := StP_sub q3 (show L.length ≤ g + 1 by omega) (StP_in a5)
              obtain ⟨I3, K3, d1, d2, d3, d4, d5⟩ := StP_word hP (J := J) (i := 24) (w := 16) 16 (by omega) rfl rfl b5
              obtain ⟨I4, K4, e1', e2', e3', e4', e5'⟩ := StP_sub q4 (show L.length ≤ g + 1 by omega) d5
              obtain ⟨I5, K5, g1, g2, g3, g4, g5⟩ := StP_word hP (J := J) (i := 25) (w := 17) 17 (by omega) rfl rfl e5'
              obtain ⟨I6, K6, i1, i2, i3, i4, i5⟩ := StP_sub q4 (show L.length ≤ g + 1 by omega) g5
              obtain ⟨I7, K7, j1, j2, j3, j4, j5⟩ := StP_word hP (J := J) (i := 26) (w := 18) 18 (by omega) rfl rfl i5
              obtain ⟨I8, K8, l1, l2, l3, l4, l5⟩ := StP_emit hP (J := J) (o := 1009) (w := 3009) (by decide) (show L.length ≤ g by omega) j5
              refine ⟨I8, K8, ?_, ?_, (((((((a3.tr b3).tr d3).tr e3').tr g3).tr i3).tr j3).tr l3), (((((((a4.tr b4).tr d4).tr e4').tr g4).tr i4).tr j4).tr l4), StP_out l5 (by omega) ?_⟩
              · have ch : rc 2 1 (nI (w + 1)) (mm P I1 J) = some (mm P I8 J) := by
                  rw [q1]
                  unfold F_X7_readChoice
                  simp only [↓bOR hP, ↓bs b1, ↓bs d1, ↓bs e1', ↓bs g1, ↓bs i1, ↓bs j1, ↓bs l1]
                unfold F_X7_readAtom
                simp only [↓bOR hP, h1, ↓reduceIte, ↓bs nm, c8, c8', ↓bs s40, ↓bs w20, one_ne, ↓bs a1, nI_1, ↓bs ch]
              · have ri : rm 2 164 (nI w) (mm P K J) = some (mm P K8 J) := by
                  rw [hif]
                  unfold F_X12_readIf
                  simp only [↓bOM hP, ↓bs a2, one_ne, ↓reduceIte, nI_1, ↓bs b2]
                  refine (d2 (F_X12_readIf_30 rm2 164 (nI w))).trans ?_
                  unfold F_X12_readIf_30
                  simp only [↓bOM hP, nI_1, ↓bs e2']
                  refine (g2 (F_X12_readIf_51 rm2 164 (nI w))).trans ?_
                  unfold F_X12_readIf_51
                  simp only [↓bOM hP, nI_1, ↓bs i2]
                  refine (j2 (F_X12_readIf_72 rm2 164)).trans ?_
                  unfold F_X12_readIf_72
                  simp only [↓bOM hP, ↓bs l2]
                unfold F_X12_readAtom F_X12_readAtom_66
                simp only [↓bOM hP, ↓bs m29, ↓reduceIte, h2, k9, ↓bs wo, ↓bs m37, ↓bs m15, one_ne, ↓bs ri]
              · rintro c ⟨x, rfl, y1, y2, rfl, ⟨z1, z2, rfl, ⟨v1, v2, rfl, rfl, p1⟩, p2⟩, p3⟩
                refine ⟨by rw [List.length_append]; exact Nat.le_add_left _ _, fun s hs => ?_, fun z x hx => ?_⟩
                · refine run_snoc (t := false :: false :: true :: s) ?_ rfl
                  rw [kindRun_app, kindRun_app]
                  show ((kindRun v2 s).bind (kindRun z2)).bind (kindRun y2) = _
                  rw [p1.2.1 s (by omega), Option.bind_some, p2.2.1 (true :: s) (by show s.length + 1 ≤ _; omega), Option.bind_some, p3.2.1 (false :: true :: s) (by show s.length + 1 + 1 ≤ _; omega)]
                · rcases List.mem_append.mp hx with hx | hx
                  · rcases List.mem_append.mp hx with hx | hx
                    · rcases List.mem_append.mp hx with hx | hx
                      · exact p1.2.2 z x hx
                      · exact p2.2.2 z x hx
                    · exact p3.2.2 z x hx
                  · rw [List.mem_singleton.mp hx]
                    decide
            · have ew : w = 6 := by omega
              subst ew
              obtain ⟨I1, K1, a1, a2, a3, a4, a5⟩ := deep_no hP J h.1
              refine ⟨I1, K1, ?_, ?_, a3, a4, Or.inl a5⟩
              · unfold F_X7_readAtom
                simp only [↓bOR hP, h1, ↓reduceIte, ↓bs nm, c8, c8', ↓bs s40, ↓bs w20, one_ne, ↓bs a1]
              · have ri : rm 2 164 (nI 6) (mm P K J) = some (mm P K1 J) := by
                  rw [hif]
                  unfold F_X12_readIf
                  simp only [↓bOM hP, ↓bs a2, ↓reduceIte]
                unfold F_X12_readAtom F_X12_readAtom_66
                simp only [↓bOM hP, ↓bs m29, ↓reduceIte, h2, k9, ↓bs wo, ↓bs m37, ↓bs m15, one_ne, ↓bs ri]
          · rw [if_neg k15] at w20 m15
            obtain ⟨I1, K1, a1, a2, a3, a4, a5⟩ := fail_St hP J h.1 (w := 2) (by decide)
            refine ⟨I1, K1, ?_, ?_, a3.F, a4.F, Or.inl a5⟩
            · unfold F_X7_readAtom
              simp only [↓bOR hP, h1, ↓reduceIte, ↓bs nm, c8, c8', ↓bs s40, ↓bs w20, ↓bs a1]
            · unfold F_X12_readAtom F_X12_readAtom_66
              simp only [↓bOM hP, ↓bs m29, ↓reduceIte, h2, k9, ↓bs wo, ↓bs m37, ↓bs m15, ↓bs a2]
      · obtain ⟨-, t2, t3, t4, t5, t6⟩ := nm_tab k ps.2.2.2.1 wa mwa hn
        have fe := ps.2.2.2.2.1 t2
        obtain ⟨I1, K1, a1, a2, a3, a4, a5⟩ := emit_Lw hP J h (by omega) (o := (1010 : Int32) + nmV k wa) (w := (1000 : Int32) + nmV k wa) t3.symm
        obtain ⟨I2, K2, f2, e2, k2, b1, b2, b3, b4, b5, b6⟩ := advL hP J a5
        refine ⟨I2, K2, ?_, ?_, a3.tr b3, a4.tr b4, Or.inr ⟨f2, e2, k2, [(1010 : Int32) + nmV k wa], b5, by show 1 + f ≤ f2; omega, cP_one (by omega) (Or.inr ⟨t4, t5⟩) t6⟩⟩
        · unfold F_X7_readAtom
          simp only [↓bOR hP, h1, ↓reduceIte, ↓bs nm, c8, c8', hn, ↓bs a1, ↓bs b1]
        · unfold F_X12_readAtom
          simp only [↓bOM hP, ↓bs m29, ↓reduceIte, h2, k9, ↓bs wo, hn, ↓bs a2, ↓bs b2]
  · have h1 := h.2.1
    have h2 : ¬ K 164 11 = 0 := by rw [← h.2.2.1]; exact h.2.1
    refine ⟨?_, ?_⟩
    · unfold F_X7_readAtom
      simp only [↓bOR hP, h1, ↓reduceIte]
    · unfold F_X12_readAtom F_X12_readAtom_66
      simp only [↓bOM hP, ↓bs (is_Bd hP J h 29), ↓bs (is_Bd hP J h 37), ↓bs (is_Bd hP J h 15), ↓reduceIte, h2, ↓bs (fails_Bd hP J h 2).2]
/-! ===== unit ===== -/
theorem unit_G {P : Nat → Nat → Option Nat} (hP : GP P) {J : Nat → Nat → Int64} {b : Nat → Nat} {n w : Nat} {wa : Int32} {rc rm rc2 : Nat → Nat → Int32 → xM → Option xM} (hw : w ≤ 6)
    (h6 : w < 6 → SimG P J b n wa (rc 7 1 (nI (w + 1))) (rm 6 164 (nI (w + 1))) (cP (9 + 5 * (w + 1)) true wa) ∧ SimG P J b n wa (rc 6 1 (nI (w + 1))) (rm 5 164 (nI (w + 1))) (cP (7 + 5 * (w + 1)) true wa))
    (hc : ∀ M, rc 3 1 (nI w) M = F_X7_readComparison rc2 1 (nI w) M) (sC : SimG P J b n wa (rc2 4 1 (nI w)) (rm 3 164 (nI w)) (cP (10 + 5 * w) false wa)) : SimG P J b n wa (F_X7_readUnit rc 1 (nI w)) (F_X12_readUnit rm 164 (nI w)) (cP (8 + 5 * w + 1) true wa) := by
  refine ⟨fun I K f e k L h hL => ?_, fun I K h => ?_⟩
  · have ps := h.1.pos
    have h1 := h.1.2.2.1
    have w21 := word_C hP (J := J) h.1.1 (i := 21) (j := 26) (by omega) rfl
    have s91 := sign_C hP (J := J) h.1.1 (s := 91) (j := 7) (by omega) (by decide +kernel)
    have m26 := is_M hP J h.1 (w := 26) 26 rfl (by omega)
    have m39 := is_M hP J h.1 (w := 39) 39 rfl (by omega)
    by_cases k26 : k = 26
    · rw [if_pos k26] at w21 m26
      by_cases w6 : w < 6
      · obtain ⟨q1, q2⟩ := h6 w6
        obtain ⟨I1, K1, f1, e1, k1, a1, a2, a3, a4, a5, a6⟩ := deep_yes hP J h (by omega) w6
        obtain ⟨g, rfl⟩ : ∃ g, f1 = g + 1 := ⟨f1 - 1, by omega⟩
        obtain ⟨I2, K2, b1, b2, b3, b4, b5⟩ := StP_sub q1 (show L.length ≤ g + 1 by omega) (StP_in a5)
        obtain ⟨I3, K3, l1, l2, l3, l4, l5⟩ := StP_emit hP (J := J) (o := 1008) (w := 3006) (by decide) (show L.length ≤ g by omega) b5
        refine ⟨I3, K3, ?_, ?_, (a3.tr b3).tr l3, (a4.tr b4).tr l4, StP_out l5 (by omega) ?_⟩
        · unfold F_X7_readUnit
          simp only [↓bOR hP, h1, ↓reduceIte, ↓bs w21, one_ne, ↓bs a1, nI_1, ↓bs b1, ↓bs l1]
        · unfold F_X12_readUnit
          simp only [↓bOM hP, ↓bs m26, one_ne, ↓reduceIte, ↓bs a2, nI_1, ↓bs b2, ↓bs l2]
        · rintro c ⟨x, rfl, c1, c2, rfl, rfl, q⟩
          refine ⟨by rw [List.length_append]; exact Nat.le_add_left _ _, fun s hs => run_snoc (t := true :: s) (q.2.1 s (by omega)) rfl, fun z x hx => ?_⟩
          rcases List.mem_append.mp hx with hx | hx
          · exact q.2.2 z x hx
          · rw [List.mem_singleton.mp hx]
            decide
      · have ew : w = 6 := by omega
        subst ew
        obtain ⟨I1, K1, a1, a2, a3, a4, a5⟩ := deep_no hP J h.1
        refine ⟨I1, K1, ?_, ?_, a3, a4, Or.inl a5⟩
        · unfold F_X7_readUnit
          simp only [↓bOR hP, h1, ↓reduceIte, ↓bs w21, one_ne, ↓bs a1]
        · unfold F_X12_readUnit
          simp only [↓bOM hP, ↓bs m26, one_ne, ↓reduceIte, ↓bs a2]
    · rw [if_neg k26] at w21 m26
      by_cases k39 : k = 39
      · rw [if_pos (show k = 32 + 7 by omega)] at s91
        rw [if_pos k39] at m39
        by_cases w6 : w < 6
        · obtain ⟨q1, q2⟩ := h6 w6
          obtain ⟨I1, K1, f1, e1, k1, a1, a2, a3, a4, a5, a6⟩ := deep_yes hP J h (by omega) w6
          obtain ⟨I2, K2, b1, b2, b3, b4, b5⟩ := StP_sub q2 (show L.length ≤ f1 by omega) (StP_in a5)
          obtain ⟨I3, K3, d1, d2, d3, d4, d5⟩ := StP_sign hP (J := J) (s := 93) (w := 40) 8 (by omega) (by decide +kernel) rfl b5
          refine ⟨I3, K3, ?_, ?_, (a3.tr b3).tr d3, (a4.tr b4).tr d4, StP_out d5 (by omega) ?_⟩
          · unfold F_X7_readUnit
            simp only [↓bOR hP, h1, ↓reduceIte, ↓bs w21, ↓bs s91, one_ne, ↓bs a1, nI_1, ↓bs b1, ↓bs d1]
          · have dx := d2 some
            unfold F_X12_readUnit
            simp only [↓bOM hP, ↓bs m26, ↓bs m39, one_ne, ↓reduceIte, ↓bs a2, nI_1, ↓bs b2]
            exact dx
          · rintro c ⟨c1, c2, rfl, rfl, q⟩
            exact cP_le q (by omega)
        · have ew : w = 6 := by omega
          subst ew
          obtain ⟨I1, K1, a1, a2, a3, a4, a5⟩ := deep_no hP J h.1
          refine ⟨I1, K1, ?_, ?_, a3, a4, Or.inl a5⟩
          · unfold F_X7_readUnit
            simp only [↓bOR hP, h1, ↓reduceIte, ↓bs w21, ↓bs s91, one_ne, ↓bs a1]
          · unfold F_X12_readUnit
            simp only [↓bOM hP, ↓bs m26, ↓bs m39, one_ne, ↓reduceIte, ↓bs a2]
      · rw [if_neg (show ¬ k = 32 + 7 by omega)] at s91
        rw [if_neg k39] at m39
        obtain ⟨I1, K1, a1, a2, a3, a4, a5⟩ := StP_sub sC hL (StP_in h)
        -- what follows the first sum
        have rest : ∃ I' K', F_X7_readComparison rc2 1 (nI w) (mm P I J) = some (mm P I' J) ∧ F_X12_readUnit rm 164 (nI w) (mm P K J) = some (mm P K' J) ∧ FC I I' ∧ FM K K' ∧ (Bd I' K' b n ∨ ∃ f' e' k' c, Lw I' K' b n f' e' k' (L ++ c) wa ∧ c.length + f ≤ f' ∧ cP (8 + 5 * w + 1) true wa c) := by
          rcases a5 with a5 | ⟨f1, e1, k1, c, b1, b2, c1, c2, rfl, rfl, b3⟩
          · have q1 := a5.2.1
            have c55 : ∀ v, F_X7_readComparison_55 rc2 1 (nI w) v (mm P I1 J) = some (mm P I1 J) := fun v => by
              unfold F_X7_readComparison_55
              simp only [↓bOR hP, q1, ↓reduceIte]
            have s2 := (sC.2 I1 K1 a5).2
            refine ⟨I1, K1, ?_, ?_, a3, a4, Or.inl a5⟩
            · obtain ⟨f', e', k', tk⟩ := a5.1
              have t60 := sign_C hP (J := J) tk (s := 60) (j := 10) (by omega) (by decide +kernel)
              have t62 := sign_C hP (J := J) tk (s := 62) (j := 11) (by omega) (by decide +kernel)
              have t61 := sign_C hP (J := J) tk (s := 61) (j := 9) (by omega) (by decide +kernel)
              unfold F_X7_readComparison
              by_cases u1 : k' = 32 + 10
              · rw [if_pos u1] at t60
                simp only [↓bOR hP, ↓bs a1, ↓bs t60, one_ne, ↓reduceIte, c55]
              rw [if_neg u1] at t60
              by_cases u2 : k' = 32 + 11
              · rw [if_pos u2] at t62
                simp only [↓bOR hP, ↓bs a1, ↓bs t60, ↓bs t62, one_ne, ↓reduceIte, c55]
              rw [if_neg u2] at t62
              by_cases u3 : k' = 32 + 9
              · rw [if_pos u3] at t61
                simp only [↓bOR hP, ↓bs a1, ↓bs t60, ↓bs t62, ↓bs t61, one_ne, ↓reduceIte, c55]
              rw [if_neg u3] at t61
              simp only [↓bOR hP, ↓bs a1, ↓bs t60, ↓bs t62, ↓bs t61, ↓reduceIte, ↓bs (fails_Bd hP J a5 2).1, c55]
            · unfold F_X12_readUnit F_X12_readUnit_111 F_X12_readUnit_151
              simp only [↓bOM hP, ↓bs m26, ↓bs m39, ↓reduceIte, ↓bs a2, ↓bs (is_Bd hP J a5 41), ↓bs (is_Bd hP J a5 42), ↓bs (is_Bd hP J a5 43), ↓bs (fails_Bd hP J a5 2).2, ↓bs s2, ↓bs (codes_Bd hP J a5 3005)]
          · rw [List.nil_append] at b1 b2
            have ps1 := b1.1.pos
            have q1 := b1.1.2.2.1
            have t60 := sign_C hP (J := J) b1.1.1 (s := 60) (j := 10) (by omega) (by decide +kernel)
            have t62 := sign_C hP (J := J) b1.1.1 (s := 62) (j := 11) (by omega) (by decide +kernel)
            have t61 := sign_C hP (J := J) b1.1.1 (s := 61) (j := 9) (by omega) (by decide +kernel)
            have m41 := is_M hP J b1.1 (w := 41) 41 rfl (by omega)
            have m42 := is_M hP J b1.1 (w := 42) 42 rfl (by omega)
            have m43 := is_M hP J b1.1 (w := 43) 43 rfl (by omega)
            -- a comparison stands there
            have go : ∀ o mc : Int32, mc = trC o → o < 1012 → (∀ s, kindStep o (false :: false :: s) = some (true :: s)) → k1 ≠ 30 → ∃ I' K', F_X7_readComparison_55 rc2 1 (nI w) o (mm P I1 J) = some (mm P I' J) ∧ F_X12_readUnit_139 rm 164 (nI w) mc (mm P K1 J) = some (mm P K' J) ∧ FC I I' ∧ FM K K' ∧ (Bd I' K' b n ∨ ∃ f' e' k' c, Lw I' K' b n f' e' k' (L ++ c) wa ∧ c.length + f ≤ f' ∧ cP (8 + 5 * w + 1) true wa c) := by
              intro o mc g1 g2 g3 g4
              have fe := ps1.2.2.2.2.1 g4
              obtain ⟨I2, K2, f2, e2, k2, d1, d2, d3, d4, d5, d6⟩ := advL hP J b1
              obtain ⟨I3, K3, i1, i2, i3, i4, i5⟩ := StP_sub sC (show L.length ≤ f + 1 by omega) (show StP b n wa I2 K2 L (f + 1) (fun x => x = c2) from Or.inr ⟨f2, e2, k2, c2, d5, by omega, rfl⟩)
              obtain ⟨I4, K4, l1, l2, l3, l4, l5⟩ := StP_emit hP (J := J) (o := o) (w := mc) g1 hL i5
              refine ⟨I4, K4, ?_, ?_, ((a3.tr d3).tr i3).tr l3, ((a4.tr d4).tr i4).tr l4, StP_out l5 (Nat.le_refl _) ?_⟩
              · unfold F_X7_readComparison_55
                simp only [↓bOR hP, q1, ↓reduceIte, ↓bs d1, ↓bs i1, ↓bs l1]
              · unfold F_X12_readUnit_139 F_X12_readUnit_151
                simp only [↓bOM hP, ↓bs d2, ↓bs i2, ↓bs l2]
              · rintro c ⟨x, rfl, y1, y2, rfl, rfl, p⟩
                rw [List.append_assoc]
                exact cP_bin (cP_le b3 (by omega)) (cP_le p (by omega)) g3 g2
            by_cases u1 : k1 = 42
            · rw [if_pos (show k1 = 32 + 10 by omega)] at t60
              rw [if_neg (show ¬ k1 = 41 by omega)] at m41
              rw [if_pos u1] at m42
              obtain ⟨I', K', x1, x2, x3⟩ := go 1004 3004 (by decide) (by decide) (fun s => rfl) (by omega)
              refine ⟨I', K', ?_, ?_, x3⟩
              · unfold F_X7_readComparison
                simp only [↓bOR hP, ↓bs a1, ↓bs t60, one_ne, ↓reduceIte, x1]
              · unfold F_X12_readUnit F_X12_readUnit_111
                simp only [↓bOM hP, ↓bs m26, ↓bs m39, ↓reduceIte, ↓bs a2, ↓bs m41, ↓bs m42, one_ne, x2]
            rw [if_neg (show ¬ k1 = 32 + 10 by omega)] at t60
            rw [if_neg u1] at m42
            by_cases u2 : k1 = 43
            · rw [if_pos (show k1 = 32 + 11 by omega)] at t62
              rw [if_neg (show ¬ k1 = 41 by omega)] at m41
              rw [if_pos u2] at m43
              obtain ⟨I', K', x1, x2, x3⟩ := go 1005 3005 (by decide) (by decide) (fun s => rfl) (by omega)
              refine ⟨I', K', ?_, ?_, x3⟩
              · unfold F_X7_readComparison
                simp only [↓bOR hP, ↓bs a1, ↓bs t60, ↓bs t62, one_ne, ↓reduceIte, x1]
              · unfold F_X12_readUnit F_X12_readUnit_111
                simp only [↓bOM hP, ↓bs m26, ↓bs m39, ↓reduceIte, ↓bs a2, ↓bs m41, ↓bs m42, ↓bs m43, one_ne, x2]
            rw [if_neg (show ¬ k1 = 32 + 11 by omega)] at t62
            rw [if_neg u2] at m43
            by_cases u3 : k1 = 41
            · rw [if_pos (show k1 = 32 + 9 by omega)] at t61
              rw [if_pos u3] at m41
              obtain ⟨I', K', x1, x2, x3⟩ := go 1003 3003 (by decide) (by decide) (fun s => rfl) (by omega)
              refine ⟨I', K', ?_, ?_, x3⟩
              · unfold F_X7_readComparison
                simp only [↓bOR hP, ↓bs a1, ↓bs t60, ↓bs t62, ↓bs t61, one_ne, ↓reduceIte, x1]
              · unfold F_X12_readUnit F_X12_readUnit_111
                simp only [↓bOM hP, ↓bs m26, ↓bs m39, ↓reduceIte, ↓bs a2, ↓bs m41, one_ne, x2]
            rw [if_neg (show ¬ k1 = 32 + 9 by omega)] at t61
            rw [if_neg u3] at m41
            obtain ⟨I2, K2, x1, x2, x3, x4, x5⟩ := fail_St hP J b1.1 (w := 2) (by decide)
            have q2 := x5.2.1
            have s2 := (sC.2 I2 K2 x5).2
            refine ⟨I2, K2, ?_, ?_, a3.tr x3.F, a4.tr x4.F, Or.inl x5⟩
            · unfold F_X7_readComparison F_X7_readComparison_55
              simp only [↓bOR hP, ↓bs a1, ↓bs t60, ↓bs t62, ↓bs t61, ↓reduceIte, ↓bs x1, q2]
            · unfold F_X12_readUnit F_X12_readUnit_111 F_X12_readUnit_151
              simp only [↓bOM hP, ↓bs m26, ↓bs m39, ↓reduceIte, ↓bs a2, ↓bs m41, ↓bs m42, ↓bs m43, ↓bs x2, ↓bs s2, ↓bs (codes_Bd hP J x5 3005)]
        obtain ⟨I', K', x1, x2, x3⟩ := rest
        refine ⟨I', K', ?_, x2, x3⟩
        have x1' : rc 3 1 (nI w) (mm P I J) = some (mm P I' J) := by rw [hc]; exact x1
        unfold F_X7_readUnit
        simp only [↓bOR hP, h1, ↓reduceIte, ↓bs w21, ↓bs s91, ↓bs x1']
  · have h1 := h.2.1
    have s2 := (sC.2 I K h).2
    refine ⟨?_, ?_⟩
    · unfold F_X7_readUnit
      simp only [↓bOR hP, h1, ↓reduceIte]
    · unfold F_X12_readUnit F_X12_readUnit_111 F_X12_readUnit_151
      simp only [↓bOM hP, ↓bs (is_Bd hP J h 26), ↓bs (is_Bd hP J h 39), ↓bs (is_Bd hP J h 41), ↓bs (is_Bd hP J h 42), ↓bs (is_Bd hP J h 43), ↓reduceIte, ↓bs s2, ↓bs (fails_Bd hP J h 2).2, ↓bs (codes_Bd hP J h 3005)]
