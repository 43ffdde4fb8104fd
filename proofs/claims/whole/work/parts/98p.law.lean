/-! ===== pieces of a law, one behind the other ===== -/
def StP (b : Nat → Nat) (n : Nat) (wa : Int32) (I K : Nat → Nat → Int32) (L : List Int32) (fo : Nat) (PP : List Int32 → Prop) : Prop := Bd I K b n ∨ ∃ f e k c, Lw I K b n f e k (L ++ c) wa ∧ c.length + fo ≤ f ∧ PP c
theorem StP_sub {P : Nat → Nat → Option Nat} {J : Nat → Nat → Int64} {b : Nat → Nat} {n : Nat} {wa : Int32} {fc fm : xM → Option xM} {PC PP : List Int32 → Prop} {I K : Nat → Nat → Int32} {L : List Int32} {fo : Nat} (g : SimG P J b n wa fc fm PC) (hL : L.length ≤ fo) (h : StP b n wa I K L fo PP) :
    ∃ I' K', fc (mm P I J) = some (mm P I' J) ∧ fm (mm P K J) = some (mm P K' J) ∧ FC I I' ∧ FM K K' ∧ StP b n wa I' K' L fo (fun c => ∃ c1 c2, c = c1 ++ c2 ∧ PP c1 ∧ PC c2) := by
  rcases h with h | ⟨f, e, k, c, h1, h2, h3⟩
  · obtain ⟨a1, a2⟩ := g.2 I K h
    exact ⟨I, K, a1, a2, FC.rf, FM.rf, Or.inl h⟩
  · have len : (L ++ c).length = L.length + c.length := List.length_append
    obtain ⟨I', K', a1, a2, a3, a4, a5⟩ := g.1 I K f e k _ h1 (by omega)
    refine ⟨I', K', a1, a2, a3, a4, ?_⟩
    rcases a5 with a5 | ⟨f', e', k', c2, b1, b2, b3⟩
    · exact Or.inl a5
    · rw [List.append_assoc] at b1
      have len2 : (c ++ c2).length = c.length + c2.length := List.length_append
      exact Or.inr ⟨f', e', k', c ++ c2, b1, by omega, c, c2, rfl, h3, b3⟩
theorem StP_word {P : Nat → Nat → Option Nat} (hP : GP P) {J : Nat → Nat → Int64} {b : Nat → Nat} {n : Nat} {wa : Int32} {PP : List Int32 → Prop} {I K : Nat → Nat → Int32} {L : List Int32} {fo i : Nat} {w : Int32} (j : Nat) (hj : j < 27) (hi : kS j = i) (hw : w = nI j) (h : StP b n wa I K L fo PP) :
    ∃ I' K', F_X7_expectWord 1 i (mm P I J) = some (mm P I' J) ∧ (∀ X : xM → Option xM, ((F_X12_eats 164 w (mm P K J)).bind fun t => if t.1 = 0 then (xck t.2 164 12).bind fun _ => (F_X12_fails 164 2 t.2).bind fun t8 => X t8 else X t.2) = X (mm P K' J)) ∧ FC I I' ∧ FM K K' ∧ StP b n wa I' K' L fo PP := by
  rcases h with h | ⟨f, e, k, c, h1, h2, h3⟩
  · refine ⟨I, K, exW_Bd hP J h i, fun X => ?_, FC.rf, FM.rf, Or.inl h⟩
    simp only [↓bs (eats_Bd hP J h w), ↓reduceIte, ↓bOM hP, ↓bs (fails_Bd hP J h 2).2]
  · rcases exW_St hP J h1.1 j hj hi hw with ⟨-, I', K', f', e', k', a1, a2, a3, a4, a5, a6⟩ | ⟨I', K', a1, a2, a3, a4, a5, a6⟩
    · refine ⟨I', K', a1, fun X => ?_, a3.F, a4.F, Or.inr ⟨f', e', k', c, h1.of a3 a4 a5, by omega, h3⟩⟩
      simp only [↓bs a2, one_ne, ↓reduceIte]
    · refine ⟨I', K', a1, fun X => ?_, a4.F, a5.F, Or.inl a6⟩
      simp only [↓bs a2, ↓reduceIte, ↓bOM hP, ↓bs a3]
theorem StP_sign {P : Nat → Nat → Option Nat} (hP : GP P) {J : Nat → Nat → Int64} {b : Nat → Nat} {n : Nat} {wa : Int32} {PP : List Int32 → Prop} {I K : Nat → Nat → Int32} {L : List Int32} {fo : Nat} {s w : Int32} (j : Nat) (hj : j < 12) (hs : s = nI (sCh 0 j)) (hw : w = nI (32 + j)) (h : StP b n wa I K L fo PP) :
    ∃ I' K', F_X7_expectSign 1 s (mm P I J) = some (mm P I' J) ∧ (∀ X : xM → Option xM, ((F_X12_eats 164 w (mm P K J)).bind fun t => if t.1 = 0 then (xck t.2 164 12).bind fun _ => (F_X12_fails 164 2 t.2).bind fun t8 => X t8 else X t.2) = X (mm P K' J)) ∧ FC I I' ∧ FM K K' ∧ StP b n wa I' K' L fo PP := by
  rcases h with h | ⟨f, e, k, c, h1, h2, h3⟩
  · refine ⟨I, K, exS_Bd hP J h s, fun X => ?_, FC.rf, FM.rf, Or.inl h⟩
    simp only [↓bs (eats_Bd hP J h w), ↓reduceIte, ↓bOM hP, ↓bs (fails_Bd hP J h 2).2]
  · rcases exS_St hP J h1.1 j hj hs hw with ⟨-, I', K', f', e', k', a1, a2, a3, a4, a5, a6⟩ | ⟨I', K', a1, a2, a3, a4, a5, a6⟩
    · refine ⟨I', K', a1, fun X => ?_, a3.F, a4.F, Or.inr ⟨f', e', k', c, h1.of a3 a4 a5, by omega, h3⟩⟩
      simp only [↓bs a2, one_ne, ↓reduceIte]
    · refine ⟨I', K', a1, fun X => ?_, a4.F, a5.F, Or.inl a6⟩
      simp only [↓bs a2, ↓reduceIte, ↓bOM hP, ↓bs a3]
theorem StP_emit {P : Nat → Nat → Option Nat} (hP : GP P) {J : Nat → Nat → Int64} {b : Nat → Nat} {n : Nat} {wa : Int32} {PP : List Int32 → Prop} {I K : Nat → Nat → Int32} {L : List Int32} {fo : Nat} {o w : Int32} (hw : w = trC o) (hL : L.length ≤ fo) (h : StP b n wa I K L (fo + 1) PP) :
    ∃ I' K', F_X3_emit 3 o (mm P I J) = some (mm P I' J) ∧ F_X12_codes 164 w (mm P K J) = some (mm P K' J) ∧ FC I I' ∧ FM K K' ∧ StP b n wa I' K' L fo (fun c => ∃ c1, c = c1 ++ [o] ∧ PP c1) := by
  rcases h with h | ⟨f, e, k, c, h1, h2, h3⟩
  · obtain ⟨I', a1, a2, a3⟩ := emit_Bd hP J h o
    exact ⟨I', K, a1, codes_Bd hP J h w, a2, FM.rf, Or.inl a3⟩
  · have len : (L ++ c).length = L.length + c.length := List.length_append
    have ps := h1.1.pos
    obtain ⟨I', K', a1, a2, a3, a4, a5⟩ := emit_Lw hP J h1 (by omega) hw
    rw [List.append_assoc] at a5
    have len2 : (c ++ [o]).length = c.length + 1 := by rw [List.length_append]; rfl
    exact ⟨I', K', a1, a2, a3, a4, Or.inr ⟨f, e, k, _, a5, by omega, c, rfl, h3⟩⟩
theorem StP_out {b : Nat → Nat} {n : Nat} {wa : Int32} {PP PC : List Int32 → Prop} {I K : Nat → Nat → Int32} {L : List Int32} {fo f : Nat} (h : StP b n wa I K L fo PP) (hf : f ≤ fo) (hp : ∀ c, PP c → PC c) : Bd I K b n ∨ ∃ f' e' k' c, Lw I K b n f' e' k' (L ++ c) wa ∧ c.length + f ≤ f' ∧ PC c := by
  rcases h with h | ⟨f', e', k', c, h1, h2, h3⟩
  · exact Or.inl h
  · exact Or.inr ⟨f', e', k', c, h1, by omega, hp c h3⟩
theorem StP_in {b : Nat → Nat} {n : Nat} {wa : Int32} {I K : Nat → Nat → Int32} {L : List Int32} {f e k : Nat} (h : Lw I K b n f e k L wa) : StP b n wa I K L f (fun c => c = []) := Or.inr ⟨f, e, k, [], by rw [List.append_nil]; exact h, by simp, rfl⟩
/-! ===== deeper ===== -/
theorem deep_yes {P : Nat → Nat → Option Nat} (hP : GP P) {I K : Nat → Nat → Int32} (J : Nat → Nat → Int64) {b : Nat → Nat} {n f e k w : Nat} {L : List Int32} {wa : Int32} (h : Lw I K b n f e k L wa) (hk : k ≠ 30) (hw : w < 6) :
    ∃ I' K' f' e' k', F_X7_goesDeeper 1 (nI w) (mm P I J) = some (1, mm P I' J) ∧ F_X12_goesIn 164 (nI w) (mm P K J) = some (1, mm P K' J) ∧ FC I I' ∧ FM K K' ∧ Lw I' K' b n f' e' k' L wa ∧ f + 1 ≤ f' := by
  have ps := h.1.pos
  obtain ⟨I', K', f', e', k', a1, a2, a3, a4, a5, a6⟩ := advL hP J h
  have h2 := h.1.2.2.2.1
  have h2' := a5.1.2.2.2.1
  have c1 : nI w < (6 : Int32) := nI_lt (b := 6) hw (by omega)
  have c2 : ¬ nI w = (6 : Int32) := fun z => by have := (nI_eqI (b := 6) (by omega) (by omega)).mp z; omega
  refine ⟨I', K', f', e', k', ?_, ?_, a3, a4, a5, by have := ps.2.2.2.2.1 hk; omega⟩
  · unfold F_X7_goesDeeper
    simp only [c1, ↓reduceIte, ↓bOR hP, ↓bs a1, xz1, Option.bind_some]
  · unfold F_X12_goesIn F_X12_goesIn_11 F_X12_goesIn_22
    simp only [c2, ↓reduceIte, ↓bOM hP, h2, ↓bs a2, h2', xz1, Option.bind_some]
theorem deep_no {P : Nat → Nat → Option Nat} (hP : GP P) {I K : Nat → Nat → Int32} (J : Nat → Nat → Int64) {b : Nat → Nat} {n f e k : Nat} (h : St I K b n f e k) :
    ∃ I' K', F_X7_goesDeeper 1 (nI 6) (mm P I J) = some (0, mm P I' J) ∧ F_X12_goesIn 164 (nI 6) (mm P K J) = some (0, mm P K' J) ∧ FC I I' ∧ FM K K' ∧ Bd I' K' b n := by
  obtain ⟨I', K', a1, a2, a3, a4, a5⟩ := fail_St hP J h (w := 4) (by decide)
  have h2 : ¬ K' 164 11 = 0 := by rw [← a5.2.2.1]; exact a5.2.1
  have c1 : ¬ nI 6 < (6 : Int32) := by decide
  have c2 : nI 6 = (6 : Int32) := rfl
  refine ⟨I', K', ?_, ?_, a3.F, a4.F, a5⟩
  · unfold F_X7_goesDeeper
    simp only [c1, ↓reduceIte, ↓bOR hP, ↓bs a1, xz0, Option.bind_some]
  · unfold F_X12_goesIn F_X12_goesIn_11 F_X12_goesIn_22
    simp only [c2, ↓reduceIte, ↓bOM hP, ↓bs a2, h2, xz0, Option.bind_some]
/-! ===== names ===== -/
def nmV (k : Nat) (wa : Int32) : Int32 := if k = 19 then 0 else if k = 11 then 1 else if wa = 0 then -1 else if k = 20 then 2 else if k = 21 then 3 else if k = 22 then 4 else if k = 23 then 5 else -1
theorem name_C {P : Nat → Nat → Option Nat} (hP : GP P) {I : Nat → Nat → Int32} (J : Nat → Nat → Int64) {b : Nat → Nat} {n f e k : Nat} {wa : Int32} (hC : TkC I b n f e k) (hw : I 1 10 = wa) : F_X7_nameHere 1 (mm P I J) = some (nmV k wa, mm P I J) := by
  have w15 := word_C hP (J := J) hC (i := 15) (j := 19) (by omega) rfl
  have w12 := word_C hP (J := J) hC (i := 12) (j := 11) (by omega) rfl
  have w16 := word_C hP (J := J) hC (i := 16) (j := 20) (by omega) rfl
  have w17 := word_C hP (J := J) hC (i := 17) (j := 21) (by omega) rfl
  have w18 := word_C hP (J := J) hC (i := 18) (j := 22) (by omega) rfl
  have w19 := word_C hP (J := J) hC (i := 19) (j := 23) (by omega) rfl
  unfold F_X7_nameHere nmV
  by_cases h1 : k = 19
  · rw [if_pos h1] at w15
    simp only [↓bOR hP, ↓bs w15, one_ne, ↓reduceIte, if_pos h1]
  rw [if_neg h1] at w15
  by_cases h2 : k = 11
  · rw [if_pos h2] at w12
    simp only [↓bOR hP, ↓bs w15, ↓bs w12, one_ne, ↓reduceIte, if_neg h1, if_pos h2]
  rw [if_neg h2] at w12
  by_cases h3 : wa = 0
  · simp only [↓bOR hP, ↓bs w15, ↓bs w12, hw, ↓reduceIte, if_neg h1, if_neg h2, if_pos h3]
  by_cases h4 : k = 20
  · rw [if_pos h4] at w16
    simp only [↓bOR hP, ↓bs w15, ↓bs w12, hw, ↓bs w16, one_ne, ↓reduceIte, if_neg h1, if_neg h2, if_neg h3, if_pos h4]
  rw [if_neg h4] at w16
  by_cases h5 : k = 21
  · rw [if_pos h5] at w17
    simp only [↓bOR hP, ↓bs w15, ↓bs w12, hw, ↓bs w16, ↓bs w17, one_ne, ↓reduceIte, if_neg h1, if_neg h2, if_neg h3, if_neg h4, if_pos h5]
  rw [if_neg h5] at w17
  by_cases h6 : k = 22
  · rw [if_pos h6] at w18
    simp only [↓bOR hP, ↓bs w15, ↓bs w12, hw, ↓bs w16, ↓bs w17, ↓bs w18, one_ne, ↓reduceIte, if_neg h1, if_neg h2, if_neg h3, if_neg h4, if_neg h5, if_pos h6]
  rw [if_neg h6] at w18
  by_cases h7 : k = 23
  · rw [if_pos h7] at w19
    simp only [↓bOR hP, ↓bs w15, ↓bs w12, hw, ↓bs w16, ↓bs w17, ↓bs w18, ↓bs w19, one_ne, ↓reduceIte, if_neg h1, if_neg h2, if_neg h3, if_neg h4, if_neg h5, if_neg h6, if_pos h7]
  rw [if_neg h7] at w19
  simp only [↓bOR hP, ↓bs w15, ↓bs w12, hw, ↓bs w16, ↓bs w17, ↓bs w18, ↓bs w19, ↓reduceIte, if_neg h1, if_neg h2, if_neg h3, if_neg h4, if_neg h5, if_neg h6, if_neg h7]
theorem wordOf_M {P : Nat → Nat → Option Nat} (hP : GP P) {K : Nat → Nat → Int32} (J : Nat → Nat → Int64) {k : Nat} {wa : Int32} (hk : k < 44) (hw : K 164 15 = wa) (hwa : wa = 0 ∨ wa = 1) : F_X12_wordOf 164 (nI k) (mm P K J) = some (nmV k wa, mm P K J) := by
  have t : ∀ k, k < 44 → ∀ wa ∈ [(0 : Int32), 1], (if nI k = (11 : Int32) then (1 : Int32) else if nI k = (19 : Int32) then 0 else if wa = (1 : Int32) then (if nI k < (20 : Int32) then -1 else if (23 : Int32) < nI k then -1 else ((2 : Int32) + nI k) - (20 : Int32)) else -1) = nmV k wa := by decide +kernel
  have e := t k hk wa (by rcases hwa with rfl | rfl <;> simp)
  rw [← e]
  unfold F_X12_wordOf F_X12_wordOf_61
  by_cases h1 : nI k = (11 : Int32)
  · simp only [h1, ↓reduceIte]
  by_cases h2 : nI k = (19 : Int32)
  · simp only [if_neg h1, if_pos h2]
  by_cases h3 : wa = (1 : Int32)
  · by_cases h4 : nI k < (20 : Int32)
    · simp only [if_neg h1, if_neg h2, ↓bOM hP, hw, if_pos h3, if_pos h4]
    by_cases h5 : (23 : Int32) < nI k
    · simp only [if_neg h1, if_neg h2, ↓bOM hP, hw, if_pos h3, if_neg h4, if_pos h5]
    simp only [if_neg h1, if_neg h2, ↓bOM hP, hw, if_pos h3, if_neg h4, if_neg h5]
  simp only [if_neg h1, if_neg h2, ↓bOM hP, hw, if_neg h3]
theorem nm_tab : ∀ k, k < 44 → ∀ wa ∈ [(0 : Int32), 1], ¬ nmV k wa = -1 → k ≠ 29 ∧ k ≠ 30 ∧ trC ((1010 : Int32) + nmV k wa) = (1000 : Int32) + nmV k wa ∧ (1010 : Int32) ≤ (1010 : Int32) + nmV k wa ∧ (1010 : Int32) + nmV k wa < 1016 ∧ (wa = 0 → (1010 : Int32) + nmV k wa < 1012) := by decide +kernel
/-- one order that puts a number there -/
theorem cP_one {bd : Nat} {wa o : Int32} (hb : bd < 60) (ho : 0 ≤ o ∧ o < 1000 ∨ 1010 ≤ o ∧ o < 1016) (hw : wa = 0 → o < 1012) : cP bd false wa [o] := by
  refine ⟨Nat.le_refl _, fun s hs => ?_, fun z x hx => by rw [List.mem_singleton.mp hx]; exact hw z⟩
  show (kindStep o s).bind (kindRun []) = some (false :: s)
  unfold kindStep
  rw [if_pos ho, if_pos (by omega)]
  rfl
theorem num_code : ∀ v, v < 1000 → trC (nI v) = nI v ∧ (0 : Int32) ≤ nI v ∧ nI v < 1000 ∧ nI v < 1012 := fun v hv => by
  have h1 : nI v < (1000 : Int32) := nI_lt (b := 1000) hv (by omega)
  exact ⟨if_pos h1, nI_pos' (by omega), h1, nI_lt (b := 1012) (by omega) (by omega)⟩
