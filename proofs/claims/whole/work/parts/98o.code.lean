/-! ===== two loops side by side ===== -/
theorem xit_sim {σ ρ σ' ρ' : Type} {f : σ → Option (σ ⊕ ρ)} {g : σ' → Option (σ' ⊕ ρ')} (Q : Nat → σ → σ' → Prop) (R : ρ → ρ' → Prop) (N : Nat)
    (hs : ∀ j s s', Q j s s' → (j < N ∧ ∃ t t', f s = some (.inl t) ∧ g s' = some (.inl t') ∧ Q (j + 1) t t') ∨ ∃ r r', f s = some (.inr r) ∧ g s' = some (.inr r') ∧ R r r') (hN : N < 1000000) {s0 : σ} {s0' : σ'} (h0 : Q 0 s0 s0') :
    ∃ r r', xit f xFU s0 = some r ∧ xit g xFU s0' = some r' ∧ R r r' := by
  have key : ∀ d j fuel s s', j + d = N → d < fuel → Q j s s' → ∃ r r', xit f fuel s = some r ∧ xit g fuel s' = some r' ∧ R r r' := by
    intro d
    induction d with
    | zero =>
      intro j fuel s s' h1 h2 hq
      obtain ⟨m, rfl⟩ : ∃ m, fuel = m + 1 := ⟨fuel - 1, by omega⟩
      rcases hs j s s' hq with ⟨z, -⟩ | ⟨r, r', a1, a2, a3⟩
      · omega
      · exact ⟨r, r', by unfold xit; rw [a1], by unfold xit; rw [a2], a3⟩
    | succ d ih =>
      intro j fuel s s' h1 h2 hq
      obtain ⟨m, rfl⟩ : ∃ m, fuel = m + 1 := ⟨fuel - 1, by omega⟩
      rcases hs j s s' hq with ⟨z, t, t', a1, a2, a3⟩ | ⟨r, r', a1, a2, a3⟩
      · obtain ⟨r, r', b1, b2, b3⟩ := ih (j + 1) m t t' (by omega) (by omega) a3
        exact ⟨r, r', by unfold xit; rw [a1]; exact b1, by unfold xit; rw [a2]; exact b2, b3⟩
      · exact ⟨r, r', by unfold xit; rw [a1], by unfold xit; rw [a2], a3⟩
  exact key N 0 xFU s0 s0' (by omega) hN h0
/-! ===== codes ===== -/
def CodeL (I K : Nat → Nat → Int32) (L : List Int32) : Prop := I 3 7 = nI L.length ∧ K 168 519 = nI L.length ∧ ∀ (j : Nat) (o : Int32), L[j]? = some o → I 9 j = o ∧ K 168 (520 + j) = trC o
theorem CodeL.fr {I I' K K' : Nat → Nat → Int32} {L : List Int32} (h : CodeL I K L) (g1 : I' 3 7 = I 3 7) (g2 : ∀ i, I' 9 i = I 9 i) (g3 : ∀ i, K' 168 i = K 168 i) : CodeL I' K' L := ⟨by rw [g1]; exact h.1, by rw [g3]; exact h.2.1, fun j o hj => by rw [g2, g3]; exact h.2.2 j o hj⟩
def Lw (I K : Nat → Nat → Int32) (b : Nat → Nat) (n f e k : Nat) (L : List Int32) (wa : Int32) : Prop := St I K b n f e k ∧ CodeL I K L ∧ I 1 10 = wa ∧ K 164 15 = wa
def FC (I I' : Nat → Nat → Int32) : Prop := ∀ a i, ¬ (a = 1 ∧ (i = 2 ∨ i = 3 ∨ i = 6 ∨ i = 7 ∨ i = 8)) → ¬ (a = 3 ∧ i = 7) → a ≠ 9 → I' a i = I a i
def FM (K K' : Nat → Nat → Int32) : Prop := ∀ a i, ¬ (a = 164 ∧ (i = 6 ∨ i = 7 ∨ i = 9 ∨ i = 10 ∨ i = 11 ∨ i = 12)) → ¬ (a = 168 ∧ 519 ≤ i) → K' a i = K a i
theorem FC.rf {I : Nat → Nat → Int32} : FC I I := fun _ _ _ _ _ => rfl
theorem FC.tr {I I1 I2 : Nat → Nat → Int32} (h : FC I I1) (g : FC I1 I2) : FC I I2 := fun a i z1 z2 z3 => (g a i z1 z2 z3).trans (h a i z1 z2 z3)
theorem FM.rf {I : Nat → Nat → Int32} : FM I I := fun _ _ _ _ => rfl
theorem FM.tr {I I1 I2 : Nat → Nat → Int32} (h : FM I I1) (g : FM I1 I2) : FM I I2 := fun a i z1 z2 => (g a i z1 z2).trans (h a i z1 z2)
theorem frR.F {I I' : Nat → Nat → Int32} (h : frR I I') : FC I I' := fun a i z1 _ _ => h a i z1
theorem frQ.F {K K' : Nat → Nat → Int32} (h : frQ K K') : FM K K' := fun a i z1 _ => h a i z1
theorem Lw.of {I I' K K' : Nat → Nat → Int32} {b : Nat → Nat} {n f e k f' e' k' : Nat} {L : List Int32} {wa : Int32} (h : Lw I K b n f e k L wa) (r : frR I I') (q : frQ K K') (s : St I' K' b n f' e' k') : Lw I' K' b n f' e' k' L wa :=
  ⟨s, h.2.1.fr (r _ _ (by omega)) (fun i => r _ _ (by omega)) (fun i => q _ _ (by omega)), by rw [r _ _ (by omega)]; exact h.2.2.1, by rw [q _ _ (by omega)]; exact h.2.2.2⟩
theorem advL {P : Nat → Nat → Option Nat} (hP : GP P) {I K : Nat → Nat → Int32} (J : Nat → Nat → Int64) {b : Nat → Nat} {n f e k : Nat} {L : List Int32} {wa : Int32} (h : Lw I K b n f e k L wa) :
    ∃ I' K' f' e' k', F_X7_step 1 (mm P I J) = some (mm P I' J) ∧ F_X12_next 164 (mm P K J) = some (mm P K' J) ∧ FC I I' ∧ FM K K' ∧ Lw I' K' b n f' e' k' L wa ∧ e ≤ f' := by
  obtain ⟨I', K', f', e', k', a1, a2, a3, a4, a5, a6⟩ := adv hP J h.1
  exact ⟨I', K', f', e', k', a1, a2, a3.R.F, a4.Q.F, h.of a3.R a4.Q a5, a6⟩
theorem emit_Lw {P : Nat → Nat → Option Nat} (hP : GP P) {I K : Nat → Nat → Int32} (J : Nat → Nat → Int64) {b : Nat → Nat} {n f e k : Nat} {L : List Int32} {wa : Int32} (h : Lw I K b n f e k L wa) (hl : L.length < 900) {o w : Int32} (hw : w = trC o) :
    ∃ I' K', F_X3_emit 3 o (mm P I J) = some (mm P I' J) ∧ F_X12_codes 164 w (mm P K J) = some (mm P K' J) ∧ FC I I' ∧ FM K K' ∧ Lw I' K' b n f e k (L ++ [o]) wa := by
  obtain ⟨⟨hC, hM, h1, h2, m, m1, m2⟩, ⟨l1, l2, l3⟩, w1, w2⟩ := h
  have c1 : ¬ (900 : Int32) ≤ nI L.length := nI_ge (b := 900) hl (by omega)
  have e1 : ∀ v, xu I 9 L.length v 3 7 = nI L.length := fun v => by rw [xu_o (by omega)]; exact l1
  have e2 : ∀ v, xu K 168 (520 + L.length) v 168 519 = nI L.length := fun v => by rw [xu_o (by omega)]; exact l2
  have ix : (520 : Int32) + nI L.length = nI (520 + L.length) := nI_add 520 _
  refine ⟨xu (xu I 9 L.length o) 3 7 (nI (L.length + 1)), xu (xu K 168 (520 + L.length) w) 168 519 (nI (L.length + 1)), ?_, ?_, fun a i z1 z2 z3 => by rw [xu_o (by omega), xu_o (by omega)], fun a i z1 z2 => by rw [xu_o (by omega), xu_o (by omega)], ⟨hC.fr (fun i i1 i2 => by rw [xu_o (by omega), xu_o (by omega)]) (fun x => by rw [xu_o (by omega), xu_o (by omega)]), hM.fr (fun i i1 i2 => by rw [xu_o (by omega), xu_o (by omega)]) (fun x => by rw [xu_o (by omega), xu_o (by omega)]), by rw [xu_o (by omega), xu_o (by omega)]; exact h1, by rw [xu_o (by omega), xu_o (by omega)]; exact h2, L.length + 1, by omega, xu_self, by rw [xu_o (by omega), xu_o (by omega)]; exact m2.2⟩, ⟨?_, ?_, fun j o' hj => ?_⟩, by rw [xu_o (by omega), xu_o (by omega)]; exact w1, by rw [xu_o (by omega), xu_o (by omega)]; exact w2⟩
  · unfold F_X3_emit
    simp (disch := omega) only [↓bOR hP, l1, c1, ↓reduceIte, ↓bAR, e1, nI_1]
  · unfold F_X12_codes
    simp (disch := omega) only [↓bOM hP, h2, ↓reduceIte, ↓bAM, l2, ix, e2, nI_1]
  · rw [xu_self, List.length_append]; rfl
  · rw [xu_self, List.length_append]; rfl
  · by_cases hj2 : j < L.length
    · rw [List.getElem?_append_left hj2] at hj
      rw [xu_o (by omega), xu_o (by omega), xu_o (by omega), xu_o (by omega)]
      exact l3 j o' hj
    · have lt : j < (L ++ [o]).length := (List.getElem?_eq_some_iff.mp hj).1
      rw [List.length_append] at lt
      have ej : j = L.length := by
        have : [o].length = 1 := rfl
        omega
      subst ej
      rw [List.getElem?_append_right (Nat.le_refl _), Nat.sub_self] at hj
      have eo : o = o' := Option.some.inj hj
      rw [xu_o (by omega), xu_self, xu_o (by omega), xu_self, hw, eo]
      exact ⟨rfl, rfl⟩
theorem emit_Bd {P : Nat → Nat → Option Nat} (hP : GP P) {I K : Nat → Nat → Int32} (J : Nat → Nat → Int64) {b : Nat → Nat} {n : Nat} (h : Bd I K b n) (o : Int32) :
    ∃ I', F_X3_emit 3 o (mm P I J) = some (mm P I' J) ∧ FC I I' ∧ Bd I' K b n := by
  obtain ⟨⟨f, e, k, hC⟩, h1, h2, h3, m, m1, m2⟩ := h
  by_cases hm : m < 900
  · have c1 : ¬ (900 : Int32) ≤ nI m := nI_ge (b := 900) hm (by omega)
    have e1 : ∀ v, xu I 9 m v 3 7 = nI m := fun v => by rw [xu_o (by omega)]; exact m2
    refine ⟨xu (xu I 9 m o) 3 7 (nI (m + 1)), ?_, fun a i z1 z2 z3 => by rw [xu_o (by omega), xu_o (by omega)], ⟨f, e, k, hC.fr (fun i i1 i2 => by rw [xu_o (by omega), xu_o (by omega)]) (fun x => by rw [xu_o (by omega), xu_o (by omega)])⟩, by rw [xu_o (by omega), xu_o (by omega)]; exact h1, by rw [xu_o (by omega), xu_o (by omega)]; exact h2, by rw [xu_o (by omega), xu_o (by omega)]; exact h3, m + 1, by omega, xu_self⟩
    unfold F_X3_emit
    simp (disch := omega) only [↓bOR hP, m2, c1, ↓reduceIte, ↓bAR, e1, nI_1]
  · have c1 : (900 : Int32) ≤ nI m := nI_le (a := 900) (by omega) (by omega)
    refine ⟨I, ?_, FC.rf, ⟨f, e, k, hC⟩, h1, h2, h3, m, m1, m2⟩
    unfold F_X3_emit
    simp (disch := omega) only [↓bOR hP, m2, c1, ↓reduceIte]
theorem codes_Bd {P : Nat → Nat → Option Nat} (hP : GP P) {I K : Nat → Nat → Int32} (J : Nat → Nat → Int64) {b : Nat → Nat} {n : Nat} (h : Bd I K b n) (w : Int32) : F_X12_codes 164 w (mm P K J) = some (mm P K J) := by
  have h2 : ¬ K 164 11 = 0 := by rw [← h.2.2.1]; exact h.2.1
  unfold F_X12_codes
  simp only [↓bOM hP, h2, ↓reduceIte]
/-! ===== what a piece of a law leaves waiting ===== -/
def cP (bd : Nat) (kd : Bool) (wa : Int32) (c : List Int32) : Prop := 1 ≤ c.length ∧ (∀ s : List Bool, s.length ≤ bd → kindRun c s = some (kd :: s)) ∧ (wa = 0 → ∀ o ∈ c, o < 1012)
theorem cP_le {bd bd' : Nat} {kd : Bool} {wa : Int32} {c : List Int32} (h : cP bd kd wa c) (hb : bd' ≤ bd) : cP bd' kd wa c := ⟨h.1, fun s hs => h.2.1 s (by omega), h.2.2⟩
theorem run_snoc {c : List Int32} {o : Int32} {s t u : List Bool} (h1 : kindRun c s = some t) (h2 : kindStep o t = some u) : kindRun (c ++ [o]) s = some u := by
  rw [kindRun_app, h1]
  show (kindStep o t).bind (kindRun []) = some u
  rw [h2]
  rfl
theorem cP_bin {bd : Nat} {k1 k2 kr : Bool} {wa : Int32} {c1 c2 : List Int32} {o : Int32} (h1 : cP bd k1 wa c1) (h2 : cP (bd + 1) k2 wa c2) (ho : ∀ s, kindStep o (k2 :: k1 :: s) = some (kr :: s)) (hw : o < 1012) : cP bd kr wa (c1 ++ (c2 ++ [o])) := by
  refine ⟨by rw [List.length_append]; have := h1.1; omega, fun s hs => ?_, fun hwa x hx => ?_⟩
  · rw [kindRun_app, h1.2.1 s hs]
    exact run_snoc (h2.2.1 (k1 :: s) (by show s.length + 1 ≤ bd + 1; omega)) (ho s)
  · rcases List.mem_append.mp hx with hx | hx
    · exact h1.2.2 hwa x hx
    · rcases List.mem_append.mp hx with hx | hx
      · exact h2.2.2 hwa x hx
      · rw [List.mem_singleton.mp hx]; exact hw
/-- both read alike, and keep what can be kept -/
def SimG (P : Nat → Nat → Option Nat) (J : Nat → Nat → Int64) (b : Nat → Nat) (n : Nat) (wa : Int32) (fc fm : xM → Option xM) (PC : List Int32 → Prop) : Prop :=
  (∀ I K f e k L, Lw I K b n f e k L wa → L.length ≤ f → ∃ I' K', fc (mm P I J) = some (mm P I' J) ∧ fm (mm P K J) = some (mm P K' J) ∧ FC I I' ∧ FM K K' ∧ (Bd I' K' b n ∨ ∃ f' e' k' c, Lw I' K' b n f' e' k' (L ++ c) wa ∧ c.length + f ≤ f' ∧ PC c)) ∧
  ∀ I K, Bd I K b n → fc (mm P I J) = some (mm P I J) ∧ fm (mm P K J) = some (mm P K J)
theorem SimG.cg {P : Nat → Nat → Option Nat} {J : Nat → Nat → Int64} {b : Nat → Nat} {n : Nat} {wa : Int32} {fc fm fc' fm' : xM → Option xM} {PC : List Int32 → Prop} (h : SimG P J b n wa fc fm PC) (e1 : ∀ I, fc' (mm P I J) = fc (mm P I J)) (e2 : ∀ K, fm' (mm P K J) = fm (mm P K J)) : SimG P J b n wa fc' fm' PC :=
  ⟨fun I K f e k L h1 h2 => by rw [e1, e2]; exact h.1 I K f e k L h1 h2, fun I K h1 => by rw [e1, e2]; exact h.2 I K h1⟩
/-- first one, then as many more as there are -/
theorem loopG {P : Nat → Nat → Option Nat} (hP : GP P) {J : Nat → Nat → Int64} {b : Nat → Nat} {n : Nat} {wa : Int32} {fsub gsub : xM → Option xM} {bd : Nat} {kd : Bool} (op : Nat → Option Int32)
    (hop : ∀ k o, op k = some o → k ≠ 30 ∧ o < 1012 ∧ ∀ s, kindStep o (kd :: kd :: s) = some (kd :: s)) (sub : SimG P J b n wa fsub gsub (cP (bd + 1) kd wa))
    {fb : Int32 × xM → Option ((Int32 × xM) ⊕ xM)} {gb : xM → Option (xM ⊕ xM)}
    (bad : ∀ I K (j : Nat), Bd I K b n → fb (nI j, mm P I J) = some (.inr (mm P I J)) ∧ gb (mm P K J) = some (.inr (mm P K J)))
    (no : ∀ I K f e k L (j : Nat), Lw I K b n f e k L wa → op k = none → fb (nI j, mm P I J) = some (.inr (mm P I J)) ∧ gb (mm P K J) = some (.inr (mm P K J)))
    (yes : ∀ I K f e k L (j : Nat) o, Lw I K b n f e k L wa → op k = some o → j < 900 → ∀ I1 K1, F_X7_step 1 (mm P I J) = some (mm P I1 J) → F_X12_next 164 (mm P K J) = some (mm P K1 J) → ∀ I2 K2, fsub (mm P I1 J) = some (mm P I2 J) → gsub (mm P K1 J) = some (mm P K2 J) → ∀ I3 K3, F_X3_emit 3 o (mm P I2 J) = some (mm P I3 J) → F_X12_codes 164 (trC o) (mm P K2 J) = some (mm P K3 J) → fb (nI j, mm P I J) = some (.inl (nI (j + 1), mm P I3 J)) ∧ gb (mm P K J) = some (.inl (mm P K3 J))) :
    SimG P J b n wa (fun M => (fsub M).bind fun t => xit fb xFU (0, t)) (fun M => (gsub M).bind fun t => xit gb xFU t) (cP bd kd wa) := by
  have loop : ∀ I K L fo, L.length ≤ fo → (Bd I K b n ∨ ∃ f e k c, Lw I K b n f e k (L ++ c) wa ∧ c.length + fo ≤ f ∧ cP bd kd wa c) → ∃ I' K', xit fb xFU (nI 0, mm P I J) = some (mm P I' J) ∧ xit gb xFU (mm P K J) = some (mm P K' J) ∧ FC I I' ∧ FM K K' ∧ (Bd I' K' b n ∨ ∃ f e k c, Lw I' K' b n f e k (L ++ c) wa ∧ c.length + fo ≤ f ∧ cP bd kd wa c) := by
    intro I K L fo hL h0
    have key := xit_sim (f := fb) (g := gb) (fun j z z' => ∃ I' K', z = (nI j, mm P I' J) ∧ z' = mm P K' J ∧ FC I I' ∧ FM K K' ∧ (Bd I' K' b n ∨ ∃ f e k c, Lw I' K' b n f e k (L ++ c) wa ∧ c.length + fo ≤ f ∧ j + fo ≤ f ∧ cP bd kd wa c)) (fun r r' => ∃ I' K', r = mm P I' J ∧ r' = mm P K' J ∧ FC I I' ∧ FM K K' ∧ (Bd I' K' b n ∨ ∃ f e k c, Lw I' K' b n f e k (L ++ c) wa ∧ c.length + fo ≤ f ∧ cP bd kd wa c)) 900 (fun j s s' hq => ?_) (by omega) (s0 := (nI 0, mm P I J)) (s0' := mm P K J) ⟨I, K, rfl, rfl, FC.rf, FM.rf, ?_⟩
    · obtain ⟨r, r', k1, k2, I', K', rfl, rfl, k3⟩ := key
      exact ⟨I', K', k1, k2, k3⟩
    · obtain ⟨I1, K1, rfl, rfl, g1, g2, g3⟩ := hq
      rcases g3 with g3 | ⟨f, e, k, c, g3, g4, g5, g6⟩
      · right
        obtain ⟨a1, a2⟩ := bad I1 K1 j g3
        exact ⟨_, _, a1, a2, I1, K1, rfl, rfl, g1, g2, Or.inl g3⟩
      · cases ho : op k with
        | none =>
          right
          obtain ⟨a1, a2⟩ := no I1 K1 f e k _ j g3 ho
          exact ⟨_, _, a1, a2, I1, K1, rfl, rfl, g1, g2, Or.inr ⟨f, e, k, c, g3, g4, g6⟩⟩
        | some o =>
          left
          obtain ⟨o1, o2, o3⟩ := hop k o ho
          have ps := g3.1.pos
          have fe := ps.2.2.2.2.1 o1
          obtain ⟨I2, K2, f2, e2, k2, a1, a2, a3, a4, a5, a6⟩ := advL hP J g3
          have len1 : (L ++ c).length = L.length + c.length := List.length_append
          obtain ⟨I3, K3, b1, b2, b3, b4, b5⟩ := sub.1 I2 K2 f2 e2 k2 _ a5 (by omega)
          refine ⟨by omega, ?_⟩
          rcases b5 with b5 | ⟨f3, e3, k3, c3, b5, b6, b7⟩
          · obtain ⟨I4, d1, d2, d3⟩ := emit_Bd hP J b5 o
            have d4 := codes_Bd hP J b5 (trC o)
            obtain ⟨y1, y2⟩ := yes I1 K1 f e k _ j o g3 ho (by omega) I2 K2 a1 a2 I3 K3 b1 b2 I4 K3 d1 d4
            exact ⟨_, _, y1, y2, I4, K3, rfl, rfl, ((g1.tr a3).tr b3).tr d2, (g2.tr a4).tr b4, Or.inl d3⟩
          · have ps3 := b5.1.pos
            have len2 : (L ++ c ++ c3).length = L.length + c.length + c3.length := by rw [List.length_append, List.length_append]
            obtain ⟨I4, K4, d1, d2, d3, d4, d5⟩ := emit_Lw hP J b5 (by omega) (o := o) rfl
            obtain ⟨y1, y2⟩ := yes I1 K1 f e k _ j o g3 ho (by omega) I2 K2 a1 a2 I3 K3 b1 b2 I4 K4 d1 d2
            have ea : L ++ c ++ c3 ++ [o] = L ++ (c ++ (c3 ++ [o])) := by simp only [List.append_assoc]
            rw [ea] at d5
            have len3 : (c ++ (c3 ++ [o])).length = c.length + (c3.length + 1) := by rw [List.length_append, List.length_append]; rfl
            exact ⟨_, _, y1, y2, I4, K4, rfl, rfl, ((g1.tr a3).tr b3).tr d3, ((g2.tr a4).tr b4).tr d4, Or.inr ⟨f3, e3, k3, _, d5, by omega, by have := b7.1; omega, cP_bin g6 b7 o3 o2⟩⟩
    · rcases h0 with h0 | ⟨f, e, k, c, h1, h2, h3⟩
      · exact Or.inl h0
      · exact Or.inr ⟨f, e, k, c, h1, h2, by omega, h3⟩
  refine ⟨fun I K f e k L h1 h2 => ?_, fun I K h => ?_⟩
  · obtain ⟨I1, K1, a1, a2, a3, a4, a5⟩ := sub.1 I K f e k L h1 h2
    obtain ⟨I2, K2, b1, b2, b3, b4, b5⟩ := loop I1 K1 L f h2 (by
      rcases a5 with a5 | ⟨f', e', k', c, c1, c2, c3⟩
      · exact Or.inl a5
      · exact Or.inr ⟨f', e', k', c, c1, c2, cP_le c3 (by omega)⟩)
    refine ⟨I2, K2, ?_, ?_, a3.tr b3, a4.tr b4, b5⟩
    · show (fsub (mm P I J)).bind _ = _
      rw [a1]
      exact b1
    · show (gsub (mm P K J)).bind _ = _
      rw [a2]
      exact b2
  · obtain ⟨a1, a2⟩ := sub.2 I K h
    obtain ⟨c1, c2⟩ := bad I K 0 h
    have x1 : xit fb xFU (nI 0, mm P I J) = some (mm P I J) := by
      show xit fb (999999 + 1) (nI 0, mm P I J) = some (mm P I J)
      unfold xit
      rw [c1]
    have x2 : xit gb xFU (mm P K J) = some (mm P K J) := by
      show xit gb (999999 + 1) (mm P K J) = some (mm P K J)
      unfold xit
      rw [c2]
    refine ⟨?_, ?_⟩
    · show (fsub (mm P I J)).bind _ = _
      rw [a1]
      exact x1
    · show (gsub (mm P K J)).bind _ = _
      rw [a2]
      exact x2
