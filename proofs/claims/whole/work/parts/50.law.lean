/-! ===== loops by an invariant ===== -/
theorem xit_inv {σ ρ : Type} {f : σ → Option (σ ⊕ ρ)} {s0 : σ} (Q : Nat → σ → Prop) (R : ρ → Prop) (N : Nat) (h0 : Q 0 s0) (hs : ∀ j s, j < N → Q j s → (∃ s', f s = some (.inl s') ∧ Q (j + 1) s') ∨ ∃ r, f s = some (.inr r) ∧ R r) (he : ∀ s, Q N s → ∃ r, f s = some (.inr r) ∧ R r) (hN : N < 1000000) : ∃ r, xit f xFU s0 = some r ∧ R r := by
  have key : ∀ k j fuel s, j + k = N → k < fuel → Q j s → ∃ r, xit f fuel s = some r ∧ R r := by
    intro k
    induction k with
    | zero =>
      intro j fuel s hj hf hq
      obtain ⟨m, rfl⟩ : ∃ m, fuel = m + 1 := ⟨fuel - 1, by omega⟩
      obtain ⟨r, h1, h2⟩ := he s (by rw [show N = j by omega]; exact hq)
      exact ⟨r, by unfold xit; rw [h1], h2⟩
    | succ k ih =>
      intro j fuel s hj hf hq
      obtain ⟨m, rfl⟩ : ∃ m, fuel = m + 1 := ⟨fuel - 1, by omega⟩
      rcases hs j s (by omega) hq with ⟨s', h1, h2⟩ | ⟨r, h1, h2⟩
      · obtain ⟨r, h3, h4⟩ := ih (j + 1) m s' (by omega) (by omega) h2
        exact ⟨r, by unfold xit; rw [h1]; exact h3, h4⟩
      · exact ⟨r, by unfold xit; rw [h1], h2⟩
  exact key N 0 xFU s0 (by omega) hN h0
/-! ===== what a law tells ===== -/
/-- within a million -/
def clip (v : Int64) : Int32 := (if (lg_cmp (-1000000) (if 0 < lg_cmp 1000000 v then v else 1000000)) < 0 then (if 0 < lg_cmp 1000000 v then v else 1000000) else -1000000).toInt32
def joinS (o : Int32) (a b : Int64) : Int64 := if o = 1000 then a + b else if o = 1001 then a - b else if o = 1002 then a * b else if o = 1003 then (if lg_cmp a b = 0 then 1 else 0) else if o = 1004 then (if 0 ≤ lg_cmp a b then 0 else 1) else if o = 1005 then (if lg_cmp a b ≤ 0 then 0 else 1) else if o = 1006 then a &&& b else a ||| b
def opS (o a b : Int32) : Int32 := clip (joinS o a.toInt64 b.toInt64)
def stepS (w : Nat → Int32) (o : Int32) (s : List Int32) : List Int32 :=
  if o < 1000 then o :: s else if 1010 ≤ o then w (o - 1010).toNatClampNeg :: s
  else if o = 1008 then (match s with | a :: r => (1 - a) :: r | _ => s)
  else if o = 1009 then (match s with | e :: d :: b :: r => (if b = 0 then e else d) :: r | _ => s)
  else (match s with | b :: a :: r => opS o a b :: r | _ => s)
def runS (w : Nat → Int32) (l : List Int32) : List Int32 := l.foldl (fun s o => stepS w o s) []
def lawS (w : Nat → Int32) (l : List Int32) : Int32 := (runS w l).headD 0
/-- the values are of their kinds -/
def okS : List Bool → List Int32 → Prop
  | [], [] => True
  | k :: ks, v :: s => (k = true → v = 0 ∨ v = 1) ∧ okS ks s
  | _, _ => False
theorem okS_len : ∀ (ks : List Bool) (s : List Int32), okS ks s → s.length = ks.length
  | [], [], _ => rfl
  | _ :: ks, _ :: s, h => by rw [List.length_cons, List.length_cons, okS_len ks s h.2]
  | [], _ :: _, h => h.elim
  | _ :: _, [], h => h.elim
theorem kindRun_app (a b : List Int32) (s : List Bool) : kindRun (a ++ b) s = (kindRun a s).bind (kindRun b) := by
  induction a generalizing s with
  | nil => rfl
  | cons o a ih =>
    show (kindStep o s).bind (kindRun (a ++ b)) = ((kindStep o s).bind (kindRun a)).bind (kindRun b)
    cases kindStep o s with
    | none => rfl
    | some s' => exact ih s'
theorem kind_take {l : List Int32} {r : List Bool} (h : kindRun l [] = some r) (j : Nat) : ∃ ks, kindRun (l.take j) [] = some ks := by
  rw [← List.take_append_drop j l, kindRun_app] at h
  cases e : kindRun (l.take j) [] with
  | none => rw [e] at h; cases h
  | some ks => exact ⟨ks, rfl⟩
theorem kind_step {l : List Int32} {r : List Bool} (h : kindRun l [] = some r) {j : Nat} {o : Int32} (ho : l[j]? = some o) : ∃ ks ks', kindRun (l.take j) [] = some ks ∧ kindStep o ks = some ks' ∧ kindRun (l.take (j + 1)) [] = some ks' := by
  obtain ⟨ks, h1⟩ := kind_take h j
  obtain ⟨ks', h2⟩ := kind_take h (j + 1)
  refine ⟨ks, ks', h1, ?_, h2⟩
  have h3 := h2
  rw [List.take_add_one, ho, kindRun_app, h1] at h3
  simpa [kindRun] using h3
theorem run_step {w : Nat → Int32} {l : List Int32} {j : Nat} {o : Int32} (ho : l[j]? = some o) : runS w (l.take (j + 1)) = stepS w o (runS w (l.take j)) := by
  unfold runS
  rw [List.take_add_one, ho, List.foldl_append]
  rfl
theorem op_bool {o a b : Int32} (ho : o = 1003 ∨ o = 1004 ∨ o = 1005) : opS o a b = 0 ∨ opS o a b = 1 := by
  have c0 : clip 0 = 0 := by decide
  have c1 : clip 1 = 1 := by decide
  unfold opS joinS
  rcases ho with rfl | rfl | rfl
  · simp only [show ¬ (1003 : Int32) = 1000 by decide, show ¬ (1003 : Int32) = 1001 by decide, show ¬ (1003 : Int32) = 1002 by decide, if_false, if_true]
    split
    · exact Or.inr c1
    · exact Or.inl c0
  · simp only [show ¬ (1004 : Int32) = 1000 by decide, show ¬ (1004 : Int32) = 1001 by decide, show ¬ (1004 : Int32) = 1002 by decide, show ¬ (1004 : Int32) = 1003 by decide, if_false, if_true]
    split
    · exact Or.inl c0
    · exact Or.inr c1
  · simp only [show ¬ (1005 : Int32) = 1000 by decide, show ¬ (1005 : Int32) = 1001 by decide, show ¬ (1005 : Int32) = 1002 by decide, show ¬ (1005 : Int32) = 1003 by decide, show ¬ (1005 : Int32) = 1004 by decide, if_false, if_true]
    split
    · exact Or.inl c0
    · exact Or.inr c1
theorem op_log : ∀ o, o = (1006 : Int32) ∨ o = 1007 → ∀ a b : Int32, a = 0 ∨ a = 1 → b = 0 ∨ b = 1 → (opS o a b = 0 ∨ opS o a b = 1) ∧ opS o a b = (if o = 1006 then a &&& b else a ||| b) := by
  intro o ho a b ha hb
  rcases ho with rfl | rfl <;> rcases ha with rfl | rfl <;> rcases hb with rfl | rfl <;> decide
theorem kind_cases {o : Int32} {ks ks' : List Bool} (h : kindStep o ks = some ks') :
    ((0 ≤ o ∧ o < 1000) ∧ ks.length < 60 ∧ ks' = false :: ks) ∨ ((1010 ≤ o ∧ o < 1016) ∧ ks.length < 60 ∧ ks' = false :: ks) ∨
    ((o = 1000 ∨ o = 1001 ∨ o = 1002) ∧ ∃ r, ks = false :: false :: r ∧ ks' = false :: r) ∨ ((o = 1003 ∨ o = 1004 ∨ o = 1005) ∧ ∃ r, ks = false :: false :: r ∧ ks' = true :: r) ∨
    ((o = 1006 ∨ o = 1007) ∧ ∃ r, ks = true :: true :: r ∧ ks' = true :: r) ∨ (o = 1008 ∧ ∃ r, ks = true :: r ∧ ks' = true :: r) ∨ (o = 1009 ∧ ∃ r, ks = false :: false :: true :: r ∧ ks' = false :: r) := by
  unfold kindStep at h
  split at h
  · next h0 =>
    split at h
    · next h1 =>
      cases h
      rcases h0 with h0 | h0
      · exact Or.inl ⟨h0, h1, rfl⟩
      · exact Or.inr (Or.inl ⟨h0, h1, rfl⟩)
    · cases h
  · split at h
    · next h1 =>
      split at h
      · cases h
        exact Or.inr (Or.inr (Or.inl ⟨h1, _, rfl, rfl⟩))
      · cases h
    · split at h
      · next h1 =>
        split at h
        · cases h
          exact Or.inr (Or.inr (Or.inr (Or.inl ⟨h1, _, rfl, rfl⟩)))
        · cases h
      · split at h
        · next h1 =>
          split at h
          · cases h
            exact Or.inr (Or.inr (Or.inr (Or.inr (Or.inl ⟨h1, _, rfl, rfl⟩))))
          · cases h
        · split at h
          · next h1 =>
            split at h
            · cases h
              exact Or.inr (Or.inr (Or.inr (Or.inr (Or.inr (Or.inl ⟨h1, _, rfl, rfl⟩)))))
            · cases h
          · split at h
            · next h1 =>
              split at h
              · cases h
                exact Or.inr (Or.inr (Or.inr (Or.inr (Or.inr (Or.inr ⟨h1, _, rfl, rfl⟩)))))
              · cases h
            · cases h
theorem okS_2 {k1 k2 : Bool} {ks : List Bool} {s : List Int32} (h : okS (k1 :: k2 :: ks) s) : ∃ b a r, s = b :: a :: r ∧ (k1 = true → b = 0 ∨ b = 1) ∧ (k2 = true → a = 0 ∨ a = 1) ∧ okS ks r := by
  match s, h with
  | b :: a :: r, h => exact ⟨b, a, r, rfl, h.1, h.2.1, h.2.2⟩
  | [_], h => exact h.2.elim
  | [], h => exact h.elim
theorem okS_1 {k1 : Bool} {ks : List Bool} {s : List Int32} (h : okS (k1 :: ks) s) : ∃ b r, s = b :: r ∧ (k1 = true → b = 0 ∨ b = 1) ∧ okS ks r := by
  match s, h with
  | b :: r, h => exact ⟨b, r, rfl, h.1, h.2⟩
  | [], h => exact h.elim
theorem step_op {w : Nat → Int32} {o b a : Int32} {r : List Int32} (ho : o = 1000 ∨ o = 1001 ∨ o = 1002 ∨ o = 1003 ∨ o = 1004 ∨ o = 1005 ∨ o = 1006 ∨ o = 1007) : stepS w o (b :: a :: r) = opS o a b :: r := by
  rcases ho with rfl | rfl | rfl | rfl | rfl | rfl | rfl | rfl <;> rfl
/-- a step keeps the kinds -/
theorem okS_step {w : Nat → Int32} {o : Int32} {ks ks' : List Bool} {s : List Int32} (h : kindStep o ks = some ks') (hs : okS ks s) : okS ks' (stepS w o s) := by
  rcases kind_cases h with ⟨⟨h0, h1⟩, -, rfl⟩ | ⟨⟨h0, h1⟩, -, rfl⟩ | ⟨h0, r, rfl, rfl⟩ | ⟨h0, r, rfl, rfl⟩ | ⟨h0, r, rfl, rfl⟩ | ⟨rfl, r, rfl, rfl⟩ | ⟨rfl, r, rfl, rfl⟩
  · unfold stepS
    rw [if_pos h1]
    exact ⟨(fun z => by cases z), hs⟩
  · have h2 : ¬ o < 1000 := fun z => by
      have a := Int32.lt_iff_toInt_lt.mp z
      have b := Int32.le_iff_toInt_le.mp h0
      have e1 : (1000 : Int32).toInt = 1000 := by decide
      have e2 : (1010 : Int32).toInt = 1010 := by decide
      omega
    unfold stepS
    rw [if_neg h2, if_pos h0]
    exact ⟨(fun z => by cases z), hs⟩
  · obtain ⟨b, a, q, rfl, -, -, h3⟩ := okS_2 hs
    rw [step_op (by rcases h0 with rfl | rfl | rfl <;> decide)]
    exact ⟨(fun z => by cases z), h3⟩
  · obtain ⟨b, a, q, rfl, -, -, h3⟩ := okS_2 hs
    rw [step_op (by rcases h0 with rfl | rfl | rfl <;> decide)]
    exact ⟨fun _ => op_bool h0, h3⟩
  · obtain ⟨b, a, q, rfl, h1, h2, h3⟩ := okS_2 hs
    rw [step_op (by rcases h0 with rfl | rfl <;> decide)]
    exact ⟨fun _ => (op_log o h0 a b (h2 rfl) (h1 rfl)).1, h3⟩
  · obtain ⟨b, q, rfl, h1, h3⟩ := okS_1 hs
    refine ⟨fun _ => ?_, h3⟩
    rcases h1 rfl with rfl | rfl
    · exact Or.inr rfl
    · exact Or.inl rfl
  · obtain ⟨e, d, q, rfl, -, -, h3⟩ := okS_2 hs
    obtain ⟨b, q', rfl, h1, h4⟩ := okS_1 h3
    exact ⟨(fun z => by cases z), h4⟩
theorem okS_run {w : Nat → Int32} {l : List Int32} {r : List Bool} (h : kindRun l [] = some r) : ∀ j ks, kindRun (l.take j) [] = some ks → okS ks (runS w (l.take j)) := by
  intro j
  induction j with
  | zero =>
    intro ks hk
    rw [List.take_zero] at hk ⊢
    cases hk
    exact trivial
  | succ j ih =>
    intro ks hk
    by_cases hj : j < l.length
    · have ho : l[j]? = some l[j] := List.getElem?_eq_getElem hj
      obtain ⟨k1, k2, a1, a2, a3⟩ := kind_step h ho
      rw [a3] at hk
      cases hk
      rw [run_step ho]
      exact okS_step a2 (ih k1 a1)
    · rw [List.take_of_length_le (by omega)] at hk ⊢
      have h2 := ih ks (by rw [List.take_of_length_le (by omega)]; exact hk)
      rw [List.take_of_length_le (by omega)] at h2
      exact h2
/-! ===== a stack in a row ===== -/
def Stk (A : Nat → Int32) : List Int32 → Prop
  | [] => True
  | v :: s => A s.length = v ∧ Stk A s
theorem Stk_fr {A A' : Nat → Int32} : ∀ {s : List Int32}, (∀ i, i < s.length → A' i = A i) → Stk A s → Stk A' s
  | [], _, _ => trivial
  | v :: s, h, ⟨h1, h2⟩ => ⟨(h s.length (by rw [List.length_cons]; omega)).trans h1, Stk_fr (fun i hi => h i (by rw [List.length_cons]; omega)) h2⟩
theorem Stk_put {I : Nat → Nat → Int32} {k : Nat} {s : List Int32} {v : Int32} (h : Stk (I k) s) : Stk (xu I k s.length v k) (v :: s) := ⟨xu_self, Stk_fr (fun i hi => xu_o (by omega)) h⟩
theorem nI_dn1 (a : Nat) : nI (a + 1) - 1 = nI a := pk_sub (b := 1) (by omega)
theorem nI_m1 (a : Nat) : nI (a + 1) + (-1) = nI a := by rw [← nI_1, Int32.add_assoc]; exact Int32.add_zero _
theorem nI_m2 (a : Nat) : nI (a + 1 + 1) + (-2) = nI a := by rw [← nI_1, ← nI_1, Int32.add_assoc, Int32.add_assoc]; exact Int32.add_zero _
theorem kind_len {l : List Int32} {r : List Bool} (h : kindRun l [] = some r) : ∀ j ks, kindRun (l.take j) [] = some ks → ks.length ≤ 60 := by
  intro j
  induction j with
  | zero =>
    intro ks hk
    rw [List.take_zero] at hk
    cases hk
    exact Nat.zero_le _
  | succ j ih =>
    intro ks hk
    by_cases hj : j < l.length
    · have ho : l[j]? = some l[j] := List.getElem?_eq_getElem hj
      obtain ⟨k1, k2, a1, a2, a3⟩ := kind_step h ho
      rw [a3] at hk
      cases hk
      have h1 := ih k1 a1
      rcases kind_cases a2 with ⟨-, h2, rfl⟩ | ⟨-, h2, rfl⟩ | ⟨-, r, rfl, rfl⟩ | ⟨-, r, rfl, rfl⟩ | ⟨-, r, rfl, rfl⟩ | ⟨-, r, rfl, rfl⟩ | ⟨-, r, rfl, rfl⟩ <;> simp only [List.length_cons] at * <;> omega
    · rw [List.take_of_length_le (by omega)] at hk
      exact ih ks (by rw [List.take_of_length_le (by omega)]; exact hk)
