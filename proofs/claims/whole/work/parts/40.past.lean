/-! ===== the ring of coasts, and the model's row ===== -/
theorem ring_in : ∀ n, n < 11 → 37 + 4 * n ∈ coastL ∧ (36, n, 37 + 4 * n) ∈ PPl := by decide +kernel
theorem ringP {P : Nat → Nat → Option Nat} (hP : GP P) {n : Nat} (h : n < 11) (I : Nat → Nat → Int32) (J : Nat → Nat → Int64) : xaP (mm P I J) 30 36 (nI n) = some (37 + 4 * n) := m_aP hP (n := 11) (by decide +kernel) h (by omega) (ring_in n h).2 I J
def Kp (nx : Nat) (I I' : Nat → Nat → Int32) : Prop := (∀ k i, ¬ (37 + 4 * nx ≤ k ∧ k ≤ 37 + 4 * nx + 3) → I' k i = I k i) ∧ (∀ i, i < 25 → I' (37 + 4 * nx + 1) i = I 22 i) ∧ (∀ i, i < 6 → I' (37 + 4 * nx + 2) i = I 23 i) ∧ (∀ i, i < 6 → I' (37 + 4 * nx + 3) i = I 24 i) ∧ I' (37 + 4 * nx) 3 = I 21 3 ∧ I' (37 + 4 * nx) 4 = I 21 4 ∧ I' (37 + 4 * nx) 5 = I 21 5 ∧ I' (37 + 4 * nx) 6 = I 21 6
theorem keep_C {P : Nat → Nat → Option Nat} (hP : GP P) (I : Nat → Nat → Int32) (J : Nat → Nat → Int64) {nx : Nat} (hn : I 35 1 = nI nx) (h : nx < 11) : ∃ I', F_X5_keep 35 21 (mm P I J) = some (mm P I' J) ∧ Kp nx I I' := by
  obtain ⟨I', h1, h2⟩ := take_C hP I J (ring_in nx h).1 (b := 21) (by decide) (by omega)
  refine ⟨I', ?_, h2⟩
  simp only [F_X5_keep, OC hP, Option.bind_some, hn, ringP hP h, OK_ hP (ring_in nx h).1, h1]
theorem confirm_C {P : Nat → Nat → Option Nat} (hP : GP P) (I : Nat → Nat → Int32) (J : Nat → Nat → Int64) {nx sz : Nat} (hn : I 35 1 = nI nx) (h : nx < 11) (hs : I 35 0 = nI sz) (h2 : sz ≤ 10) : F_X5_confirm 35 (mm P I J) = some (mm P (xu (xu I 35 1 (nI ((nx + 1) % 11))) 35 0 (nI (min (sz + 1) 10))) J) := by
  have e1 : ∀ j, xu I 35 1 j 35 0 = nI sz := fun j => by rw [xu_o (by omega)]; exact hs
  have e2 := pk_rem (a := nx + 1) (d := 11) (by omega) (by omega) (by omega)
  have e3 : ∀ M : xM, F_J9_min_7cf53 (nI (sz + 1)) (10 : Int32) M = some (nI (min (sz + 1) 10), M) := fun M => minJ (b := 10) (by omega) (by omega) M
  simp only [F_X5_confirm, OC hP, Option.bind_some, hn, nI_1, show (11 : Int32) = nI 11 from rfl, e2, e1, e3]
theorem stores_M {P : Nat → Nat → Option Nat} (hP : GP P) (I : Nat → Nat → Int32) (J : Nat → Nat → Int64) : F_X12_stores 164 (mm P I J) = some (mm P (cpx I 173 0 165 67 41) J) := by
  unfold F_X12_stores F_X12_stores_2
  refine cp_loop 173 0 165 67 41 (by omega) (fun j hj => ?_) ?_ (by omega)
  · have h1 : ¬ (41 : Int32) ≤ nI j := nI_ge (b := 41) hj (by omega)
    simp (disch := omega) only [F_X12_stores_2b, if_neg h1, OM hP, AM, Option.bind_some, show (67 : Int32) = nI 67 from rfl, nI_add, nI_1, Nat.zero_add]
  · have h1 : (41 : Int32) ≤ nI 41 := by decide
    simp only [F_X12_stores_2b, if_pos h1, F_X12_stores_29, Option.map_some]
def noteI (I : Nat → Nat → Int32) (s : Nat) : Nat → Nat → Int32 := if s = 10 then xu (cpx (xu (cpx I 165 109 165 150 369) 165 108 (nI 9)) 165 478 173 0 41) 165 108 (nI 10) else xu (cpx I 165 (109 + 41 * s) 173 0 41) 165 108 (nI (s + 1))
theorem notes57 {P : Nat → Nat → Option Nat} (hP : GP P) (I : Nat → Nat → Int32) (J : Nat → Nat → Int64) {s : Nat} (h1 : I 165 108 = nI s) (h2 : s < 10) : F_X12_notes_57 164 (mm P I J) = some (mm P (xu (cpx I 165 (109 + 41 * s) 173 0 41) 165 108 (nI (s + 1))) J) := by
  unfold F_X12_notes_57 F_X12_notes_59
  have e : ∀ j, cpx I 165 (109 + 41 * s) 173 0 j 165 108 = nI s := fun j => by rw [cpx_o (by omega)]; exact h1
  refine cp_loop 165 (109 + 41 * s) 173 0 41 (by omega) (fun j hj => ?_) ?_ (by omega)
  · have h3 : ¬ nI 41 ≤ nI j := nI_ge (b := 41) hj (by omega)
    simp (disch := omega) only [F_X12_notes_59b, if_neg h3, OM hP, AM, Option.bind_some, e, show (41 : Int32) = nI 41 from rfl, show (109 : Int32) = nI 109 from rfl, pk_mul, nI_add, nI_1, Nat.zero_add]
  · have h3 : (41 : Int32) ≤ nI 41 := by decide
    simp only [F_X12_notes_59b, if_pos h3, F_X12_notes_97, OM hP, AM, Option.bind_some, e, nI_1, Option.map_some]
theorem notes_M {P : Nat → Nat → Option Nat} (hP : GP P) (I : Nat → Nat → Int32) (J : Nat → Nat → Int64) {s : Nat} (h1 : I 165 108 = nI s) (h2 : s ≤ 10) : F_X12_notes 164 (mm P I J) = some (mm P (noteI I s) J) := by
  unfold F_X12_notes noteI
  simp only [OM hP, AM, Option.bind_some, h1]
  by_cases h : s = 10
  · subst h
    rw [if_pos (show nI 10 = (10 : Int32) from rfl), if_pos rfl]
    unfold F_X12_notes_14
    refine cp_loop 165 109 165 150 369 (by omega) (fun j hj => ?_) ?_ (by omega)
    · have h3 : ¬ (369 : Int32) ≤ nI j := nI_ge (b := 369) hj (by omega)
      simp (disch := omega) only [F_X12_notes_14b, if_neg h3, OM hP, AM, Option.bind_some, show (150 : Int32) = nI 150 from rfl, show (109 : Int32) = nI 109 from rfl, nI_add, nI_1]
    · have h3 : (369 : Int32) ≤ nI 369 := by decide
      have e : cpx I 165 109 165 150 369 165 108 = nI 10 := by rw [cpx_o (by omega)]; exact h1
      have e2 : nI 10 - 1 = nI 9 := by decide
      simp only [F_X12_notes_14b, if_pos h3, F_X12_notes_46, OM hP, AM, Option.bind_some, e, e2]
      rw [notes57 hP _ J (s := 9) xu_self (by omega)]
  · have h3 : ¬ nI s = (10 : Int32) := nI_neI (b := 10) (by omega) (by omega) h
    rw [if_neg h3, if_neg h, notes57 hP I J h1 (by omega)]
