/-! ===== loops that look for a first failure ===== -/
def allN (p : Nat → Bool) : Nat → Bool
  | 0 => true
  | j + 1 => allN p j && p j
theorem allN_iff {p : Nat → Bool} : ∀ n, allN p n = true ↔ ∀ j, j < n → p j = true
  | 0 => ⟨fun _ j hj => by omega, fun _ => rfl⟩
  | n + 1 => by
    have ih := allN_iff (p := p) n
    unfold allN
    rw [Bool.and_eq_true, ih]
    constructor
    · intro ⟨h1, h2⟩ j hj
      by_cases e : j = n
      · rw [e]; exact h2
      · exact h1 j (by omega)
    · intro h
      exact ⟨fun j hj => h j (by omega), h n (by omega)⟩
theorem allN_up {p : Nat → Bool} {j n : Nat} (hj : j < n) (h : p j = false) : allN p n = false := by
  cases e : allN p n with
  | false => rfl
  | true =>
    have := (allN_iff n).mp e j hj
    rw [h] at this
    cases this
theorem all_loop {ρ : Type} {f : (Int32 × xM) → Option ((Int32 × xM) ⊕ ρ)} {M : xM} (p : Nat → Bool) (N : Nat) (rt rf : ρ) (hs : ∀ j, j < N → f (nI j, M) = some (if p j then .inl (nI (j + 1), M) else .inr rf)) (he : f (nI N, M) = some (.inr rt)) (hN : N < 1000000) : xit f xFU (0, M) = some (if allN p N then rt else rf) := by
  have key : ∃ r : ρ, xit f xFU (nI 0, M) = some r ∧ r = (if allN p N then rt else rf) := by
    refine xit_inv (fun j z => z = (nI j, M) ∧ allN p j = true) _ N ⟨rfl, rfl⟩ (fun j z hj hq => ?_) (fun z hq => ?_) hN
    · obtain ⟨rfl, q⟩ := hq
      have h := hs j hj
      cases hp : p j with
      | true =>
        rw [hp, if_pos rfl] at h
        exact Or.inl ⟨_, h, rfl, by unfold allN; rw [q, hp]; rfl⟩
      | false =>
        rw [hp, if_neg (by decide)] at h
        exact Or.inr ⟨_, h, by rw [allN_up hj hp]; rfl⟩
    · obtain ⟨rfl, q⟩ := hq
      exact ⟨_, he, by rw [q]; rfl⟩
  obtain ⟨r, h1, rfl⟩ := key
  exact h1
/-! ===== papers that overlap ===== -/
def papT (t : Txt) (p : Nat) : Nat × Nat := ((tPapers t)[p]?).getD (0, 0)
def ovB (t : Txt) (p q : Nat) : Bool := !allN (fun x => !(under (tW t) (papT t p).1 (papT t p).2 x && under (tW t) (papT t q).1 (papT t q).2 x)) (tN t)
theorem ovB_iff {t : Txt} {p q : Nat} : ovB t p q = true ↔ ∃ x, x < tN t ∧ under (tW t) (papT t p).1 (papT t p).2 x = true ∧ under (tW t) (papT t q).1 (papT t q).2 x = true := by
  unfold ovB
  rw [Bool.not_eq_true']
  constructor
  · intro h
    apply Classical.byContradiction
    intro hn
    have : allN (fun x => !(under (tW t) (papT t p).1 (papT t p).2 x && under (tW t) (papT t q).1 (papT t q).2 x)) (tN t) = true := by
      rw [allN_iff]
      intro j hj
      cases h1 : under (tW t) (papT t p).1 (papT t p).2 j with
      | false => rfl
      | true =>
        cases h2 : under (tW t) (papT t q).1 (papT t q).2 j with
        | false => rfl
        | true => exact absurd ⟨j, hj, h1, h2⟩ hn
    rw [this] at h
    cases h
  · intro ⟨x, h1, h2, h3⟩
    exact allN_up h1 (by rw [h2, h3]; rfl)
theorem ovB_comm (t : Txt) (p q : Nat) : ovB t p q = ovB t q p := by
  rw [Bool.eq_iff_iff, ovB_iff, ovB_iff]
  exact ⟨fun ⟨x, h1, h2, h3⟩ => ⟨x, h1, h3, h2⟩, fun ⟨x, h1, h2, h3⟩ => ⟨x, h1, h3, h2⟩⟩
theorem pap_at {t : Txt} {p : Nat} (hp : p < (tPapers t).length) : (tPapers t)[p]? = some (papT t p) := by
  unfold papT
  rw [List.getElem?_eq_getElem hp]
  rfl
/-- the class' sets of cells -/
theorem paper_C {P : Nat → Nat → Option Nat} {I : Nat → Nat → Int32} {J : Nat → Nat → Int64} {t : Txt} (hL : LandC (mm P I J) 14 t) {p q : Nat} (hp : p < (tPapers t).length) (hq : q < (tPapers t).length) : (I 18 p &&& I 18 q = 0) ↔ ovB t p q = false := by
  have g := hL.2.2.2.2.2.2.2.2.1
  obtain ⟨s, s1, s2', s3⟩ := g p _ (pap_at hp)
  obtain ⟨u, u1, u2', u3⟩ := g q _ (pap_at hq)
  have s2 : I 18 p = nI s := s2'
  have u2 : I 18 q = nI u := u2'
  rw [s2, u2, andN (by omega) (by omega)]
  have lt : s &&& u < 2 ^ 25 := Nat.and_lt_two_pow _ u1
  have e : nI (s &&& u) = 0 ↔ s &&& u = 0 := nI_eqI (b := 0) (by omega) (by omega)
  rw [e]
  constructor
  · intro h
    cases ho : ovB t p q with
    | false => rfl
    | true =>
      obtain ⟨x, x1, x2, x3⟩ := ovB_iff.mp ho
      have hb : (s &&& u).testBit x = true := by rw [Nat.testBit_and, s3, u3, decide_eq_true x1, x2, x3]; rfl
      rw [h, Nat.zero_testBit] at hb
      cases hb
  · intro h
    apply Classical.byContradiction
    intro hn
    obtain ⟨x, hx⟩ := Nat.exists_testBit_of_ne_zero hn
    rw [Nat.testBit_and, s3, u3, Bool.and_eq_true, Bool.and_eq_true, Bool.and_eq_true, decide_eq_true_iff] at hx
    have : ovB t p q = true := ovB_iff.mpr ⟨x, hx.1.1, hx.1.2, hx.2.2⟩
    rw [h] at this
    cases this
theorem overlap_M {P : Nat → Nat → Option Nat} (hP : GP P) {I : Nat → Nat → Int32} {J : Nat → Nat → Int64} {t : Txt} (hw : wfT t) (hA : LandA (I 165) 0 t) {p q : Nat} (hp : p < (tPapers t).length) (hq : q < (tPapers t).length) : F_X12_overlap 164 (nI p) (nI q) (mm P I J) = some (if ovB t p q then 1 else 0, mm P I J) := by
  have hN := tN_le hw
  have hn := hw.2.2.2.2.2.1.1
  have L := all_loop (f := F_X12_overlap_2b 164 (nI p) (nI q)) (M := mm P I J) (fun x => !(under (tW t) (papT t p).1 (papT t p).2 x && under (tW t) (papT t q).1 (papT t q).2 x)) (tN t) (0, mm P I J) (1, mm P I J) (fun j hj => ?_) ?_ (by omega)
  · unfold F_X12_overlap F_X12_overlap_2
    rw [L]
    unfold ovB
    cases allN (fun x => !(under (tW t) (papT t p).1 (papT t p).2 x && under (tW t) (papT t q).1 (papT t q).2 x)) (tN t) <;> rfl
  · have ic := isCell_at hP (J := J) hw hA (j := j) (by omega)
    rw [if_pos hj] at ic
    have o1 := overM (mm_G (I := I) (J := J) hP) hw (show LandA ((mm P I J).2.1 165) 0 t from hA) (pap_at hp) hj
    have o2 := overM (mm_G (I := I) (J := J) hP) hw (show LandA ((mm P I J).2.1 165) 0 t from hA) (pap_at hq) hj
    simp only [F_X12_overlap_2b, F_X12_overlap_31, F_X12_overlap_29, ↓bOM hP, ↓bs ic, ↓reduceIte, one_ne, ↓bs o1, ↓bs o2, xz1, Option.bind_some, Option.map_some, nI_1]
    cases under (tW t) (papT t p).1 (papT t p).2 j <;> cases under (tW t) (papT t q).1 (papT t q).2 j <;> rfl
  · have ic := isCell_at hP (J := J) hw hA (j := tN t) (by omega)
    rw [if_neg (by omega)] at ic
    simp only [F_X12_overlap_2b, F_X12_overlap_37, ↓bOM hP, ↓bs ic, ↓reduceIte, xz0, Option.bind_some, Option.map_some]
/-! ===== cliques ===== -/
def pairB (t : Txt) (s p q : Nat) : Bool := !(s.testBit p && s.testBit q) || ovB t p q
def cliqB (t : Txt) (s : Nat) : Bool := allN (fun p => allN (pairB t s p) p) (tPapers t).length
theorem bitAnd : ∀ s, s < 64 → ∀ p, p < 6 → ∀ q, q < 6 → ((((nI s >>> (nI p &&& 31)) &&& (nI s >>> (nI q &&& 31))) &&& (1 : Int32) = 0) ↔ (s.testBit p && s.testBit q) = false) := by decide +kernel
theorem cliq_C {P : Nat → Nat → Option Nat} (hP : GP P) {I : Nat → Nat → Int32} {J : Nat → Nat → Int64} {t : Txt} (hw : wfT t) (hL : LandC (mm P I J) 14 t) {s : Nat} (hs : s < 64) : F_X9_allOverlap 14 (nI s) (mm P I J) = some (if cliqB t s then 1 else 0, mm P I J) := by
  have hn := hw.2.2.2.2.2.1.1
  have l6 : I 14 6 = nI (tPapers t).length := hL.2.2.2.2.2.2.1
  have inner : ∀ p, p < (tPapers t).length → F_X9_allOverlap_12 14 (nI s) (nI p) 0 (mm P I J) = some (if allN (pairB t s p) p then .inl (nI (p + 1), mm P I J) else .inr (0, mm P I J)) := by
    intro p hp
    refine all_loop (f := F_X9_allOverlap_12b 14 (nI s) (nI p)) (M := mm P I J) (pairB t s p) p (.inl (nI (p + 1), mm P I J)) (.inr (0, mm P I J)) (fun q hq => ?_) ?_ (by omega)
    · have c1 : ¬ nI p ≤ nI q := nI_ge hq (by omega)
      have ba := bitAnd s hs p (by omega) q (by omega)
      have pc := paper_C hL hp (q := q) (by omega)
      unfold pairB
      simp only [F_X9_allOverlap_12b, ↓reduceIte, c1, ba]
      cases hb : (s.testBit p && s.testBit q) with
      | false =>
        simp only [F_X9_allOverlap_34, F_X9_allOverlap_59, ↓reduceIte, nI_1]
        rfl
      | true =>
        simp (disch := omega) only [F_X9_allOverlap_34, F_X9_allOverlap_59, F_X9_allOverlap_57, Bool.true_eq_false, ↓reduceIte, one_ne, ↓bOC hP, ↓bAC, pc, nI_1, xz0, Option.bind_some, Option.map_some]
        cases ovB t p q <;> rfl
    · have c1 : nI p ≤ nI p := nI_le (Nat.le_refl _) (by omega)
      simp only [F_X9_allOverlap_12b, F_X9_allOverlap_65, ↓reduceIte, c1, nI_1, Option.map_some]
  have L := all_loop (f := F_X9_allOverlap_2b 14 (nI s)) (M := mm P I J) (fun p => allN (pairB t s p) p) (tPapers t).length (1, mm P I J) (0, mm P I J) (fun p hp => ?_) ?_ (by omega)
  · unfold F_X9_allOverlap F_X9_allOverlap_2 cliqB
    rw [L]
    cases allN (fun p => allN (pairB t s p) p) (tPapers t).length <;> rfl
  · have c1 : ¬ nI (tPapers t).length ≤ nI p := nI_ge hp (by omega)
    simp only [F_X9_allOverlap_2b, ↓bOC hP, l6, ↓reduceIte, c1, inner p hp]
  · have c1 : nI (tPapers t).length ≤ nI (tPapers t).length := nI_le (Nat.le_refl _) (by omega)
    simp only [F_X9_allOverlap_2b, F_X9_allOverlap_71, ↓bOC hP, l6, ↓reduceIte, c1, xz1, Option.bind_some, Option.map_some]
theorem cliq_M {P : Nat → Nat → Option Nat} (hP : GP P) {I : Nat → Nat → Int32} {J : Nat → Nat → Int64} {t : Txt} (hw : wfT t) (hA : LandA (I 165) 0 t) {s : Nat} (hs : s < 64) : F_X12_isClique 164 (nI s) (mm P I J) = some (if cliqB t s then 1 else 0, mm P I J) := by
  have hn := hw.2.2.2.2.2.1.1
  have a5 : I 165 5 = nI (tPapers t).length := hA.2.2.2.2.2.1
  have inner : ∀ p, p < (tPapers t).length → F_X12_isClique_14 164 (nI s) (nI p) 0 (mm P I J) = some (if allN (pairB t s p) p then .inl (nI (p + 1), mm P I J) else .inr (0, mm P I J)) := by
    intro p hp
    refine all_loop (f := F_X12_isClique_14b 164 (nI s) (nI p)) (M := mm P I J) (pairB t s p) p (.inl (nI (p + 1), mm P I J)) (.inr (0, mm P I J)) (fun q hq => ?_) ?_ (by omega)
    · have c1 : ¬ nI p ≤ nI q := nI_ge hq (by omega)
      have i1 := isInM (m := s) (c := p) (by omega) (by omega) (mm P I J)
      have i2 := isInM (m := s) (c := q) (by omega) (by omega) (mm P I J)
      have ov := overlap_M hP (J := J) hw hA hp (q := q) (by omega)
      unfold pairB
      simp only [F_X12_isClique_14b, F_X12_isClique_48, F_X12_isClique_46, ↓reduceIte, c1, ↓bs i1, ↓bs i2, ↓bOM hP, ↓bs ov, nI_1, xz0, Option.bind_some, Option.map_some]
      cases s.testBit p <;> cases s.testBit q <;> cases ovB t p q <;> rfl
    · have c1 : nI p ≤ nI p := nI_le (Nat.le_refl _) (by omega)
      simp only [F_X12_isClique_14b, F_X12_isClique_54, ↓reduceIte, c1, nI_1, Option.map_some]
  have L := all_loop (f := F_X12_isClique_2b 164 (nI s)) (M := mm P I J) (fun p => allN (pairB t s p) p) (tPapers t).length (1, mm P I J) (0, mm P I J) (fun p hp => ?_) ?_ (by omega)
  · unfold F_X12_isClique F_X12_isClique_2 cliqB
    rw [L]
    cases allN (fun p => allN (pairB t s p) p) (tPapers t).length <;> rfl
  · have c1 : ¬ nI (tPapers t).length ≤ nI p := nI_ge hp (by omega)
    simp only [F_X12_isClique_2b, ↓bOM hP, ↓bAM, a5, ↓reduceIte, c1, inner p hp]
  · have c1 : nI (tPapers t).length ≤ nI (tPapers t).length := nI_le (Nat.le_refl _) (by omega)
    simp only [F_X12_isClique_2b, F_X12_isClique_60, ↓bOM hP, ↓bAM, a5, ↓reduceIte, c1, xz1, Option.bind_some, Option.map_some]
def bestQ (t : Txt) : Nat → Nat
  | 0 => 0
  | j + 1 => if cntN (j + 1) 25 ≤ cntN (bestQ t j) 25 then bestQ t j else if cliqB t (j + 1) then j + 1 else bestQ t j
theorem bestQ_le (t : Txt) : ∀ j, bestQ t j ≤ j
  | 0 => Nat.le_refl _
  | j + 1 => by
    have := bestQ_le t j
    unfold bestQ
    repeat' split
    all_goals omega
theorem sim_clique (a1 : Int32) : xSim INV (F_X11_clique 0 a1) (F_X12_clique 164 a1) := by
  refine xSim_qn fun n M hn hI => ?_
  obtain ⟨P, I, J, rfl, hP⟩ := G_mm hI.1
  obtain ⟨t, c, cs, nx, hw, hL, hA, hc, hC, hD, -⟩ := INV_sh hI
  have h6 := hw.2.2.2.2.2.1.1
  have l6 : I 14 6 = nI (tPapers t).length := hL.2.2.2.2.2.2.1
  have hA1 : LandA (xu I 164 0 0 165) 0 t := LandA_cg (A := I 165) hw (fun x _ => xu_o (by omega)) hA
  have a5 : xu I 164 0 0 165 5 = nI (tPapers t).length := hA1.2.2.2.2.2.1
  have z0 : (0 : Int64).toInt = 0 := by decide
  have z1 : (1 : Int64).toInt = 1 := by decide
  have y1 : (1 : Int32).toInt = 1 := by decide
  have pw : 2 ^ (tPapers t).length ≤ 2 ^ 6 := Nat.pow_le_pow_right (by omega) h6
  have pp := Nat.two_pow_pos (tPapers t).length
  have sh := one_shl (c := (tPapers t).length) (by omega)
  have bl := bestQ_le t
  have cl : ∀ x, cntN x 25 ≤ 25 := fun x => cntN_le x 25
  by_cases h : 0 ≤ a1.toInt ∧ a1.toInt ≤ 1
  · obtain ⟨w, hw2, rfl⟩ := cell_of (a := a1) (n := 2) (by omega) (by omega)
    have C : F_X9_greatestClique 14 (mm P I J) = some (nI (bestQ t (2 ^ (tPapers t).length - 1)), mm P I J) := by
      unfold F_X9_greatestClique F_X9_greatestClique_4
      refine xit_run (fun j => (nI (bestQ t j), nI (j + 1), mm P I J)) (2 ^ (tPapers t).length - 1) rfl (fun j hj => ?_) ?_ (by omega)
      · have c1 : ¬ nI (2 ^ (tPapers t).length) ≤ nI (j + 1) := nI_ge (by omega) (by omega)
        have b1 := bitCount_C (m := j + 1) (by omega) (mm P I J)
        have b2 := bitCount_C (m := bestQ t j) (by have := bl j; omega) (mm P I J)
        have q := cliq_C hP (J := J) hw hL (s := j + 1) (by omega)
        have le : nI (cntN (j + 1) 25) ≤ nI (cntN (bestQ t j) 25) ↔ cntN (j + 1) 25 ≤ cntN (bestQ t j) 25 := nI_leI (by have := cl (j + 1); omega) (by have := cl (bestQ t j); omega)
        simp only [F_X9_greatestClique_4b, F_X9_greatestClique_35, ↓bOC hP, l6, sh, ↓reduceIte, c1, ↓bs b1, ↓bs b2, le, ↓bs q, nI_1, bestQ]
        cases cliqB t (j + 1)
        · simp
        · simp only [↓reduceIte, one_ne]
          split <;> rfl
      · have c1 : nI (2 ^ (tPapers t).length) ≤ nI (2 ^ (tPapers t).length - 1 + 1) := nI_le (by omega) (by omega)
        simp only [F_X9_greatestClique_4b, F_X9_greatestClique_41, ↓bOC hP, l6, sh, ↓reduceIte, c1, Option.map_some]
    have bm := bitCount_C (m := bestQ t (2 ^ (tPapers t).length - 1)) (by have := bl (2 ^ (tPapers t).length - 1); omega) (mm P I J)
    have bo := bitsOf_M (m := bestQ t (2 ^ (tPapers t).length - 1)) (by have := bl (2 ^ (tPapers t).length - 1); omega) (mm P (xu I 164 0 0) J)
    have c0 := nI_pos (n := w) (by omega)
    have c1 : nI w ≤ (1 : Int32) := nI_le (b := 1) (by omega) (by omega)
    refine ⟨if nI w = 0 then nI (cntN (bestQ t (2 ^ (tPapers t).length - 1)) 25) else nI (bestQ t (2 ^ (tPapers t).length - 1)), mm P I J, mm P (xu I 164 0 0) J, ?_, Sc.rf, ?_, thr_Sc⟩
    · simp only [F_X11_clique, ↓reduceIte, c0, c1, ↓bOC hP, ↓bs C, ↓bs bm]
      split <;> rfl
    · unfold F_X12_clique F_X12_clique_22
      simp only [↓bOM hP, within_lit, z0, z1, h, and_self, ↓reduceIte, ↓Option.bind_some, one_ne]
      refine xit_run (fun j => (nI (bestQ t j), nI (j + 1), mm P (xu I 164 0 0) J)) (2 ^ (tPapers t).length - 1) rfl (fun j hj => ?_) ?_ (by omega)
      · have c1 : ¬ nI (2 ^ (tPapers t).length) ≤ nI (j + 1) := nI_ge (by omega) (by omega)
        have b1 := bitsOf_M (m := j + 1) (by omega) (mm P (xu I 164 0 0) J)
        have b2 := bitsOf_M (m := bestQ t j) (by have := bl j; omega) (mm P (xu I 164 0 0) J)
        have q := cliq_M hP (J := J) hw hA1 (s := j + 1) (by omega)
        have le : nI (cntN (j + 1) 25) ≤ nI (cntN (bestQ t j) 25) ↔ cntN (j + 1) 25 ≤ cntN (bestQ t j) 25 := nI_leI (by have := cl (j + 1); omega) (by have := cl (bestQ t j); omega)
        simp only [F_X12_clique_22b, F_X12_clique_55, ↓bOM hP, ↓bAM, a5, sh, ↓reduceIte, c1, ↓bs b1, ↓bs b2, le, ↓bs q, nI_1, bestQ]
        cases cliqB t (j + 1)
        · simp
        · simp only [↓reduceIte, one_ne]
          split <;> rfl
      · have c1 : nI (2 ^ (tPapers t).length) ≤ nI (2 ^ (tPapers t).length - 1 + 1) := nI_le (by omega) (by omega)
        simp only [F_X12_clique_22b, F_X12_clique_61, ↓bOM hP, ↓bAM, a5, sh, ↓reduceIte, c1, ↓bs bo]
        split <;> rfl
  · refine ⟨-2, mm P I J, thr (mm P I J), ?_, Sc.rf, ?_, thr_Sc⟩
    · unfold F_X11_clique
      by_cases h0 : a1 < 0
      · rw [if_pos h0]
      · have h1 := toInt_nneg h0
        rw [if_neg h0, if_neg (show ¬ a1 ≤ (1 : Int32) from fun z => by have := Int32.le_iff_toInt_le.mp z; omega)]
    · simp only [F_X12_clique, ↓bOM hP, within_lit, ↓Option.bind_some, z0, z1, if_neg h, ↓reduceIte, thr_mm]
