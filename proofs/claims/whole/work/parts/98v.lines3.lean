/-! ===== papers ===== -/
def ovR (z s : Nat) : Nat → Nat
  | 0 => s
  | m + 1 => ovR z s m ||| 2 ^ (z + m)
theorem ovR_bit (z s c : Nat) : ∀ m, (ovR z s m).testBit c = true ↔ s.testBit c = true ∨ (z ≤ c ∧ c < z + m)
  | 0 => by
    show s.testBit c = true ↔ _
    constructor
    · exact Or.inl
    · rintro (h | h)
      · exact h
      · omega
  | m + 1 => by
    show (ovR z s m ||| 2 ^ (z + m)).testBit c = true ↔ _
    rw [Nat.testBit_or, Bool.or_eq_true, ovR_bit z s c m, two_bit]
    constructor
    · rintro ((h | h) | h)
      · exact Or.inl h
      · exact Or.inr (by omega)
      · exact Or.inr (by omega)
    · rintro (h | h)
      · exact Or.inl (Or.inl h)
      · by_cases e : z + m = c
        · exact Or.inr e
        · exact Or.inl (Or.inr (by omega))
theorem ovR_lt {z s : Nat} (hs : s < 2 ^ 25) : ∀ m, z + m ≤ 25 → ovR z s m < 2 ^ 25
  | 0, _ => hs
  | m + 1, h => Nat.or_lt_two_pow (ovR_lt hs m (by omega)) (Nat.pow_lt_pow_right (by omega) (by omega))
def ovC (w top left m : Nat) : Nat → Nat
  | 0 => 0
  | j + 1 => ovR ((top + j) * w + left) (ovC w top left m j) m
theorem ovR_s (z s m : Nat) : ovR z s (m + 1) = ovR z s m ||| 2 ^ (z + m) := rfl
theorem ovC_s (w top left m j : Nat) : ovC w top left m (j + 1) = ovR ((top + j) * w + left) (ovC w top left m j) m := rfl
theorem ovC_0 (w top left m : Nat) : ovC w top left m 0 = 0 := rfl
theorem ovC_bit (w top left m c : Nat) : ∀ j, (ovC w top left m j).testBit c = true ↔ ∃ i, i < j ∧ (top + i) * w + left ≤ c ∧ c < (top + i) * w + left + m
  | 0 => by
    show (0 : Nat).testBit c = true ↔ _
    rw [Nat.zero_testBit]
    constructor
    · intro h; cases h
    · rintro ⟨i, h, -⟩; omega
  | j + 1 => by
    show (ovR ((top + j) * w + left) (ovC w top left m j) m).testBit c = true ↔ _
    rw [ovR_bit, ovC_bit w top left m c j]
    constructor
    · rintro (⟨i, h1, h2⟩ | h)
      · exact ⟨i, by omega, h2⟩
      · exact ⟨j, by omega, h⟩
    · rintro ⟨i, h1, h2⟩
      by_cases e : i = j
      · rw [e] at h2; exact Or.inr h2
      · exact Or.inl ⟨i, by omega, h2⟩
theorem btw_arith {w r top bot lf rt c : Nat} (w1 : 1 ≤ w) (w5 : w ≤ 5) (o1 : top ≤ bot) (o2 : lf ≤ rt) (o3 : rt < w) (rows : ∀ row, row ≤ bot → row * w + rt < r * w) :
    (∃ i, i < bot - top + 1 ∧ (top + i) * w + lf ≤ c ∧ c < (top + i) * w + lf + (rt - lf + 1)) ↔ c < r * w ∧ (top ≤ c / w ∧ c / w ≤ bot) ∧ lf ≤ c % w ∧ c % w ≤ rt := by
  have dm := Nat.div_add_mod c w
  have ml := Nat.mod_lt c (show 0 < w by omega)
  constructor
  · rintro ⟨i, i1, i2, i3⟩
    have rw' := rows (top + i) (by omega)
    have q : c / w = top + i := by
      apply Nat.div_eq_of_lt_le
      · omega
      · rw [Nat.add_mul, Nat.one_mul]
        omega
    rw [q, Nat.mul_comm] at dm
    exact ⟨by omega, ⟨by omega, by omega⟩, by omega, by omega⟩
  · rintro ⟨i1, ⟨i2, i3⟩, i4, i5⟩
    rw [Nat.mul_comm] at dm
    refine ⟨c / w - top, by omega, ?_, ?_⟩
    · rw [show top + (c / w - top) = c / w by omega]
      omega
    · rw [show top + (c / w - top) = c / w by omega]
      omega
theorem btw84 {P : Nat → Nat → Option Nat} (hP : GP P) {I : Nat → Nat → Int32} {J : Nat → Nat → Int64} {w lf rt s row : Nat} (bo : Int32) (r1 : I 3 1 = nI w) (o2 : lf ≤ rt) (hs : s < 2 ^ 25) (hrw : row * w + rt < 25) : F_X3_cellsBetween_84 3 bo (nI lf) (nI rt) (nI s) (nI row) (nI lf) (mm P I J) = some (.inl (nI (ovR (row * w + lf) s (rt - lf + 1)), nI (row + 1), mm P I J)) := by
  unfold F_X3_cellsBetween_84
  refine xit_run (fun m => (nI (ovR (row * w + lf) s m), nI (lf + m), mm P I J)) (rt - lf + 1) rfl (fun m hm => ?_) ?_ (by omega)
  · have c1 : ¬ nI rt < nI (lf + m) := nI_nlt (by omega) (by omega)
    have ix : nI row * nI w + nI (lf + m) = nI (row * w + lf + m) := by rw [pk_mul, nI_add, Nat.add_assoc]
    have bl := ovR_lt (z := row * w + lf) hs m (by omega)
    have p : 2 ^ (row * w + lf + m) < 2 ^ 25 := Nat.pow_lt_pow_right (by omega) (by omega)
    unfold F_X3_cellsBetween_84b
    simp (disch := omega) only [c1, ↓reduceIte, ↓bOR hP, r1, ix, one_shl, orN, Option.bind_some, nI_1, ovR_s]
    rfl
  · have c1 : nI rt < nI (lf + (rt - lf + 1)) := nI_lt (by omega) (by omega)
    unfold F_X3_cellsBetween_84b F_X3_cellsBetween_114
    simp only [c1, ↓reduceIte, nI_1]
theorem ovC_lt {w top bot lf rt : Nat} (rows : ∀ row, row ≤ bot → row * w + rt < 25) (o2 : lf ≤ rt) : ∀ j, j + top ≤ bot + 1 → ovC w top lf (rt - lf + 1) j < 2 ^ 25
  | 0, _ => Nat.two_pow_pos 25
  | j + 1, hj => by
    have := rows (top + j) (by omega)
    rw [ovC_s]
    exact ovR_lt (ovC_lt rows o2 j (by omega)) _ (by omega)
theorem btw73 {P : Nat → Nat → Option Nat} (hP : GP P) {I : Nat → Nat → Int32} {J : Nat → Nat → Int64} {w top bot lf rt : Nat} (r1 : I 3 1 = nI w) (o1 : top ≤ bot) (o2 : lf ≤ rt) (b5 : bot < 100) (rows : ∀ row, row ≤ bot → row * w + rt < 25) : F_X3_cellsBetween_73 3 (nI bot) (nI lf) (nI rt) 0 (nI top) (mm P I J) = some (nI (ovC w top lf (rt - lf + 1) (bot - top + 1)), mm P I J) := by
  unfold F_X3_cellsBetween_73
  refine xit_run (fun j => (nI (ovC w top lf (rt - lf + 1) j), nI (top + j), mm P I J)) (bot - top + 1) ?_ (fun j hj => ?_) ?_ (by omega)
  · show (nI (ovC w top lf (rt - lf + 1) 0), nI (top + 0), mm P I J) = _
    rw [ovC_0]
    rfl
  · have c1 : ¬ nI bot < nI (top + j) := nI_nlt (by omega) (by omega)
    have inn := btw84 hP (J := J) (s := ovC w top lf (rt - lf + 1) j) (row := top + j) (nI bot) r1 o2 (ovC_lt rows o2 j (by omega)) (rows (top + j) (by omega))
    unfold F_X3_cellsBetween_73b
    simp only [c1, ↓reduceIte, inn, ovC_s]
    rfl
  · have c1 : nI bot < nI (top + (bot - top + 1)) := nI_lt (by omega) (by omega)
    unfold F_X3_cellsBetween_73b F_X3_cellsBetween_120
    simp only [c1, ↓reduceIte]
theorem btwAll {P : Nat → Nat → Option Nat} (hP : GP P) {I : Nat → Nat → Int32} {J : Nat → Nat → Int64} {w a b top bot lf rt s : Nat} (r1 : I 3 1 = nI w) (w1 : 1 ≤ w) (w5 : w ≤ 5) (ha : a < 25) (hb : b < 25) (ht : min (a / w) (b / w) = top) (hbo : max (a / w) (b / w) = bot) (hl : min (a % w) (b % w) = lf) (hrt : max (a % w) (b % w) = rt) (out : F_X3_cellsBetween_73 3 (nI bot) (nI lf) (nI rt) 0 (nI top) (mm P I J) = some (nI s, mm P I J)) : F_X3_cellsBetween 3 (nI a) (nI b) (mm P I J) = some (nI s, mm P I J) := by
  have wz : ¬ nI w = 0 := nI_ne0 (by omega) (by omega)
  have da : nI a / nI w = nI (a / w) := pk_div (by omega) (by omega) (by omega)
  have db : nI b / nI w = nI (b / w) := pk_div (by omega) (by omega) (by omega)
  have ra : nI a - nI (a / w) * nI w = nI (a % w) := by rw [← da]; exact pk_rem (by omega) (by omega) (by omega)
  have rb : nI b - nI (b / w) * nI w = nI (b % w) := by rw [← db]; exact pk_rem (by omega) (by omega) (by omega)
  have dal := Nat.div_le_self a w
  have dbl := Nat.div_le_self b w
  have mal := Nat.mod_le a w
  have mbl := Nat.mod_le b w
  have m1 : F_J9_min_7cf53 (nI (a / w)) (nI (b / w)) (mm P I J) = some (nI top, mm P I J) := by rw [← ht]; exact minJ (by omega) (by omega) _
  have m2 : F_J9_max_7cf53 (nI (a / w)) (nI (b / w)) (mm P I J) = some (nI bot, mm P I J) := by rw [← hbo]; exact maxJ (by omega) (by omega) _
  have m3 : F_J9_min_7cf53 (nI (a % w)) (nI (b % w)) (mm P I J) = some (nI lf, mm P I J) := by rw [← hl]; exact minJ (by omega) (by omega) _
  have m4 : F_J9_max_7cf53 (nI (a % w)) (nI (b % w)) (mm P I J) = some (nI rt, mm P I J) := by rw [← hrt]; exact maxJ (by omega) (by omega) _
  have gI : ∀ {β : Type} (g : Int32 → Option β), (xgI (mm P I J) 3 3 1).bind g = g (nI w) := fun g => by rw [bs (m_gI (by decide +kernel) I J 1) g, r1]
  unfold F_X3_cellsBetween
  rw [gI, if_neg wz, gI, if_neg wz, da, db, bs m1, gI, if_neg wz, gI, if_neg wz, da, db, bs m2, gI, if_neg wz, gI, if_neg wz, da, db, ra, rb, bs m3, gI, if_neg wz, gI, if_neg wz, da, db, ra, rb, bs m4]
  exact out
theorem between_C {P : Nat → Nat → Option Nat} (hP : GP P) {I : Nat → Nat → Int32} {J : Nat → Nat → Int64} {t : Txt} {a b : Nat} (hw : wfT t) (r1 : I 3 1 = nI (tW t)) (ha : a < tN t) (hb : b < tN t) :
    ∃ s, F_X3_cellsBetween 3 (nI a) (nI b) (mm P I J) = some (nI s, mm P I J) ∧ s < 2 ^ 25 ∧ ∀ c, s.testBit c = (decide (c < tN t) && under (tW t) a b c) := by
  have hN := tN_le hw
  have w1 := hw.2.1.1
  have w5 := hw.2.1.2
  have r5 := hw.1.2
  have mal := Nat.mod_lt a (show 0 < tW t by omega)
  have mbl := Nat.mod_lt b (show 0 < tW t by omega)
  have dar : a / tW t < tR t := Nat.div_lt_of_lt_mul (by rw [Nat.mul_comm]; exact ha)
  have dbr : b / tW t < tR t := Nat.div_lt_of_lt_mul (by rw [Nat.mul_comm]; exact hb)
  obtain ⟨top, ht⟩ : ∃ x, min (a / tW t) (b / tW t) = x := ⟨_, rfl⟩
  obtain ⟨bot, hbo⟩ : ∃ x, max (a / tW t) (b / tW t) = x := ⟨_, rfl⟩
  obtain ⟨lf, hl⟩ : ∃ x, min (a % tW t) (b % tW t) = x := ⟨_, rfl⟩
  obtain ⟨rt, hrt⟩ : ∃ x, max (a % tW t) (b % tW t) = x := ⟨_, rfl⟩
  have o1 : top ≤ bot := by omega
  have o2 : lf ≤ rt := by omega
  have o3 : rt < tW t := by omega
  have o4 : bot < tR t := by omega
  have rows : ∀ row, row ≤ bot → row * tW t + rt < tR t * tW t := fun row hrow => by
    have h := Nat.mul_le_mul_right (tW t) (show row + 1 ≤ tR t by omega)
    rw [Nat.add_mul, Nat.one_mul] at h
    omega
  have hNe : tN t = tR t * tW t := rfl
  have rows25 : ∀ row, row ≤ bot → row * tW t + rt < 25 := fun row hrow => by
    have := rows row hrow
    omega
  refine ⟨ovC (tW t) top lf (rt - lf + 1) (bot - top + 1), btwAll hP r1 w1 w5 (by omega) (by omega) ht hbo hl hrt (btw73 hP r1 o1 o2 (by omega) rows25), ovC_lt rows25 o2 _ (by omega), fun c => ?_⟩
  rw [Bool.eq_iff_iff, ovC_bit]
  unfold under amid
  simp only [Bool.and_eq_true, decide_eq_true_iff]
  rw [ht, hbo, hl, hrt, hNe]
  exact btw_arith w1 w5 o1 o2 o3 rows
def tAddPaper (t : Txt) (q : Nat × Nat) : Txt := (t.1, t.2.1, t.2.2.1, t.2.2.2.1, t.2.2.2.2.1, tPapers t ++ [q], t.2.2.2.2.2.2)
theorem LB_paper {P : Nat → Nat → Option Nat} {J : Nat → Nat → Int64} {I K : Nat → Nat → Int32} {t : Txt} {c : Cst} {L : List Int32} {p x y s : Nat} (g : LB P J I K t c L) (hp : (tPapers t).length = p) (p6 : p < 6) (q1 : K 168 (31 + 2 * p) = nI x) (q2 : K 168 (32 + 2 * p) = nI y) (hx : x < tN t) (hy : y < tN t) (hs : s < 2 ^ 25) (hb : ∀ c, s.testBit c = (decide (c < tN t) && under (tW t) x y c)) :
    LB P J (xu (xu I 7 p (nI s)) 3 6 (nI (p + 1))) (xu K 168 5 (nI (p + 1))) (tAddPaper t (x, y)) c L := by
  obtain ⟨h1, h2, h3, h4, h5, h6, ⟨l1, l2, l3⟩, h8, h9, h10, h11, h12⟩ := g
  have wp := h1.2.2.2.2.1.1
  have wd := h1.2.2.2.2.2.2.1.1
  have wh := h2.2.1.1
  have hN := tN_le h1
  have len : (tPapers t ++ [(x, y)]).length = p + 1 := by rw [List.length_append, hp]; rfl
  have ck : ∀ i, ¬ i = 5 → xu K 168 5 (nI (p + 1)) 168 i = K 168 i := fun i hi => xu_o (by omega)
  have cI : ∀ a i, ¬ ((a = 3 ∧ i = 6) ∨ (a = 7 ∧ i = p)) → xu (xu I 7 p (nI s)) 3 6 (nI (p + 1)) a i = I a i := fun a i hi => by rw [xu_o (by omega), xu_o (by omega)]
  refine ⟨?_, h2, ?_, ?_, ?_, CoastA_pk (t := t) h1 h2 (fun i hi => ck i (by omega)) h6, ⟨by rw [cI _ _ (by omega)]; exact l1, by rw [ck _ (by omega)]; exact l2, fun j o hj => by rw [cI _ _ (by omega), ck _ (by omega)]; exact l3 j o hj⟩, h8, by rw [cI _ _ (by omega)]; exact h9, ⟨fun z => by rw [ck _ (by omega)]; exact h10.1 z, fun z => by rw [ck _ (by omega)]; exact h10.2 z⟩, (fun i hi => by rw [ck _ (by omega)]; exact h11 i hi), h12⟩
  · obtain ⟨x1, x2, x3, x4, x5, ⟨x6, x7⟩, x8⟩ := h1
    refine ⟨x1, x2, x3, x4, x5, ⟨by show (tPapers t ++ [(x, y)]).length ≤ 6; omega, fun q hq => ?_⟩, x8⟩
    have hq' : q ∈ tPapers t ++ [(x, y)] := hq
    rcases List.mem_append.mp hq' with hq | hq
    · exact x7 q hq
    · rw [List.mem_singleton.mp hq]
      exact ⟨hx, hy⟩
  · obtain ⟨x0, x1, x2, x3, x4, x5, x6, x7, x8, x9, f1', e1', f2', e2', m', y1, y2, y3, y4, y5, y6, y7, y8, y9, y10⟩ := h3
    refine ⟨(cI _ _ (by omega)).trans x0, (cI _ _ (by omega)).trans x1, (cI _ _ (by omega)).trans x2, (cI _ _ (by omega)).trans x3, (cI _ _ (by omega)).trans x4, (cI _ _ (by omega)).trans x5, ?_, fun p' q hq => ?_, fun p' q hq => ?_, fun o ho => ?_, f1', e1', f2', e2', m', (cI _ _ (by omega)).trans y1, y2, (cI _ _ (by omega)).trans y3, (cI _ _ (by omega)).trans y4, (cI _ _ (by omega)).trans y5, (cI _ _ (by omega)).trans y6, y7, y8, codeAt_cg (fun i hi => cI 9 i (by omega)) y9, codeAt_cg (fun i hi => cI 9 i (by omega)) y10⟩
    · show xu (xu I 7 p (nI s)) 3 6 (nI (p + 1)) 3 6 = nI (tPapers t ++ [(x, y)]).length
      rw [xu_self, len]
    · obtain ⟨u1, u2, u3⟩ := x7 p' q hq
      exact ⟨(cI _ _ (by omega)).trans u1, (cI _ _ (by omega)).trans u2, (cI _ _ (by omega)).trans u3⟩
    · rcases get_snoc (show (tPapers t ++ [(x, y)])[p']? = some q from hq) with ⟨z1, z2⟩ | ⟨z1, z2⟩
      · obtain ⟨s', u1, u2, u3⟩ := x8 p' q z2
        exact ⟨s', u1, (cI _ _ (by omega)).trans u2, u3⟩
      · rw [← z2, z1, hp]
        exact ⟨s, hs, by show xu (xu I 7 p (nI s)) 3 6 (nI (p + 1)) 7 p = nI s; rw [xu_o (by omega), xu_self], hb⟩
    · exact (congrArg Int32.toInt (cI 8 o (by omega))).trans (x9 o ho)
  · obtain ⟨x0, x1, x2, x3, x4, x5, x6, x7, x8, x9, x10, x11, x12, x13⟩ := h4
    refine ⟨(ck 0 (by omega)).trans x0, (ck _ (by omega)).trans x1, (ck _ (by omega)).trans x2, (ck _ (by omega)).trans x3, (ck _ (by omega)).trans x4, ?_, (ck _ (by omega)).trans x6, fun p' q hq => ?_, fun p' q hq => ?_, fun p' q hq => ?_, (ck _ (by omega)).trans x10, (ck _ (by omega)).trans x11, fun hne => ?_, fun hne => ?_⟩
    · show xu K 168 5 (nI (p + 1)) 168 5 = nI (tPapers t ++ [(x, y)]).length
      rw [xu_self, len]
    · obtain ⟨u1, u2, u3⟩ := x7 p' q hq
      exact ⟨(ck _ (by omega)).trans u1, (ck _ (by omega)).trans u2, (ck _ (by omega)).trans u3⟩
    · rcases get_snoc (show (tPapers t ++ [(x, y)])[p']? = some q from hq) with ⟨z1, z2⟩ | ⟨z1, z2⟩
      · obtain ⟨u1, u2⟩ := x8 p' q z2
        exact ⟨(ck _ (by omega)).trans u1, (ck _ (by omega)).trans u2⟩
      · rw [← z2, z1, hp]
        exact ⟨(ck _ (by omega)).trans (by rw [Nat.zero_add]; exact q1), (ck _ (by omega)).trans (by rw [Nat.zero_add]; exact q2)⟩
    · obtain ⟨u1, u2, u3⟩ := x9 p' q hq
      exact ⟨(ck _ (by omega)).trans u1, (ck _ (by omega)).trans u2, (ck _ (by omega)).trans u3⟩
    · obtain ⟨ff, ee, u1, u2, u3, u4⟩ := x12 hne
      exact ⟨ff, ee, (ck _ (by omega)).trans u1, (ck _ (by omega)).trans u2, u3, codeAt_cg (fun i hi => ck _ (by omega)) u4⟩
    · obtain ⟨ff, ee, u1, u2, u3, u4⟩ := x13 hne
      exact ⟨ff, ee, (ck _ (by omega)).trans u1, (ck _ (by omega)).trans u2, u3, codeAt_cg (fun i hi => ck _ (by omega)) u4⟩
  · obtain ⟨y1, y2, y3, y4, y5, y6⟩ := h5
    exact ⟨fun i hi => by rw [cI _ _ (by omega)]; exact y1 i hi, by rw [cI _ _ (by omega)]; exact y2, fun hh q hq => by rw [cI _ _ (by omega), cI _ _ (by omega)]; exact y3 hh q hq, by rw [cI _ _ (by omega)]; exact y4, by rw [cI _ _ (by omega)]; exact y5, by rw [cI _ _ (by omega)]; exact y6⟩
theorem line_paper {P : Nat → Nat → Option Nat} (hP : GP P) {I K : Nat → Nat → Int32} (J : Nat → Nat → Int64) {b : Nat → Nat} {n f e k : Nat} {t : Txt} {c : Cst} {L : List Int32} (h : St I K b n f e k) (g : LB P J I K t c L) (hk : k ≠ 30) (hL : L.length ≤ f) :
    ∃ I' K', F_X7_readPaper 1 (mm P I J) = some (mm P I' J) ∧ F_X12_readPaper 164 (mm P K J) = some (mm P K' J) ∧ LnO P J b n I K I' K' f t := by
  have hw := g.1
  have hN := tN_le hw
  obtain ⟨p, hp⟩ : ∃ p, (tPapers t).length = p := ⟨_, rfl⟩
  have pl := hw.2.2.2.2.2.1.1
  have c6 : I 3 6 = nI p := by rw [← hp]; exact g.2.2.1.2.2.2.2.2.2.1
  have k5 : K 168 5 = nI p := by rw [← hp]; exact g.2.2.2.1.2.2.2.2.2.1
  by_cases p6 : p < 6
  · obtain ⟨I1, K1, f1, e1, k1, a1, a2, a3, a4, a5, a6, a7⟩ := advB hP J h g hk
    obtain ⟨r2, r2', I2, K2, b1, b2, b3, b4, b5, b6⟩ := SB_cell hP J hw (Or.inr ⟨f1, e1, k1, a5, Nat.le_refl _⟩) a6.2.2.1.1 a6.2.2.1.2.1 a6.2.2.2.1.2.1 a6.2.2.2.1.2.2.1 (bar := 0) (bar0 (by omega))
    have g2 : LB P J I2 (xu K2 168 (31 + 2 * p) r2') t c L := (a6.rq b3 b4).pk (fun i hi => xu_o (fun z => hi (by unfold freeI; omega)))
    have sb2 : SB I2 (xu K2 168 (31 + 2 * p) r2') b n f1 := SB.pk (K := K2) (by
      rcases b6 with b6 | ⟨v, f', e', k', -, -, -, -, s1, s2⟩
      · exact Or.inl b6.1
      · exact Or.inr ⟨f', e', k', s1, by omega⟩) pk168
    obtain ⟨r3, r3', I3, K3, d1, d2, d3, d4, d5, d6⟩ := SB_cell hP J hw sb2 g2.2.2.1.1 g2.2.2.1.2.1 g2.2.2.2.1.2.1 g2.2.2.2.1.2.2.1 (bar := 0) (bar0 (by omega))
    have g3 : LB P J I3 (xu K3 168 (32 + 2 * p) r3') t c L := (g2.rq d3 d4).pk (fun i hi => xu_o (fun z => hi (by unfold freeI; omega)))
    have c1 : nI p < (6 : Int32) := nI_lt (b := 6) p6 (by omega)
    have c2 : ¬ nI p = (6 : Int32) := fun z => by have := (nI_eqI (b := 6) (by omega) (by omega)).mp z; omega
    have ix : (31 : Int32) + (2 : Int32) * nI p = nI (31 + 2 * p) := by rw [show (2 : Int32) = nI 2 from rfl, pk_mul]; exact nI_add 31 _
    have ix1 : nI (31 + 2 * p) + 1 = nI (32 + 2 * p) := by rw [nI_1]; congr 1; omega
    have h0 := h.2.2.2.1
    have fw : frW I I3 := (a3.W.tr b3.W).tr d3.W
    have fv : frV K (xu K3 168 (32 + 2 * p) r3') := (((a4.V.tr b4.V).tr frV.pt).tr d4.V).tr frV.pt
    rcases d6 with d6 | ⟨y, f3, e3, k3, rfl, rfl, y1, -, s3, s4⟩
    · have bd := d6.1.pk (K' := xu K3 168 (32 + 2 * p) r3') pk168
      have q1 := bd.2.1
      have q2 : ¬ xu K3 168 (32 + 2 * p) r3' 164 11 = 0 := by rw [← bd.2.2.1]; exact q1
      refine ⟨I3, xu K3 168 (32 + 2 * p) r3', ?_, ?_, fw, fv, Or.inl bd⟩
      · unfold F_X7_readPaper
        simp (disch := omega) only [↓bOR hP, c6, c1, ↓reduceIte, ↓bs a1, ↓bs b1, ↓bs d1, q1]
      · unfold F_X12_readPaper F_X12_readPaper_28
        simp (disch := omega) only [↓bOM hP, ↓bAM, k5, ↓Option.bind_some, ix, ix1, c2, ↓reduceIte, h0, ↓bs a2, ↓bs b2, ↓bs d2, q2]
    · have st := s3.pk (K' := xu K3 168 (32 + 2 * p) (nI y)) pk168
      have nb2 : ¬ Bd I2 (xu K2 168 (31 + 2 * p) r2') b n := fun z => (d5 z).no s3
      rcases b6 with b6 | ⟨x, f2, e2, k2, rfl, rfl, x1, -, -, -⟩
      · exact (nb2 (b6.1.pk pk168)).elim
      have q1 := st.2.2.1
      have q2 := st.2.2.2.1
      have w1 : xu K3 168 (32 + 2 * p) (nI y) 168 (31 + 2 * p) = nI x := by rw [xu_o (by omega), d4 _ _ (by omega), xu_self]
      obtain ⟨s, s5, s6, s7⟩ := between_C hP (I := I3) (J := J) hw g3.2.2.1.2.1 x1 y1
      have lb := LB_paper g3 hp p6 w1 xu_self x1 y1 s6 s7
      have c6' : I3 3 6 = nI p := by rw [← hp]; exact g3.2.2.1.2.2.2.2.2.2.1
      have c31 : I3 3 1 = nI (tW t) := g3.2.2.1.2.1
      have k5' : xu K3 168 (32 + 2 * p) (nI y) 168 5 = nI p := by have z := g3.2.2.2.1.2.2.2.2.2.1; rw [hp] at z; exact z
      have c3 : ¬ (6 : Int32) ≤ nI p := nI_ge (b := 6) p6 (by omega)
      have c4 : ¬ nI (tW t) ≤ 0 := nI_nle (by have := hw.2.1.1; omega) (by have := hw.2.1.2; omega)
      have y1' : ∀ v, xu I3 7 p v 3 6 = nI p := fun v => by rw [xu_o (by omega)]; exact c6'
      refine ⟨_, _, ?_, ?_, fw.tr ?_, fv.tr frV.pt, Or.inr ⟨f3, e3, k3, _, c, L, ?_, lb, by omega, by omega, rfl⟩⟩
      · unfold F_X7_readPaper F_X3_addPaper
        simp (disch := omega) only [↓bOR hP, c6, c1, ↓reduceIte, ↓bs a1, ↓bs b1, ↓bs d1, q1, c6', c3, c31, c4, ↓bs s5, ↓bAR, y1', nI_1, ↓Option.bind_some]
      · unfold F_X12_readPaper F_X12_readPaper_28
        simp (disch := omega) only [↓bOM hP, ↓bAM, k5, ↓Option.bind_some, ix, ix1, c2, ↓reduceIte, h0, ↓bs a2, ↓bs b2, ↓bs d2, q2, k5', nI_1]
      · exact fun a i z => by rw [xu_o (by omega), xu_o (by omega)]
      · exact st.fr (fun y => by rw [xu_o (by omega), xu_o (by omega)]) (fun i hi => by rw [xu_o (by omega), xu_o (by omega)]) (by rw [xu_o (by omega), xu_o (by omega)]) (fun i i1 i2 => by rw [xu_o (by omega)]) (fun y => by rw [xu_o (by omega)])
  · have ep : p = 6 := by omega
    subst ep
    obtain ⟨I1, K1, a1, a2, a3, a4, a5⟩ := fail_St hP J h (w := 4) (by decide)
    have q2 : ¬ K1 164 11 = 0 := by rw [← a5.2.2.1]; exact a5.2.1
    have c1 : ¬ nI 6 < (6 : Int32) := by decide
    have c2 : nI 6 = (6 : Int32) := rfl
    refine ⟨I1, K1, ?_, ?_, a3.W, a4.V, Or.inl a5⟩
    · unfold F_X7_readPaper
      simp only [↓bOR hP, c6, c1, ↓reduceIte, ↓bs a1]
    · unfold F_X12_readPaper F_X12_readPaper_28
      simp only [↓bOM hP, ↓bAM, k5, ↓Option.bind_some, c2, ↓reduceIte, ↓bs a2, q2]
