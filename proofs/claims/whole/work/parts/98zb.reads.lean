/-! ===== behind the head ===== -/
def tHead (r w : Nat) : Txt := (r, w, 1, 0, [], [], [], [], [])
def cHead (w : Nat) : Cst := (fun i => i / w, [], 0, 0, 0)
theorem LB_head {P : Nat → Nat → Option Nat} {J : Nat → Nat → Int64} {I K : Nat → Nat → Int32} {r w : Nat} (r1 : 1 ≤ r) (r5 : r ≤ 5) (w1 : 1 ≤ w) (w5 : w ≤ 5) (i0 : I 3 0 = nI r) (i1 : I 3 1 = nI w) (i2 : I 3 2 = nI (leftM r w)) (i3 : I 3 3 = nI 1) (i4 : ∀ i, 4 ≤ i → i ≤ 11 → I 3 i = 0) (i8 : ∀ o, o < 5 → I 8 o = 0) (i11 : ∀ i, i < r * w → I 11 i = nI (i / w)) (a3 : I 10 3 = 0) (a4 : I 10 4 = 0) (a5 : I 10 5 = 0) (a6 : I 10 6 = 0) (i9 : I 1 9 = 0)
    (k0 : K 168 0 = nI 1) (k1 : K 168 1 = nI r) (k2 : K 168 2 = nI w) (k3 : ∀ i, i < 1420 → 3 ≤ i → ¬ (67 ≤ i ∧ i < 92) → K 168 i = 0) (k67 : ∀ i, i < 25 → K 168 (67 + i) = nI (i / w)) : LB P J I K (tHead r w) (cHead w) [] := by
  have rw25 : r * w ≤ 5 * 5 := Nat.mul_le_mul r5 w5
  refine ⟨⟨⟨r1, r5⟩, ⟨w1, w5⟩, by show 1 ≤ 900; omega, by show 0 ≤ 10; omega, ⟨by show 0 ≤ 6; omega, fun q hq => (by cases hq)⟩, ⟨by show 0 ≤ 6; omega, fun q hq => (by cases hq)⟩, ⟨by show 0 ≤ 8; omega, fun q hq => (by cases hq)⟩, Or.inl rfl, Or.inl rfl, fun o ho => (by cases ho)⟩, ⟨fun i hi => ?_, ⟨by show 0 ≤ 6; omega, fun q hq => (by cases hq)⟩, by show 0 < 2 ^ 0; omega, by show 0 ≤ 9; omega, by show 0 ≤ 99 * 0; omega⟩, ?_, ?_, ?_, ?_, ?_, by show 0 ≤ 900; omega, i9, ⟨fun z => absurd rfl z, fun z => absurd rfl z⟩, (fun i hi => k3 i (by omega) (by omega) (by omega)), fun h hh => (by cases hh)⟩
  · have hi' : i < r * w := hi
    show i / w ≤ 9
    have : i / w < r := Nat.div_lt_of_lt_mul (by rw [Nat.mul_comm]; exact hi')
    omega
  · refine ⟨i0, i1, i2, i3, i4 4 (by omega) (by omega), i4 5 (by omega) (by omega), i4 6 (by omega) (by omega), fun p q hq => (by cases hq), fun p q hq => (by cases hq), fun o ho => ?_, 0, 0, 0, 0, 0, i4 7 (by omega) (by omega), by omega, i4 8 (by omega) (by omega), i4 9 (by omega) (by omega), i4 10 (by omega) (by omega), i4 11 (by omega) (by omega), by omega, by omega, ⟨rfl, fun j o hj => (by cases hj)⟩, ⟨rfl, fun j o hj => (by cases hj)⟩⟩
    show (I 8 o).toInt = 0
    rw [i8 o ho]
    rfl
  · refine ⟨k0, k1, k2, k3 _ (by omega) (by omega) (by omega), k3 _ (by omega) (by omega) (by omega), k3 _ (by omega) (by omega) (by omega), k3 _ (by omega) (by omega) (by omega), fun p q hq => (by cases hq), fun p q hq => (by cases hq), fun p q hq => (by cases hq), k3 _ (by omega) (by omega) (by omega), k3 _ (by omega) (by omega) (by omega), fun z => absurd rfl z, fun z => absurd rfl z⟩
  · exact ⟨i11, a3, fun h q hq => (by cases hq), a4, a5, a6⟩
  · refine ⟨fun i hi => k67 i (by have hi' : i < r * w := hi; omega), k3 _ (by omega) (by omega) (by omega), fun h q hq => (by cases hq), ⟨0, by omega, k3 _ (by omega) (by omega) (by omega), fun h hh => (by cases hh)⟩, k3 _ (by omega) (by omega) (by omega), k3 _ (by omega) (by omega) (by omega)⟩
  · exact ⟨i4 7 (by omega) (by omega), k3 519 (by omega) (by omega) (by omega), fun j o hj => (by cases hj)⟩
theorem head_S {P : Nat → Nat → Option Nat} (hP : GP P) {I0 K0 : Nat → Nat → Int32} (J : Nat → Nat → Int64) {b : Nat → Nat} {n : Nat} (hTC : TxC I0 b n) (hTM : TxM K0 b n) (i7 : I0 1 7 = nI 0) (k7 : K0 164 7 = nI 0) (i2 : I0 1 2 = 0) (i3 : I0 1 3 = -1) (i9 : I0 1 9 = 0) (k11 : K0 164 11 = 0) (iL : ∀ i, 3 ≤ i → i ≤ 11 → I0 3 i = 0) (iB : ∀ o, o < 5 → I0 8 o = 0) (c3 : I0 10 3 = 0) (c4 : I0 10 4 = 0) (c5 : I0 10 5 = 0) (c6 : I0 10 6 = 0) (kF : ∀ i, i < 1420 → ¬ (i = 1 ∨ i = 2) → K0 168 i = 0) :
    ∃ I1 I8 K1 K6, F_X7_step 1 (mm P I0 J) = some (mm P I1 J) ∧ F_X7_readHead 1 (mm P I1 J) = some (mm P I8 J) ∧ F_X12_next 164 (mm P K0 J) = some (mm P K1 J) ∧ ((F_X12_eats 164 0 (mm P K1 J)).bind fun t => if t.1 = 0 then (xck t.2 164 12).bind fun _ => (F_X12_fails 164 2 t.2).bind fun t8 => F_X12_shore_66 164 t8 else F_X12_shore_66 164 t.2) = F_X12_shore_134 164 (mm P K6 J) ∧ frW I0 I8 ∧ frV K0 K6 ∧ (Bd I8 K6 b n ∨ ∃ f e k t c L, St I8 K6 b n f e k ∧ LB P J I8 K6 t c L ∧ L.length ≤ f ∧ tLines t ≤ f) := by
  obtain ⟨K1, f1, e1, k1, a1, a2, a3, a4, a5, a6, a7⟩ := nextT_M hP (J := J) hTM k7 (by omega)
  obtain ⟨I1, b1, b2, b3, b4, b5⟩ := step_C hP (J := J) hTC i7 a6
  have st1 : St I1 K1 b n f1 e1 k1 := ⟨⟨hTC.fr b2, a6.1.2.1, a6.2, b3, b4, b5⟩, ⟨hTM.fr a2, a6.1.2.1, a6.2, a3, a4, a5, a7⟩, by rw [b2 _ _ (by omega)]; exact i2, by rw [a2 _ _ (by omega)]; exact k11, 0, by omega, by rw [b2 _ _ (by omega)]; exact iL 7 (by omega) (by omega), by rw [b2 _ _ (by omega)]; exact i3⟩
  obtain ⟨I2, K2, d1, d2, d3, d4, d5, d6⟩ := SB_word hP J (show SB I1 K1 b n 0 from Or.inr ⟨f1, e1, k1, st1, by omega⟩) (i := 1) (w := 0) 0 (by omega) rfl rfl
  obtain ⟨r3, r3', I3a, I3, K3, g1, g2, g3, g4, g5, g6, g7⟩ := SB_named hP J d6 (i := 2) (w := 1) (l := 1) (u := 5) 1 1 5 (by omega) rfl rfl rfl rfl (by omega) (by omega)
  have sb3 : SB I3 (xu K3 168 1 r3') b n 1 := SB.pk (K := K3) (by
    rcases g7 with g7 | ⟨v, f', e', k', -, -, -, -, s1, s2⟩
    · exact Or.inl g7.1
    · exact Or.inr ⟨f', e', k', s1, by omega⟩) pk168
  obtain ⟨r4, r4', I4a, I4, K4, j1, j2, j3, j4, j5, j6, j7⟩ := SB_named hP J sb3 (i := 3) (w := 2) (l := 1) (u := 5) 2 1 5 (by omega) rfl rfl rfl rfl (by omega) (by omega)
  have sb4 : SB I4 (xu K4 168 2 r4') b n 1 := SB.pk (K := K4) (by
    rcases j7 with j7 | ⟨v, f', e', k', -, -, -, -, s1, s2⟩
    · exact Or.inl j7.1
    · exact Or.inr ⟨f', e', k', s1, by omega⟩) pk168
  obtain ⟨I5, K5, s1, s2, s3, s4, s5, s6⟩ := SB_sign hP J sb4 (s := 59) (w := 32) 0 (by omega) (by decide +kernel) rfl
  have hr : ∃ r, 1 ≤ r ∧ r ≤ 5 ∧ r3 = nI r := by
    rcases g7 with g7 | ⟨v, f', e', k', z1, z2, z3, z4, -, -⟩
    · exact ⟨1, by omega, by omega, g7.2⟩
    · exact ⟨v, z3, z4, z1⟩
  have hw : ∃ w, 1 ≤ w ∧ w ≤ 5 ∧ r4 = nI w := by
    rcases j7 with j7 | ⟨v, f', e', k', z1, z2, z3, z4, -, -⟩
    · exact ⟨1, by omega, by omega, j7.2⟩
    · exact ⟨v, z3, z4, z1⟩
  obtain ⟨r, r1, r5, hr⟩ := hr
  obtain ⟨w, w1, w5, hw⟩ := hw
  obtain ⟨I6, t1, t2, t3, t4, t5⟩ := setSize_C hP (I := I5) (J := J) r1 r5 w1 w5
  obtain ⟨I8, u1, u2, u3⟩ := head59 hP (I := xu I6 3 3 1) (J := J) (r := r) (w := w) r5 w1 w5 (by rw [xu_o (by omega)]; exact t3) (by rw [xu_o (by omega)]; exact t4)
  have fr5 : frR I0 I5 := (((b2.R.tr d3).tr g4).tr j4).tr s3
  have rh : F_X7_readHead 1 (mm P I1 J) = some (mm P I8 J) := by
    rw [hr] at g2
    rw [hw] at j2
    unfold F_X7_readHead
    simp only [↓bOR hP, ↓bs d1, ↓bs g1, ↓bs g2, ↓bs j1, ↓bs j2, ↓bs s1, ↓bs t1]
    exact u1
  have fw : frW I0 I8 := fun a i z => by rw [u2 a i (by omega), xu_o (by omega), t2 a i (by omega)]; exact fr5 a i (by omega)
  -- the model, up to the sand
  obtain ⟨K5', hK5⟩ : ∃ K5', K5' = xu K5 168 0 (K5 168 0 + 1) := ⟨_, rfl⟩
  have mh : ((F_X12_eats 164 0 (mm P K1 J)).bind fun t => if t.1 = 0 then (xck t.2 164 12).bind fun _ => (F_X12_fails 164 2 t.2).bind fun t8 => F_X12_shore_66 164 t8 else F_X12_shore_66 164 t.2) = F_X12_shore_98 164 0 (mm P K5' J) := by
    refine (d2 (F_X12_shore_66 164)).trans ?_
    have cl : F_X12_closes 164 (mm P (xu K4 168 2 r4') J) = some (mm P K5' J) := by
      unfold F_X12_closes
      simp only [↓bOM hP]
      refine (s2 (F_X12_closes_14 164)).trans ?_
      unfold F_X12_closes_14
      simp only [↓bOM hP, ↓bAM]
      rw [hK5]
    unfold F_X12_shore_66
    simp only [↓bOM hP, ↓bs g3, ↓bAM, ↓bs j3, ↓bs cl]
  have fv5 : frV K0 K5' := by
    rw [hK5]
    exact ((((((a2.Q.V.tr d4.V).tr g5.V).tr frV.pt).tr j5.V).tr frV.pt).tr s4.V).tr frV.pt
  have q168 : ∀ i, ¬ (i = 0 ∨ i = 1 ∨ i = 2) → K5' 168 i = K0 168 i := fun i hi => by
    rw [hK5, xu_o (by omega), s4 _ _ (by omega), xu_o (by omega), j5 _ _ (by omega), xu_o (by omega), g5 _ _ (by omega), d4 _ _ (by omega), a2 _ _ (by omega)]
  have bdf : ∀ {K' : Nat → Nat → Int32}, Bd I5 K5 b n → (∀ a i, a ≠ 168 → K' a i = K5 a i) → Bd I8 K' b n := fun {K'} bd g => bd.fr (fun x => by rw [u2 _ _ (by omega), xu_o (by omega), t2 _ _ (by omega)]) (fun i hi => by rw [u2 _ _ (by omega), xu_o (by omega), t2 _ _ (by omega)]) (by rw [u2 _ _ (by omega), xu_o (by omega), t2 _ _ (by omega)]) (g _ _ (by omega)) (g _ _ (by omega))
  rcases s6 with bd | ⟨f5, e5, k5, st5, hf5⟩
  · have bd' : Bd I8 K5' b n := bdf bd (fun a i z => by rw [hK5, xu_o (by omega)])
    have q2 : ¬ K5' 164 11 = 0 := by rw [← bd'.2.2.1]; exact bd'.2.1
    refine ⟨I1, I8, K1, K5', b1, rh, a1, mh.trans ?_, fw, fv5, Or.inl bd'⟩
    unfold F_X12_shore_98
    refine xit_run (fun _ => (nI 0, mm P K5' J)) 0 rfl (fun j hj => by omega) ?_ (by omega)
    have c1 : ¬ (25 : Int32) ≤ nI 0 := by decide
    unfold F_X12_shore_98b
    simp only [c1, ↓reduceIte, ↓bOM hP, q2]
  · have nb4 : ¬ Bd I4 (xu K4 168 2 r4') b n := fun z => (s5 z).no st5
    rcases j7 with j7 | ⟨v4, f4, e4, k4, z1, z2, z3, z4, -, -⟩
    · exact (nb4 (j7.1.pk pk168)).elim
    have nb3 : ¬ Bd I3 (xu K3 168 1 r3') b n := fun z => nb4 ((j6 z).pk pk168)
    rcases g7 with g7 | ⟨v3, f3, e3, k3, y1, y2, y3, y4, -, -⟩
    · exact (nb3 (g7.1.pk pk168)).elim
    have e3 : r = v3 := (nI_eqI (by omega) (by omega)).mp (hr.symm.trans y1)
    have e4 : w = v4 := (nI_eqI (by omega) (by omega)).mp (hw.symm.trans z1)
    have x1 : K5' 168 1 = nI r := by rw [hK5, xu_o (by omega), s4 _ _ (by omega), xu_o (by omega), j5 _ _ (by omega), xu_self, y2, e3]
    have x2 : K5' 168 2 = nI w := by rw [hK5, xu_o (by omega), s4 _ _ (by omega), xu_self, z2, e4]
    have x0 : K5' 168 0 = nI 1 := by
      have z : K5 168 0 = 0 := by rw [s4 _ _ (by omega), xu_o (by omega), j5 _ _ (by omega), xu_o (by omega), g5 _ _ (by omega), d4 _ _ (by omega), a2 _ _ (by omega)]; exact kF 0 (by omega) (by omega)
      rw [hK5, xu_self, z]
      rfl
    have x11 : K5' 164 11 = 0 := by rw [hK5, xu_o (by omega)]; exact st5.2.2.2.1
    obtain ⟨K6, m1, m2, m3⟩ := shore98 hP (J := J) w1 w5 x11 x2
    have g6' : ∀ a i, a ≠ 168 → K6 a i = K5 a i := fun a i z => by rw [m2 a i (by omega), hK5, xu_o (by omega)]
    refine ⟨I1, I8, K1, K6, b1, rh, a1, mh.trans m1, fw, fv5.tr (fun a i z1 z2 => m2 a i (by omega)), Or.inr ⟨f5, e5, k5, tHead r w, cHead w, [], st5.fr (fun x => by rw [u2 _ _ (by omega), xu_o (by omega), t2 _ _ (by omega)]) (fun i hi => by rw [u2 _ _ (by omega), xu_o (by omega), t2 _ _ (by omega)]) (by rw [u2 _ _ (by omega), xu_o (by omega), t2 _ _ (by omega)]) (fun i i1 i2 => g6' _ _ (by omega)) (fun x => g6' _ _ (by omega)), ?_, by show 0 ≤ f5; omega, by show 1 ≤ f5; omega⟩⟩
    have low : ∀ a i, a ≠ 11 → ¬ (a = 3 ∧ i ≤ 3) → ¬ (a = 1 ∧ (i = 2 ∨ i = 3 ∨ i = 6 ∨ i = 7 ∨ i = 8)) → I8 a i = I0 a i := fun a i z1 z2 z3 => by rw [u2 a i z1, xu_o (by omega), t2 a i (by omega)]; exact fr5 a i z3
    refine LB_head r1 r5 w1 w5 ?_ ?_ ?_ ?_ (fun i z1 z2 => by rw [low _ _ (by omega) (by omega) (by omega)]; exact iL i (by omega) z2) (fun o ho => by rw [low _ _ (by omega) (by omega) (by omega)]; exact iB o ho) u3 (by rw [low _ _ (by omega) (by omega) (by omega)]; exact c3) (by rw [low _ _ (by omega) (by omega) (by omega)]; exact c4) (by rw [low _ _ (by omega) (by omega) (by omega)]; exact c5) (by rw [low _ _ (by omega) (by omega) (by omega)]; exact c6) (by rw [low _ _ (by omega) (by omega) (by omega)]; exact i9) (by rw [m2 _ _ (by omega)]; exact x0) (by rw [m2 _ _ (by omega)]; exact x1) (by rw [m2 _ _ (by omega)]; exact x2) (fun i z1 z2 z3 => by rw [m2 _ _ (by omega), q168 i (by omega)]; exact kF i z1 (by omega)) m3
    · rw [u2 _ _ (by omega), xu_o (by omega)]; exact t3
    · rw [u2 _ _ (by omega), xu_o (by omega)]; exact t4
    · rw [u2 _ _ (by omega), xu_o (by omega)]; exact t5
    · rw [u2 _ _ (by omega), xu_self]; rfl
/-! ===== the reading of a text, whole ===== -/
/-- what the class starts with -/
theorem reads_S {P : Nat → Nat → Option Nat} (hP : GP P) {I K : Nat → Nat → Int32} (J : Nat → Nat → Int64) {b : Nat → Nat} {n x : Nat} (n9 : n ≤ 900) (hx : x ≤ n) (ti : ∀ y, y < n → b y < 256 ∧ I 2 y = sx (b y)) (tk : ∀ y, y < n → K 167 y = nI (b y)) (k5 : K 164 5 = nI n) :
    ∃ r I' q, F_X7_reads 1 (nI x) (mm P I J) = some (r, mm P I' J) ∧ F_X12_shore 164 (nI x) (mm P K J) = some q ∧ ∃ K2, (∀ a i, a ≠ 164 → a ≠ 168 → K2 a i = K a i) ∧ (∀ i, 13 ≤ i → K2 164 i = K 164 i) ∧ K2 164 5 = 0 ∧ EndS P J b x (fun a i => if (a = 1 ∨ 3 ≤ a) ∧ a ≤ 13 then 0 else I a i) K2 I' r q := by
  -- the class
  have al : xal (mm P I J) 21 2 = some (nI 900) := xal_G (mm_G hP) (by decide +kernel)
  have mi : F_J9_min_7cf53 (nI x) (nI 900) (mm P I J) = some (nI x, mm P I J) := by
    have := minJ (a := x) (b := 900) (by omega) (by omega) (mm P I J)
    rw [Nat.min_eq_left (by omega)] at this
    exact this
  have ma : F_J9_max_7cf53 0 (nI x) (mm P I J) = some (nI x, mm P I J) := by
    have := maxJ (a := 0) (b := x) (by omega) (by omega) (mm P I J)
    rw [Nat.max_eq_right (by omega)] at this
    exact this
  obtain ⟨I1, hI1⟩ : ∃ I1, I1 = xu (xu (xu (xu (xu I 1 5 (nI x)) 1 7 0) 1 2 0) 1 3 (-1)) 1 9 0 := ⟨_, rfl⟩
  have o1 : ∀ a i, a ≠ 1 → I1 a i = I a i := fun a i z => by rw [hI1, xu_o (by omega), xu_o (by omega), xu_o (by omega), xu_o (by omega), xu_o (by omega)]
  obtain ⟨I2, a1, a2, a3, a4, a5, a6, a7⟩ := clearL_C hP I1 J
  obtain ⟨I3, b1, b2, b3, b4, b5, b6, b7⟩ := clearC_C hP I2 J
  have v2 : ∀ i, I3 1 i = I1 1 i := fun i => by rw [b2 _ _ (by omega) (by omega), a2 _ _ (by omega) (by omega)]
  have tx3 : TxC I3 b x := ⟨by omega, by rw [v2, hI1, xu_o (by omega), xu_o (by omega), xu_o (by omega), xu_o (by omega), xu_self], fun y hy => ⟨(ti y (by omega)).1, by rw [b2 _ _ (by omega) (by omega), a2 _ _ (by omega) (by omega), o1 _ _ (by omega)]; exact (ti y (by omega)).2⟩⟩
  -- the model
  obtain ⟨K1, hK1⟩ : ∃ K1, K1 = xu (xu (xu (xu (xu K 164 0 0) 164 8 (nI x)) 164 5 0) 164 7 0) 164 11 0 := ⟨_, rfl⟩
  have p1 : ∀ a i, ¬ (a = 164 ∧ (i = 0 ∨ i = 8 ∨ i = 5 ∨ i = 7 ∨ i = 11)) → K1 a i = K a i := fun a i z => by rw [hK1, xu_o (by omega), xu_o (by omega), xu_o (by omega), xu_o (by omega), xu_o (by omega)]
  obtain ⟨K2, c1, c2, c3, c4, c5⟩ := plain_M hP K1 J
  have tx2 : TxM K2 b x := ⟨by omega, by rw [c2 _ _ (by omega), hK1, xu_o (by omega), xu_o (by omega), xu_o (by omega), xu_self], fun y hy => ⟨(ti y (by omega)).1, by rw [c2 _ _ (by omega), p1 _ _ (by omega)]; exact tk y (by omega)⟩⟩
  obtain ⟨I4, I5, K3, K4, d1, d2, d3, d4, d5, d6, d7⟩ := head_S hP J tx3 tx2 (by rw [v2, hI1, xu_o (by omega), xu_o (by omega), xu_o (by omega), xu_self]; rfl) (by rw [c2 _ _ (by omega), hK1, xu_o (by omega), xu_self]; rfl) (by rw [v2, hI1, xu_o (by omega), xu_o (by omega), xu_self]) (by rw [v2, hI1, xu_o (by omega), xu_self]) (by rw [v2, hI1, xu_self]) (by rw [c2 _ _ (by omega), hK1, xu_self]) (fun i z1 z2 => by rw [b2 _ _ (by omega) (by omega)]; exact a6 i z1 z2) (fun o ho => by rw [b2 _ _ (by omega) (by omega)]; exact a7 o ho) b4 b5 b6 b7 c5
  obtain ⟨r, I', q, e1, e2, e3⟩ := lines_loop hP J d7
  refine ⟨r, I', q, ?_, ?_, K2, fun a i z1 z2 => by rw [c2 a i z2, p1 a i (by omega)], fun i hi => by rw [c2 _ _ (by omega), p1 _ _ (by omega)], by rw [c2 _ _ (by omega), hK1, xu_o (by omega), xu_o (by omega), xu_self], ?_⟩
  · unfold F_X7_reads
    simp only [↓bOR hP, ↓bs al, ↓bs mi, ↓bs ma]
    rw [← hI1]
    simp only [↓bOR hP, ↓bs a1, ↓bs b1, ↓bs d1, ↓bs d2]
    exact e1
  · have k5' : xu K 164 0 0 164 5 = nI n := by rw [xu_o (by omega)]; exact k5
    have wi := within_lit (nI x) 0 (nI n).toInt64 (mm P (xu K 164 0 0) J)
    rw [Int32.toInt_toInt64, nI_toInt (by omega), nI_toInt (by omega), show (0 : Int64).toInt = 0 by decide, if_pos (by omega)] at wi
    unfold F_X12_shore
    simp only [↓bOM hP, k5', ↓bs wi, one_ne, ↓reduceIte]
    rw [← hK1]
    simp only [↓bs c1, ↓bOM hP, ↓bs d3]
    exact d4.trans e2
  · obtain ⟨Ka, Kb, f1, f2, f3, f4⟩ := e3
    refine ⟨Ka, Kb, fun a i z => ?_, d6.tr f2, f3, f4⟩
    show I' a i = if (a = 1 ∨ 3 ≤ a) ∧ a ≤ 13 then 0 else I a i
    rw [if_neg z, f1 a i z, d5 a i z, b2 a i (by omega) (by omega), a2 a i (by omega) (by omega), o1 a i (by omega)]
