/-! ===== the model's number is the least cut ===== -/
def isLeast (r0 : Nat → Nat → Int) (T k : Nat) : Prop := (∀ X : Nat → Bool, X 50 = true → X T = false → (k : Int) ≤ cutZ r0 X) ∧ ∃ Y : Nat → Bool, Y 50 = true ∧ Y T = false ∧ cutZ r0 Y = k
theorem least_one {r0 : Nat → Nat → Int} {T k k' : Nat} (h : isLeast r0 T k) (h' : isLeast r0 T k') : k = k' := by
  obtain ⟨a1, Y, a2, a3, a4⟩ := h
  obtain ⟨b1, Y', b2, b3, b4⟩ := h'
  have c1 := a1 Y' b2 b3
  have c2 := b1 Y a2 a3
  omega
theorem cut_nn {r : Nat → Nat → Int} (h : ∀ i j, i < 51 → j < 51 → 0 ≤ r i j) (X : Nat → Bool) : 0 ≤ cutZ r X := sumZ_nn _ fun i hi => by
  unfold cutR
  exact sumZ_nn _ fun j hj => by
    have := h i j hi hj
    show 0 ≤ (if X i && !X j then r i j else 0)
    split
    · exact this
    · exact Int.le_refl _
theorem flow_M {P : Nat → Nat → Option Nat} (hP : GP P) {I : Nat → Nat → Int32} {J : Nat → Nat → Int64} {r0 : Nat → Nat → Int} {T : Nat} (hT : T < 50) (h0 : ∀ i j, i < 51 → j < 51 → rZ I i j = r0 i j) (hr0 : ∀ i j, i < 51 → j < 51 → 0 ≤ r0 i j ∧ r0 i j ≤ 268435456) (hc : cutZ r0 (fun u => !(u == T)) ≤ 10) :
    ∃ I' k, F_X12_leastFor_14 164 0 (nI T) (mm P I J) = some (nI k, mm P I' J) ∧ (∀ a i, a ≠ 174 → a ≠ 175 → a ≠ 176 → I' a i = I a i) ∧ isLeast r0 T k := by
  have key : ∃ r : Int32 × xM, xit (F_X12_leastFor_14b 164 (nI T)) xFU (nI 0, mm P I J) = some r ∧ (∃ I' k, r = (nI k, mm P I' J) ∧ (∀ a i, a ≠ 174 → a ≠ 175 → a ≠ 176 → I' a i = I a i) ∧ isLeast r0 T k) := by
    refine xit_inv (fun j z => ∃ I' k, z = (nI k, mm P I' J) ∧ j ≤ k ∧ k ≤ 10 ∧ okR (rZ I') r0 ∧ (∀ X : Nat → Bool, X 50 = true → X T = false → cutZ (rZ I') X = cutZ r0 X - k) ∧ ∀ a i, a ≠ 174 → a ≠ 175 → a ≠ 176 → I' a i = I a i) _ 11 ⟨I, 0, rfl, Nat.le_refl _, by omega, fun i j hi hj => by rw [h0 i j hi hj, h0 j i hj hi]; exact ⟨(hr0 i j hi hj).1, rfl⟩, fun X _ _ => by rw [cutZ_cg h0]; simp, fun _ _ _ _ _ => rfl⟩ (fun j z hj hq2 => ?_) (fun z hq2 => ?_) (by omega)
    · obtain ⟨I1, k, rfl, g1, g2, g3, g4, g5⟩ := hq2
      obtain ⟨I2, q, len, e1, e2, e3, e4⟩ := come_M hP (I := I1) (J := J) (T := T) (by omega)
      have s174 : ∀ x, I2 174 x = I1 174 x := fun x => e3 _ _ (by omega) (by omega)
      have rz : ∀ i j, i < 51 → j < 51 → rZ I2 i j = rZ I1 i j := fun i j _ _ => by unfold rZ; rw [s174]
      by_cases hx : I2 175 T = -1
      · right
        rw [if_pos hx] at e1
        refine ⟨(nI k, mm P I2 J), by simp only [F_X12_leastFor_14b, F_X12_leastFor_176, ↓bOM hP, ↓bs e1, ↓reduceIte, Option.map_some], I2, k, rfl, fun a i x1 x2 x3 => by rw [e3 a i x2 x3, g5 a i x1 x2 x3], fun X x1 x2 => ?_, fun u => decide (¬ I2 175 u = -1), ?_, ?_, ?_⟩
        · have := g4 X x1 x2
          have := cut_nn (r := rZ I1) (fun i j hi hj => (g3 i j hi hj).1) X
          omega
        · have := (e2.2.2.2.1 0 (by have := e2.1; omega)).2.2
          rw [e2.2.1] at this
          exact decide_eq_true this
        · exact decide_eq_false (fun z => z hx)
        · have y50 : (fun u => decide (¬ I2 175 u = -1)) 50 = true := by
            have := (e2.2.2.2.1 0 (by have := e2.1; omega)).2.2
            rw [e2.2.1] at this
            exact decide_eq_true this
          have yT : (fun u => decide (¬ I2 175 u = -1)) T = false := decide_eq_false (fun z => z hx)
          have a := g4 (fun u => decide (¬ I2 175 u = -1)) y50 yT
          have b : cutZ (rZ I1) (fun u => decide (¬ I2 175 u = -1)) = 0 := cut_closed fun i j hi hj y1 y2 => by
            have y1' : ¬ I2 175 i = -1 := of_decide_eq_true y1
            have y2' : ¬ ¬ I2 175 j = -1 := of_decide_eq_false y2
            obtain ⟨p, p1, p2⟩ := e2.2.2.2.2.2.1 i hi y1'
            have z : I1 174 (51 * i + j) = 0 := Classical.byContradiction fun w => y2' (e4 p j p1 hj (by rw [p2]; exact w))
            unfold rZ
            rw [z]
            rfl
          rw [b] at a
          omega
      · left
        rw [if_neg hx] at e1
        obtain ⟨p, p1, p2⟩ := e2.2.2.2.2.2.1 T (by omega) hx
        obtain ⟨n, ps, n1, n2, n3⟩ := way_ex e2 p p (Nat.le_refl _) p1
        have pl : ps 0 < len := by omega
        have nd : ∀ s, s ≤ n → q (ps s) < 51 := fun s hs => (e2.2.2.2.1 (ps s) (by have := way_le n3 s hs; omega)).1
        have ok2 : okR (rZ I2) r0 := fun i j hi hj => by rw [rz i j hi hj, rz j i hj hi]; exact g3 i j hi hj
        have pos : ∀ s, s < n → 0 < rZ I2 (q (ps (s + 1))) (q (ps s)) := fun s hs => by
          have a := (ok2 _ _ (nd (s + 1) (by omega)) (nd s (by omega))).1
          have b := (n3.2 s hs).2.2
          have c : rZ I2 (q (ps (s + 1))) (q (ps s)) ≠ 0 := fun z => b (Int32.toInt_inj.mp (by unfold rZ at z; rw [z]; rfl))
          omega
        obtain ⟨a1, a2⟩ := room_pos n pos
        obtain ⟨I3, b1, b2, b3, b4⟩ := push103 hP (J := J) e2 n3 pl ok2 (fun i j hi hj => (hr0 i j hi hj).2) a1 (fun s hs => room_edge hs) (nI k) (nI T)
        have w32 := way32 hP (J := J) e2 n3 pl (nI k) (nI T)
        have qT : q (ps 0) = T := by rw [n2]; exact p2
        rw [qT] at b1 b4 w32
        obtain ⟨A, hA, eA⟩ := cell_of (a := roomN I2 q ps n) (n := 268435457) (by omega) (by omega)
        have tA : (roomN I2 q ps n).toInt = A := by rw [eA]; exact nI_toInt (by omega)
        have cuts : ∀ X : Nat → Bool, X 50 = true → X T = false → cutZ (rZ I3) X = cutZ r0 X - ((k + A : Nat) : Int) := fun X x1 x2 => by
          have c1 := b4 X x1 x2
          have c2 := g4 X x1 x2
          rw [cutZ_cg rz, tA] at c1
          omega
        have kb : k + A ≤ 10 := by
          have c := cuts (fun u => !(u == T)) (by simp; omega) (by simp)
          have d := cut_nn (r := rZ I3) (fun i j hi hj => (b3 i j hi hj).1) (fun u => !(u == T))
          omega
        refine ⟨(nI (k + A), mm P I3 J), ?_, I3, k + A, rfl, by omega, kb, b3, cuts, fun a i x1 x2 x3 => by rw [b2 a i x1, e3 a i x2 x3, g5 a i x1 x2 x3]⟩
        simp only [F_X12_leastFor_14b, ↓bOM hP, ↓bs e1, one_ne, ↓reduceIte, w32]
        unfold F_X12_leastFor_99
        rw [b1, eA, nI_add]
    · obtain ⟨I1, k, rfl, g1, g2, -⟩ := hq2
      omega
  obtain ⟨r, k1, I', k, rfl, k2⟩ := key
  exact ⟨I', k, k1, k2⟩
