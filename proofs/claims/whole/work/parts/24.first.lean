theorem xzr_at {M : xM} {k n i : Nat} (h : xzr M k n = true) (hi : i < n) : M.2.1 k i = 0 := by
  have h1 := List.all_eq_true.mp h i (List.mem_range.mpr hi)
  simpa using h1
theorem isL_at {M : xM} {k i : Nat} {l : List Int32} (h : isL M k l = true) (hi : i < l.length) : M.2.1 k i = l.getD i 0 := by
  have h1 := List.all_eq_true.mp h i (List.mem_range.mpr hi)
  simpa using h1
def t00 : Txt := (1, 1, 0, 0, [], [], [], [], [])
def c00 : Cst := (fun _ => 0, [], 0, 0, 0)
theorem made_INV {M : xM} (h : chk2 M = true) : INV 0 M := by
  simp only [chk2, Bool.and_eq_true, beq_iff_eq] at h
  obtain ⟨⟨⟨⟨⟨⟨⟨⟨⟨⟨⟨⟨⟨⟨⟨⟨⟨⟨⟨⟨⟨⟨⟨⟨a1, a2⟩, a3⟩, a4⟩, a5⟩, a6⟩, a7⟩, a8⟩, a9⟩, a10⟩, a11⟩, a12⟩, a13⟩, a14⟩, a15⟩, a16⟩, a17⟩, a18⟩, a19⟩, a20⟩, a21⟩, a22⟩, a23⟩, a24⟩, a25⟩ := h
  have L14 : ∀ i, i < 12 → M.2.1 14 i = ([1, 1, 1, 0, 0, 0, 0, 0, 0, 0, 0, 0] : List Int32).getD i 0 := fun i hi => isL_at a5 hi
  have L165 : ∀ i, i < 9 → M.2.1 165 i = ([0, 1, 1, 0, 0, 0, 0, 0, 0] : List Int32).getD i 0 := fun i hi => isL_at a16 hi
  refine ⟨⟨a1, fun q hq => ?_⟩, ⟨?_, ?_⟩, ⟨0, by omega, ?_, ?_, fun k hk => by omega⟩, ⟨t00, ⟨?_, ?_, ?_, c00, ?_, ?_, ?_⟩, [], 0, by simp, by omega, ?_, ?_, ?_, fun j c hj => by simp at hj⟩, fun t ht => Or.inl ⟨?_, ?_⟩, ⟨0, by omega, ?_, fun i hi => ⟨?_, fun hb => by simp at hb⟩⟩, fun j hj => isL_at a14 hj⟩
  · have h1 := List.all_eq_true.mp a2 q hq
    simpa using h1
  · rw [isL_at a4 (show 2 < 4 by omega), isL_at a15 (show 13 < 15 by omega)]; rfl
  · rw [isL_at a4 (show 3 < 4 by omega), isL_at a15 (show 14 < 15 by omega)]; rfl
  · exact xzr_at a3 (by omega)
  · rw [isL_at a15 (show 5 < 15 by omega)]; rfl
  · simp [wfT, t00, tR, tW, tN, tLines, tGale, tPlots, tPapers, tDebts, tTide, tWash, okCode]
  · refine ⟨L14 0 (by omega), L14 1 (by omega), L14 2 (by omega), L14 3 (by omega), L14 4 (by omega), L14 5 (by omega), L14 6 (by omega), fun p q hq => by simp [tPlots, t00] at hq, fun p q hq => by simp [tPapers, t00] at hq, fun o ho => ?_, 0, 0, 0, 0, 0, L14 7 (by omega), by omega, L14 8 (by omega), L14 9 (by omega), L14 10 (by omega), L14 11 (by omega), by omega, by omega, ⟨rfl, fun j o hj => by simp [tTide, t00] at hj⟩, ⟨rfl, fun j o hj => by simp [tWash, t00] at hj⟩⟩
    rw [xzr_at (k := 19) a6 ho]; rfl
  · refine ⟨L165 0 (by omega), L165 1 (by omega), L165 2 (by omega), L165 3 (by omega), L165 4 (by omega), L165 5 (by omega), L165 6 (by omega), fun p q hq => by simp [tPlots, t00] at hq, fun p q hq => by simp [tPapers, t00] at hq, fun p q hq => by simp [tDebts, t00] at hq, ?_, ?_, fun hne => absurd rfl hne, fun hne => absurd rfl hne⟩
    · rw [L165 7 (by omega)]; rfl
    · rw [L165 8 (by omega)]; rfl
  · simp [wfC, t00, c00, tN, cSand, cHouses, cStand, cMoon, cMinute]
  · refine ⟨fun i hi => ?_, xzr_at a7 (by omega), fun h q hq => by simp [cHouses, c00] at hq, xzr_at a7 (by omega), xzr_at a7 (by omega), xzr_at a7 (by omega)⟩
    have hi1 : i < 1 := hi
    exact xzr_at a8 (by omega)
  · refine ⟨fun i hi => ?_, a18, fun h q hq => by simp [cHouses, c00] at hq, ⟨0, by omega, a19, fun h hh => by simp [cHouses, c00] at hh⟩, a20, a21⟩
    have hi1 : i < 1 := hi
    rw [show i = 0 by omega]
    exact a17
  · rw [isL_at a9 (show 0 < 2 by omega)]; rfl
  · rw [isL_at a9 (show 1 < 2 by omega)]; rfl
  · exact a22
  · have h4 : t = 0 ∨ t = 1 ∨ t = 2 ∨ t = 3 := by omega
    rcases h4 with rfl | rfl | rfl | rfl
    · exact isL_at a10 (show 0 < 1 by omega)
    · exact isL_at a11 (show 0 < 1 by omega)
    · exact isL_at a12 (show 0 < 1 by omega)
    · exact isL_at a13 (show 0 < 1 by omega)
  · have h4 : t = 0 ∨ t = 1 ∨ t = 2 ∨ t = 3 := by omega
    rw [isL_at a24 (show t < 4 by omega)]
    rcases h4 with rfl | rfl | rfl | rfl <;> rfl
  · exact xzr_at a3 (by omega)
  · rw [xzr_at a23 hi]; simp
theorem made_all : ∃ M1 M2 : xM, F_X11_init 0 (xnw xM0 (11, 0)) = some M1 ∧ M1.1.length = 164 ∧ F_X12_init 164 (xnw M1 (12, 0)) = some M2 ∧ INV 0 M2 := by
  obtain ⟨M1, M2, h1, h2, h3, h4⟩ := made
  exact ⟨M1, M2, h1, h2, h3, made_INV h4⟩
