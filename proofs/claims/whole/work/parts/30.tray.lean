/-! ===== trays ===== -/
theorem four {P : Nat → Prop} (h0 : P 0) (h1 : P 1) (h2 : P 2) (h3 : P 3) {j : Nat} (hj : j < 4) : P j := by
  have h : j = 0 ∨ j = 1 ∨ j = 2 ∨ j = 3 := by omega
  rcases h with rfl | rfl | rfl | rfl <;> assumption
theorem trayP {M : xM} (hG : G M) {j : Nat} (hj : j < 4) : xaP M 40 81 (nI j) = some (82 + 2 * j) := by
  refine G_aP hG (n := 4) (by decide +kernel) rfl hj (by omega) ?_
  exact four (P := fun j => (81, j, 82 + 2 * j) ∈ PPl) (by decide +kernel) (by decide +kernel) (by decide +kernel) (by decide +kernel) hj
theorem traySh {j : Nat} (hj : j < 4) : (SH[82 + 2 * j]?).map Prod.fst = some 10 :=
  four (P := fun j => (SH[82 + 2 * j]?).map Prod.fst = some 10) (by decide +kernel) (by decide +kernel) (by decide +kernel) (by decide +kernel) hj
theorem trayNum {M : xM} (hG : G M) {j : Nat} (hj : j < 4) : xgP M (82 + 2 * j) 10 2 = some (83 + 2 * j) :=
  G_gP hG (traySh hj) (four (P := fun j => (82 + 2 * j, 2, 83 + 2 * j) ∈ PPl) (by decide +kernel) (by decide +kernel) (by decide +kernel) (by decide +kernel) hj)
theorem trayLen {j : Nat} (hj : j < 4) : SH[83 + 2 * j]? = some (24, 40) :=
  four (P := fun j => SH[83 + 2 * j]? = some (24, 40)) (by decide +kernel) (by decide +kernel) (by decide +kernel) (by decide +kernel) hj
theorem g_trays {M : xM} (hG : G M) : xgP M 0 11 7 = some 81 := G_gP hG (by decide +kernel) (by decide +kernel)
theorem nI_ne_m1 {n : Nat} (h : n < 2 ^ 31) : ¬ nI n = -1 := by
  intro e
  have h1 : (nI n).toInt = (-1 : Int32).toInt := by rw [e]
  rw [nI_toInt h] at h1
  have h2 : (-1 : Int32).toInt = -1 := by decide
  omega
/-- why a tray is refused: -2 there is none such, -6 it is missing; 0 -/
def trayWhy (M : xM) (a : Int32) : Int32 := if 0 ≤ a.toInt ∧ a.toInt < 4 then (if M.2.1 182 a.toNatClampNeg = -1 then -6 else 0) else -2
theorem isTrayC {M : xM} (a : Int32) : F_X11_isTray a M = some (if 0 ≤ a.toInt ∧ a.toInt < 4 then 1 else 0, M) := by
  unfold F_X11_isTray F_X11_isTray_13
  have h4 : (4 : Int32).toInt = 4 := by decide
  by_cases h0 : a < 0
  · have := toInt_neg h0
    rw [if_pos h0, if_neg (by omega)]
    simp [xz0]
  · have h1 := toInt_nneg h0
    rw [if_neg h0]
    by_cases h2 : (4 : Int32) ≤ a
    · have h3 := Int32.le_iff_toInt_le.mp h2
      rw [if_pos h2, if_neg (by omega)]
      simp [xz0]
    · have h3 : ¬ (4 : Int32).toInt ≤ a.toInt := fun z => h2 (Int32.le_iff_toInt_le.mpr z)
      rw [if_neg h2, if_pos (by omega)]
      simp [xz1]
theorem refusedC {M : xM} (hG : G M) (hT : Itray M) (a : Int32) : F_X11_refusedTray 0 a M = some (trayWhy M a, M) := by
  unfold F_X11_refusedTray trayWhy
  rw [isTrayC]
  simp only [Option.bind_some]
  by_cases h : 0 ≤ a.toInt ∧ a.toInt < 4
  · obtain ⟨j, hj, rfl⟩ := cell_of (n := 4) h (by omega)
    rw [if_pos h, if_pos h, if_neg one_ne, g_trays hG]
    simp only [Option.bind_some]
    rw [trayP hG hj]
    simp only [Option.bind_some]
    rw [G_gI hG (traySh hj), nI_clamp (by omega)]
    simp only [Option.bind_some]
    rcases hT j hj with ⟨a1, a2⟩ | ⟨sz, so, a1, a2, a3, a4, a5, a6, a7⟩
    · rw [a1, a2, if_pos rfl, if_pos rfl]
    · rw [a3, a5, if_neg (nI_ne_m1 (by omega)), if_neg (nI_ne_m1 (by omega))]
  · rw [if_neg h, if_neg h, if_pos rfl]
theorem noTrayM {M : xM} (hG : G M) (a : Int32) : F_X12_noTray 164 a M = some (trayWhy M a, M) := by
  unfold F_X12_noTray trayWhy
  have z0 : (0 : Int64).toInt = 0 := by decide
  have z3 : (3 : Int64).toInt = 3 := by decide
  rw [within_lit, z0, z3]
  simp only [Option.bind_some]
  by_cases h : 0 ≤ a.toInt ∧ a.toInt < 4
  · obtain ⟨j, hj, rfl⟩ := cell_of (n := 4) h (by omega)
    have h3 : 0 ≤ (nI j).toInt ∧ (nI j).toInt ≤ 3 := ⟨h.1, by omega⟩
    rw [if_pos h3, if_pos h, if_neg one_ne, G_gP hG (v := 182) (by decide +kernel) (by decide +kernel)]
    simp only [Option.bind_some]
    rw [G_aI hG (n := 4) (by decide +kernel) rfl hj (by omega), nI_clamp (by omega)]
    simp only [Option.bind_some]
    split <;> rfl
  · have h3 : ¬ (0 ≤ a.toInt ∧ a.toInt ≤ 3) := by omega
    rw [if_neg h3, if_neg h, if_pos rfl]
