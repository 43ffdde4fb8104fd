theorem overM {M : xM} {t : Txt} (hG : G M) (hw : wfT t) (hA : LandA (M.2.1 165) 0 t) {p c : Nat} {q : Nat × Nat} (hq : (tPapers t)[p]? = some q) (hc : c < tN t) : F_X12_isOver 164 (nI p) (nI c) M = some (if under (tW t) q.1 q.2 c then 1 else 0, M) := by
  have hp := getlt hq
  have hn := hw.2.2.2.2.2.1.1
  have hm := hw.2.2.2.2.2.1.2 q (List.mem_of_getElem? hq)
  have hN := tN_le hw
  have hW := hw.2.1
  obtain ⟨d1, d2⟩ := hA.2.2.2.2.2.2.2.2.1 p q hq
  simp only [Nat.zero_add] at d1 d2
  have w2 := hA.2.2.1
  simp only [Nat.zero_add] at w2
  have e1 : (31 : Int32) + (2 : Int32) * nI p = nI (31 + 2 * p) := by rw [show (2 : Int32) = nI 2 from rfl, pk_mul]; exact nI_add 31 (2 * p)
  have e2 : (31 : Int32) + (2 : Int32) * nI p + 1 = nI (32 + 2 * p) := by rw [e1, nI_1]; congr 1; omega
  have wz : ¬ nI (tW t) = 0 := nI_ne0 (by omega) (by omega)
  have dv : ∀ x, x < 25 → nI x / nI (tW t) = nI (x / tW t) := fun x hx => pk_div (by omega) (by omega) (by omega)
  have rm : ∀ x, x < 25 → nI x - nI x / nI (tW t) * nI (tW t) = nI (x % tW t) := fun x hx => pk_rem (by omega) (by omega) (by omega)
  have rm2 : ∀ x, x < 25 → nI x - nI (x / tW t) * nI (tW t) = nI (x % tW t) := fun x hx => by rw [← dv x hx]; exact rm x hx
  have lt1 : ∀ x, x < 25 → x / tW t < 2 ^ 31 := fun x hx => by have := Nat.div_le_self x (tW t); omega
  have lt2 : ∀ x, x < 25 → x % tW t < 2 ^ 31 := fun x hx => by have := Nat.mod_le x (tW t); omega
  unfold F_X12_isOver F_X12_isOver_93
  simp only [g_all hG, Option.bind_some, all_at hG _ e1 (show 31 + 2 * p < 4260 by omega), all_at hG _ e2 (show 32 + 2 * p < 4260 by omega), all_at hG 2 (show (2 : Int32) = nI 2 from rfl) (by omega), d1, d2, w2, if_neg wz, dv c (by omega), dv q.1 (by omega), dv q.2 (by omega), amidM (lt1 c (by omega)) (lt1 q.1 (by omega)) (lt1 q.2 (by omega))]
  unfold under
  by_cases h1 : amid (c / tW t) (q.1 / tW t) (q.2 / tW t) = true
  · simp only [h1, if_true, if_neg one_ne, Bool.true_and, rm2 c (by omega), rm2 q.1 (by omega), rm2 q.2 (by omega), amidM (lt2 c (by omega)) (lt2 q.1 (by omega)) (lt2 q.2 (by omega)), Option.bind_some]
    by_cases h2 : amid (c % tW t) (q.1 % tW t) (q.2 % tW t) = true
    · simp [h2, xz1]
    · simp [h2, xz0]
  · simp [h1, xz0]
