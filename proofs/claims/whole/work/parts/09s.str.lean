section G
variable {p : Program} {l : Launch} {e : Env} {s : State} {m : MethodId} {args : Array Value} {below : List Frame} {meth : Method} {c : Code} {κ : xQ}
def F_J3_checkIndex_8e157 (a0 : Int32) (a1 : Int32) (a2 : (Option Nat)) (M : xM) : Option (Int32 × xM) :=
if a0 < 0 then (
none)
else (
if a0 < a1 then (
some (a0, M))
else (
none))
set_option maxRecDepth 100000 in
set_option maxHeartbeats 4000000 in
theorem T_J3_checkIndex_8e157 (l : Launch) (κ : xQ) (a0 : Int32) (a1 : Int32) (a2 : (Option Nat)) (M : xM) (ro : Int32) (mo : xM) (h : F_J3_checkIndex_8e157 a0 a1 a2 M = some (ro, mo)) : xC l yJ3_checkIndex_8e157 cJ3_checkIndex_8e157 3 (some .int) 2 0 0 κ [.int a0, .int a1, va_rf a2] M (some (.int ro)) mo := by
  cases a2 with
  | none =>
    refine xC_ofF (by decide +kernel) (Nat.le_of_ble_eq_true rfl) fun p e s m args below meth c X hr hlk hnm H locs ls O hl => ?_
    have X : xX p s m args c cJ3_checkIndex_8e157 3 RJ3 κ := X
    have hl : lv_has ls 3 [(0, .int a0), (1, .int a1), (2, va_rf none)] := hl
    have hx := X.1
    have hb := X.2.1
    obtain ⟨x, hx0⟩ : ∃ x, (ro, mo) = x := ⟨_, rfl⟩
    rw [hx0] at h
    have hK : x = (ro, mo) := hx0.symm
    unfold F_J3_checkIndex_8e157 at h
    refine lv_iload_n hx hb dJ3_checkIndex_8e157_0 rfl (lv_at hl 0 rfl) ?_
    refine lv_if_lt (tgt := 9) hx hb dJ3_checkIndex_8e157_1 (by decide) (fun hc1 => ?_) (fun hc1 => ?_)
    · rw [if_pos hc1] at h
      cases h
    rw [if_neg hc1] at h
    refine lv_iload_n hx hb dJ3_checkIndex_8e157_4 rfl (lv_at hl 0 rfl) ?_
    refine lv_iload_n hx hb dJ3_checkIndex_8e157_5 rfl (lv_at hl 1 rfl) ?_
    refine lv_icmp_lt (tgt := 16) hx hb dJ3_checkIndex_8e157_6 (by decide) (fun hc6 => ?_) (fun hc6 => ?_)
    · rw [if_pos hc6] at h
      refine lv_iload_n hx hb dJ3_checkIndex_8e157_16 rfl (lv_at hl 0 rfl) ?_
      rw [← Option.some.inj h] at hK
      have hK : (a0, M) = (ro, mo) := hK
      obtain ⟨hK1, hK2⟩ := Prod.mk.inj hK
      rw [hK2] at O
      refine xr_top (w := .int ro) (by rw [hK1]) ?_
      exact xr_iret X hr hlk O dJ3_checkIndex_8e157_17
    rw [if_neg hc6] at h
    cases h
  | some a2 =>
    refine xC_ofF (by decide +kernel) (Nat.le_of_ble_eq_true rfl) fun p e s m args below meth c X hr hlk hnm H locs ls O hl => ?_
    have X : xX p s m args c cJ3_checkIndex_8e157 3 RJ3 κ := X
    have hl : lv_has ls 3 [(0, .int a0), (1, .int a1), (2, va_rf (some a2))] := hl
    have hx := X.1
    have hb := X.2.1
    obtain ⟨x, hx0⟩ : ∃ x, (ro, mo) = x := ⟨_, rfl⟩
    rw [hx0] at h
    have hK : x = (ro, mo) := hx0.symm
    unfold F_J3_checkIndex_8e157 at h
    refine lv_iload_n hx hb dJ3_checkIndex_8e157_0 rfl (lv_at hl 0 rfl) ?_
    refine lv_if_lt (tgt := 9) hx hb dJ3_checkIndex_8e157_1 (by decide) (fun hc1 => ?_) (fun hc1 => ?_)
    · rw [if_pos hc1] at h
      cases h
    rw [if_neg hc1] at h
    refine lv_iload_n hx hb dJ3_checkIndex_8e157_4 rfl (lv_at hl 0 rfl) ?_
    refine lv_iload_n hx hb dJ3_checkIndex_8e157_5 rfl (lv_at hl 1 rfl) ?_
    refine lv_icmp_lt (tgt := 16) hx hb dJ3_checkIndex_8e157_6 (by decide) (fun hc6 => ?_) (fun hc6 => ?_)
    · rw [if_pos hc6] at h
      refine lv_iload_n hx hb dJ3_checkIndex_8e157_16 rfl (lv_at hl 0 rfl) ?_
      rw [← Option.some.inj h] at hK
      have hK : (a0, M) = (ro, mo) := hK
      obtain ⟨hK1, hK2⟩ := Prod.mk.inj hK
      rw [hK2] at O
      refine xr_top (w := .int ro) (by rw [hK1]) ?_
      exact xr_iret X hr hlk O dJ3_checkIndex_8e157_17
    rw [if_neg hc6] at h
    cases h
def F_J0_checkIndex_df160 (a0 a1 : Int32) (M : xM) : Option xM :=
(F_J3_checkIndex_8e157 a0 a1 none M).bind fun t => some t.2
set_option maxRecDepth 100000 in
set_option maxHeartbeats 4000000 in
theorem T_J0_checkIndex_df160 (l : Launch) (κ : xQ) (a0 a1 : Int32) (M : xM) (mo : xM) (h : F_J0_checkIndex_df160 a0 a1 M = some mo) : xC l yJ0_checkIndex_df160 cJ0_checkIndex_df160 2 none 3 0 0 κ [.int a0, .int a1] M none mo := by
  refine xC_ofF (by decide +kernel) (Nat.le_of_ble_eq_true rfl) fun p e s m args below meth c X hr hlk hnm H locs ls O hl => ?_
  have X : xX p s m args c cJ0_checkIndex_df160 2 RJ0 κ := X
  have hl : lv_has ls 2 [(0, .int a0), (1, .int a1)] := hl
  have hx := X.1
  have hb := X.2.1
  unfold F_J0_checkIndex_df160 at h
  obtain ⟨q, hq, h⟩ := Option.bind_eq_some_iff.mp h
  refine lv_iload_n hx hb dJ0_checkIndex_df160_0 rfl (lv_at hl 0 rfl) ?_
  refine lv_iload_n hx hb dJ0_checkIndex_df160_1 rfl (lv_at hl 1 rfl) ?_
  refine xr_sioobe X O fj_J0_1053 dJ0_checkIndex_df160_2 (fun t => ?_)
  have hq2 : F_J3_checkIndex_8e157 a0 a1 t M = some q := hq
  refine xr_callS (rest := []) X O (T_J3_checkIndex_8e157 l κ a0 a1 t M _ _ hq2) lk_J0_1059 (Nat.le_of_ble_eq_true rfl) rfl hl.1 rfl (Nat.le_of_ble_eq_true rfl) dJ0_checkIndex_df160_5 ⟨Nat.le_of_ble_eq_true rfl, Nat.le_of_ble_eq_true rfl⟩ (fun H locs O => ?_)
  refine W.eq (g2 := F0 m 8 ls [.int q.1]) rfl ?_
  refine lv_pop hx hb dJ0_checkIndex_df160_8 rfl ?_
  rw [Option.some.inj h] at O
  exact xr_vret X hr hlk O dJ0_checkIndex_df160_9
end G
