section G
variable {p : Program} {l : Launch} {e : Env} {s : State} {m : MethodId} {args : Array Value} {below : List Frame} {meth : Method} {c : Code} {κ : xQ}
def F_X12_falls (a0 : Nat) (a1 : Int32) (M : xM) : Option (Int32 × xM) :=
(xpI M a0 12 0 (0 : Int32)).bind fun t1 =>
(xck t1 a0 12).bind fun _ =>
(F_X12_isHouse a0 a1.toInt64 t1).bind fun t3 =>
if t3.1 = 0 then (
some ((-2 : Int32), t3.2))
else (
(xck t3.2 a0 12).bind fun _ =>
(F_X12_fallsIn a0 a1 t3.2).bind fun t5 =>
some (t5.1, t5.2))
set_option maxRecDepth 100000 in
set_option maxHeartbeats 4000000 in
theorem T_X12_falls (l : Launch) (κ : xQ) (a0 : Nat) (a1 : Int32) (M : xM) (ro : Int32) (mo : xM) (h : F_X12_falls a0 a1 M = some (ro, mo)) : xC l yX12_falls cX12_falls 2 (some .int) 8 0 0 κ [.ref (κ.1 + a0), .int a1] M (some (.int ro)) mo := by
  refine xC_of rfl (Nat.le_of_ble_eq_true rfl) fun p e s m args below meth c X hr hlk hnm H locs ls O hl => ?_
  have X : xX p s m args c cX12_falls 2 RX12 κ := X
  have hl : lv_has ls 2 [(0, .ref (κ.1 + a0)), (1, .int a1)] := hl
  have hx := X.1
  have hb := X.2.1
  obtain ⟨x, hx0⟩ : ∃ x, (ro, mo) = x := ⟨_, rfl⟩
  rw [hx0] at h
  have hK : x = (ro, mo) := hx0.symm
  unfold F_X12_falls at h
  refine lv_aload_n hx hb dX12_falls_0 rfl (lv_at hl 0 rfl) ?_
  refine lv_iconst (v := (0 : Int32)) hx hb dX12_falls_1 (by decide) ?_
  obtain ⟨t1, ht1, h⟩ := Option.bind_eq_some_iff.mp h
  refine xr_putI X O ht1 fl_X12_1 dX12_falls_2 (fun H locs O => ?_)
  refine lv_aload_n hx hb dX12_falls_5 rfl (lv_at hl 0 rfl) ?_
  refine lv_iload_n hx hb dX12_falls_6 rfl (lv_at hl 1 rfl) ?_
  refine lv_i2l (v := a1.toInt64) hx hb dX12_falls_7 rfl ?_
  obtain ⟨_, hut2, h⟩ := Option.bind_eq_some_iff.mp h
  obtain ⟨t3, ht3, h⟩ := Option.bind_eq_some_iff.mp h
  refine xr_callV (rest := []) X O (T_X12_isHouse l κ a0 a1.toInt64 t1 _ _ ht3) lk_X12_278 hut2 (Nat.le_of_ble_eq_true rfl) rfl hl.1 rfl (Nat.le_of_ble_eq_true rfl) dX12_falls_8 ⟨Nat.le_of_ble_eq_true rfl, Nat.le_of_ble_eq_true rfl⟩ (fun H locs O => ?_)
  refine W.eq (g2 := F0 m 11 ls [.int t3.1]) rfl ?_
  refine lv_if_eq (tgt := 22) hx hb dX12_falls_11 (by decide) (fun hc11 => ?_) (fun hc11 => ?_)
  · rw [if_pos hc11] at h
    refine lv_bipush (v := (-2 : Int32)) hx hb dX12_falls_22 (by decide) ?_
    rw [← Option.some.inj h] at hK
    have hK : ((-2 : Int32), t3.2) = (ro, mo) := hK
    obtain ⟨hK1, hK2⟩ := Prod.mk.inj hK
    rw [hK2] at O
    refine xr_top (w := .int ro) (by rw [hK1]) ?_
    exact xr_iret X hr hlk O dX12_falls_24
  rw [if_neg hc11] at h
  refine lv_aload_n hx hb dX12_falls_14 rfl (lv_at hl 0 rfl) ?_
  refine lv_iload_n hx hb dX12_falls_15 rfl (lv_at hl 1 rfl) ?_
  obtain ⟨_, hut4, h⟩ := Option.bind_eq_some_iff.mp h
  obtain ⟨t5, ht5, h⟩ := Option.bind_eq_some_iff.mp h
  refine xr_callV (rest := []) X O (T_X12_fallsIn l κ a0 a1 t3.2 _ _ ht5) lk_X12_374 hut4 (Nat.le_of_ble_eq_true rfl) rfl hl.1 rfl (Nat.le_of_ble_eq_true rfl) dX12_falls_16 ⟨Nat.le_of_ble_eq_true rfl, Nat.le_of_ble_eq_true rfl⟩ (fun H locs O => ?_)
  refine W.eq (g2 := F0 m 19 ls [.int t5.1]) rfl ?_
  refine lv_goto (tgt := 24) hx hb dX12_falls_19 (by decide) ?_
  rw [← Option.some.inj h] at hK
  have hK : (t5.1, t5.2) = (ro, mo) := hK
  obtain ⟨hK1, hK2⟩ := Prod.mk.inj hK
  rw [hK2] at O
  refine xr_top (w := .int ro) (by rw [hK1]) ?_
  exact xr_iret X hr hlk O dX12_falls_24
def F_X12_stands (a0 : Nat) (a1 : Int32) (M : xM) : Option (Int32 × xM) :=
(xpI M a0 12 0 (0 : Int32)).bind fun t1 =>
(F_X12_within a1.toInt64 (0 : Int64) (60 : Int64) t1).bind fun t2 =>
if t2.1 = 0 then (
some ((-3 : Int32), t2.2))
else (
(xck t2.2 a0 12).bind fun _ =>
(F_X12_goesOnFor a0 a1 t2.2).bind fun t4 =>
(xck t4 a0 12).bind fun _ =>
(F_X12_standingOn a0 t4).bind fun t6 =>
some (t6.1, t6.2))
set_option maxRecDepth 100000 in
set_option maxHeartbeats 4000000 in
theorem T_X12_stands (l : Launch) (κ : xQ) (a0 : Nat) (a1 : Int32) (M : xM) (ro : Int32) (mo : xM) (h : F_X12_stands a0 a1 M = some (ro, mo)) : xC l yX12_stands cX12_stands 2 (some .int) 8 0 0 κ [.ref (κ.1 + a0), .int a1] M (some (.int ro)) mo := by
  refine xC_of rfl (Nat.le_of_ble_eq_true rfl) fun p e s m args below meth c X hr hlk hnm H locs ls O hl => ?_
  have X : xX p s m args c cX12_stands 2 RX12 κ := X
  have hl : lv_has ls 2 [(0, .ref (κ.1 + a0)), (1, .int a1)] := hl
  have hx := X.1
  have hb := X.2.1
  obtain ⟨x, hx0⟩ : ∃ x, (ro, mo) = x := ⟨_, rfl⟩
  rw [hx0] at h
  have hK : x = (ro, mo) := hx0.symm
  unfold F_X12_stands at h
  refine lv_aload_n hx hb dX12_stands_0 rfl (lv_at hl 0 rfl) ?_
  refine lv_iconst (v := (0 : Int32)) hx hb dX12_stands_1 (by decide) ?_
  obtain ⟨t1, ht1, h⟩ := Option.bind_eq_some_iff.mp h
  refine xr_putI X O ht1 fl_X12_1 dX12_stands_2 (fun H locs O => ?_)
  refine lv_iload_n hx hb dX12_stands_5 rfl (lv_at hl 1 rfl) ?_
  refine lv_i2l (v := a1.toInt64) hx hb dX12_stands_6 rfl ?_
  refine lv_lconst (v := (0 : Int64)) hx hb dX12_stands_7 (by decide) ?_
  refine lv_ldc2 (v := (60 : Int64)) hx hb X.2.2.2.1 (X.2.2.2.2.1 _ ct_X12_377) dX12_stands_8 ?_
  obtain ⟨t2, ht2, h⟩ := Option.bind_eq_some_iff.mp h
  refine xr_callS (rest := []) X O (T_X12_within l κ a1.toInt64 (0 : Int64) (60 : Int64) t1 _ _ ht2) lk_X12_145 (Nat.le_of_ble_eq_true rfl) rfl hl.1 rfl (Nat.le_of_ble_eq_true rfl) dX12_stands_11 ⟨Nat.le_of_ble_eq_true rfl, Nat.le_of_ble_eq_true rfl⟩ (fun H locs O => ?_)
  refine W.eq (g2 := F0 m 14 ls [.int t2.1]) rfl ?_
  refine lv_if_ne (tgt := 20) hx hb dX12_stands_14 (by decide) (fun hc14 => ?_) (fun hc14 => ?_)
  · rw [if_neg hc14] at h
    refine lv_aload_n hx hb dX12_stands_20 rfl (lv_at hl 0 rfl) ?_
    refine lv_iload_n hx hb dX12_stands_21 rfl (lv_at hl 1 rfl) ?_
    obtain ⟨_, hut3, h⟩ := Option.bind_eq_some_iff.mp h
    obtain ⟨t4, ht4, h⟩ := Option.bind_eq_some_iff.mp h
    refine xr_callV (rest := []) X O (T_X12_goesOnFor l κ a0 a1 t2.2 _ ht4) lk_X12_287 hut3 (Nat.le_of_ble_eq_true rfl) rfl hl.1 rfl (Nat.le_of_ble_eq_true rfl) dX12_stands_22 ⟨Nat.le_of_ble_eq_true rfl, Nat.le_of_ble_eq_true rfl⟩ (fun H locs O => ?_)
    refine W.eq (g2 := F0 m 25 ls []) rfl ?_
    refine lv_aload_n hx hb dX12_stands_25 rfl (lv_at hl 0 rfl) ?_
    obtain ⟨_, hut5, h⟩ := Option.bind_eq_some_iff.mp h
    obtain ⟨t6, ht6, h⟩ := Option.bind_eq_some_iff.mp h
    refine xr_callV (rest := []) X O (T_X12_standingOn l κ a0 t4 _ _ ht6) lk_X12_379 hut5 (Nat.le_of_ble_eq_true rfl) rfl hl.1 rfl (Nat.le_of_ble_eq_true rfl) dX12_stands_26 ⟨Nat.le_of_ble_eq_true rfl, Nat.le_of_ble_eq_true rfl⟩ (fun H locs O => ?_)
    refine W.eq (g2 := F0 m 29 ls [.int t6.1]) rfl ?_
    rw [← Option.some.inj h] at hK
    have hK : (t6.1, t6.2) = (ro, mo) := hK
    obtain ⟨hK1, hK2⟩ := Prod.mk.inj hK
    rw [hK2] at O
    refine xr_top (w := .int ro) (by rw [hK1]) ?_
    exact xr_iret X hr hlk O dX12_stands_29
  rw [if_pos hc14] at h
  refine lv_bipush (v := (-3 : Int32)) hx hb dX12_stands_17 (by decide) ?_
  rw [← Option.some.inj h] at hK
  have hK : ((-3 : Int32), t2.2) = (ro, mo) := hK
  obtain ⟨hK1, hK2⟩ := Prod.mk.inj hK
  rw [hK2] at O
  refine xr_top (w := .int ro) (by rw [hK1]) ?_
  exact xr_iret X hr hlk O dX12_stands_19
def F_X12_wetIn_25 (v2 : Int32) (M : xM) : Option (Int32 × xM) :=
some (v2, M)
def F_X12_wetIn_33 (M : xM) : Option (Int32 × xM) :=
some ((-1 : Int32), M)
def F_X12_wetIn_6b (v0 : Nat) (v1 : Int32) : (Int32 × xM) → Option ((Int32 × xM) ⊕ (Int32 × xM)) := fun ⟨v2, M⟩ =>
if (60 : Int32) < v2 then (
(F_X12_wetIn_33 M).map Sum.inr)
else (
(xck M v0 12).bind fun _ =>
(F_X12_goesOn v0 (0 : Int32) M).bind fun t4 =>
(F_X12_isIn t4.1.toInt64 v1 t4.2).bind fun t5 =>
if t5.1 = 0 then (
some (.inl ((v2 + 1), t5.2)))
else (
(F_X12_wetIn_25 v2 t5.2).map Sum.inr))
def F_X12_wetIn_6 (v0 : Nat) (v1 : Int32) (v2 : Int32) (M : xM) : Option (Int32 × xM) := xit (F_X12_wetIn_6b v0 v1) xFU (v2, M)
def F_X12_wetIn (a0 : Nat) (a1 : Int32) (M : xM) : Option (Int32 × xM) :=
(xck M a0 12).bind fun _ =>
(F_X12_begins a0 M).bind fun t2 =>
F_X12_wetIn_6 a0 a1 (1 : Int32) t2
set_option maxRecDepth 100000 in
set_option maxHeartbeats 4000000 in
theorem F_X12_wetIn_25_ok (X : xX p s m args c cX12_wetIn 3 RX12 κ) (hr : meth.sig.returnType = (some .int)) (hlk : meth.locks = false) {ro : Int32} {mo : xM} (v2 : Int32) (M : xM) (x : Int32 × xM) (h : F_X12_wetIn_25 v2 M = some x) (hK : (fun o => o = (ro, mo)) x) (H : Heap) (locs : List Loc) (ls : Array Slot) (O : xO κ s M H locs) (hl : lv_has ls 3 [(2, .int v2)]) : W p l e (xRm 7 0 0) s m args below meth c H locs 0 0 (xQf below args s 0 0 κ (some (.int ro)) mo) (F0 m 25 ls []) := by
  unfold F_X12_wetIn_25 at h
  have hx := X.1
  have hb := X.2.1
  refine lv_iload_n hx hb dX12_wetIn_25 rfl (lv_at hl 0 rfl) ?_
  rw [← Option.some.inj h] at hK
  have hK : (v2, M) = (ro, mo) := hK
  obtain ⟨hK1, hK2⟩ := Prod.mk.inj hK
  rw [hK2] at O
  refine xr_top (w := .int ro) (by rw [hK1]) ?_
  exact xr_iret X hr hlk O dX12_wetIn_26
set_option maxRecDepth 100000 in
set_option maxHeartbeats 4000000 in
theorem F_X12_wetIn_33_ok (X : xX p s m args c cX12_wetIn 3 RX12 κ) (hr : meth.sig.returnType = (some .int)) (hlk : meth.locks = false) {ro : Int32} {mo : xM} (M : xM) (x : Int32 × xM) (h : F_X12_wetIn_33 M = some x) (hK : (fun o => o = (ro, mo)) x) (H : Heap) (locs : List Loc) (ls : Array Slot) (O : xO κ s M H locs) (hl : lv_has ls 3 []) : W p l e (xRm 7 0 0) s m args below meth c H locs 0 0 (xQf below args s 0 0 κ (some (.int ro)) mo) (F0 m 33 ls []) := by
  unfold F_X12_wetIn_33 at h
  have hx := X.1
  have hb := X.2.1
  refine lv_iconst (v := (-1 : Int32)) hx hb dX12_wetIn_33 (by decide) ?_
  rw [← Option.some.inj h] at hK
  have hK : ((-1 : Int32), M) = (ro, mo) := hK
  obtain ⟨hK1, hK2⟩ := Prod.mk.inj hK
  rw [hK2] at O
  refine xr_top (w := .int ro) (by rw [hK1]) ?_
  exact xr_iret X hr hlk O dX12_wetIn_34
set_option maxRecDepth 100000 in
set_option maxHeartbeats 4000000 in
theorem F_X12_wetIn_6_bok (X : xX p s m args c cX12_wetIn 3 RX12 κ) (hr : meth.sig.returnType = (some .int)) (hlk : meth.locks = false) {ro : Int32} {mo : xM} (v0 : Nat) (v1 : Int32) (v2 : Int32) {W6 : Int32 × xM → Prop} (hW6 : ∀ (v2 : Int32) (M : xM), W6 (v2, M) → ∀ (H : Heap) (locs : List Loc) (ls : Array Slot), xO κ s M H locs → lv_has ls 3 [(0, .ref (κ.1 + v0)), (1, .int v1), (2, .int v2)] → W p l e (xRm 7 0 0) s m args below meth c H locs 0 0 (xQf below args s 0 0 κ (some (.int ro)) mo) (F0 m 6 ls [])) (M : xM) (x : (Int32 × xM) ⊕ (Int32 × xM)) (h : F_X12_wetIn_6b v0 v1 (v2, M) = some x) (hK : (xKl W6 (fun o => o = (ro, mo))) x) (H : Heap) (locs : List Loc) (ls : Array Slot) (O : xO κ s M H locs) (hl : lv_has ls 3 [(0, .ref (κ.1 + v0)), (1, .int v1), (2, .int v2)]) : W p l e (xRm 7 0 0) s m args below meth c H locs 0 0 (xQf below args s 0 0 κ (some (.int ro)) mo) (F0 m 6 ls []) := by
  unfold F_X12_wetIn_6b at h
  dsimp only at h
  have hx := X.1
  have hb := X.2.1
  refine lv_iload_n hx hb dX12_wetIn_6 rfl (lv_at hl 2 rfl) ?_
  refine lv_bipush (v := (60 : Int32)) hx hb dX12_wetIn_7 (by decide) ?_
  refine lv_icmp_gt (tgt := 33) hx hb dX12_wetIn_9 (by decide) (fun hc9 => ?_) (fun hc9 => ?_)
  · rw [if_pos hc9] at h
    obtain ⟨_, hw0, ew0⟩ := Option.map_eq_some_iff.mp h
    rw [← ew0] at hK
    have h := hw0
    exact F_X12_wetIn_33_ok X hr hlk  M _ h hK H locs ls O (lv_sub hl [] rfl)
  rw [if_neg hc9] at h
  refine lv_aload_n hx hb dX12_wetIn_12 rfl (lv_at hl 0 rfl) ?_
  refine lv_iconst (v := (0 : Int32)) hx hb dX12_wetIn_13 (by decide) ?_
  obtain ⟨_, hut3, h⟩ := Option.bind_eq_some_iff.mp h
  obtain ⟨t4, ht4, h⟩ := Option.bind_eq_some_iff.mp h
  refine xr_callV (rest := []) X O (T_X12_goesOn l κ v0 (0 : Int32) M _ _ ht4) lk_X12_275 hut3 (Nat.le_of_ble_eq_true rfl) rfl hl.1 rfl (Nat.le_of_ble_eq_true rfl) dX12_wetIn_14 ⟨Nat.le_of_ble_eq_true rfl, Nat.le_of_ble_eq_true rfl⟩ (fun H locs O => ?_)
  refine W.eq (g2 := F0 m 17 ls [.int t4.1]) rfl ?_
  refine lv_i2l (v := t4.1.toInt64) hx hb dX12_wetIn_17 rfl ?_
  refine lv_iload_n hx hb dX12_wetIn_18 rfl (lv_at hl 1 rfl) ?_
  obtain ⟨t5, ht5, h⟩ := Option.bind_eq_some_iff.mp h
  refine xr_callS (rest := []) X O (T_X12_isIn l κ t4.1.toInt64 v1 t4.2 _ _ ht5) lk_X12_253 (Nat.le_of_ble_eq_true rfl) rfl hl.1 rfl (Nat.le_of_ble_eq_true rfl) dX12_wetIn_19 ⟨Nat.le_of_ble_eq_true rfl, Nat.le_of_ble_eq_true rfl⟩ (fun H locs O => ?_)
  refine W.eq (g2 := F0 m 22 ls [.int t5.1]) rfl ?_
  refine lv_if_eq (tgt := 27) hx hb dX12_wetIn_22 (by decide) (fun hc22 => ?_) (fun hc22 => ?_)
  · rw [if_pos hc22] at h
    refine lv_iinc (v := (v2 + 1)) (lv' := [(2, .int (v2 + 1)), (0, .ref (κ.1 + v0)), (1, .int v1)]) hx hb dX12_wetIn_27 hl (k := 2) rfl rfl (by decide) rfl (fun ls hl => ?_)
    refine lv_goto (tgt := 6) hx hb dX12_wetIn_30 (by decide) ?_
    rw [← Option.some.inj h] at hK
    exact hW6 (v2 + 1) t5.2 hK H locs ls O (lv_sub hl [1, 2, 0] rfl)
  rw [if_neg hc22] at h
  obtain ⟨_, hw0, ew0⟩ := Option.map_eq_some_iff.mp h
  rw [← ew0] at hK
  have h := hw0
  exact F_X12_wetIn_25_ok X hr hlk v2 t5.2 _ h hK H locs ls O (lv_sub hl [2] rfl)
set_option maxRecDepth 100000 in
set_option maxHeartbeats 4000000 in
theorem F_X12_wetIn_6_ok (X : xX p s m args c cX12_wetIn 3 RX12 κ) (hr : meth.sig.returnType = (some .int)) (hlk : meth.locks = false) {ro : Int32} {mo : xM} (v0 : Nat) (v1 : Int32) (v2 : Int32) (M : xM) (x : Int32 × xM) (h : F_X12_wetIn_6 v0 v1 v2 M = some x) (hK : (fun o => o = (ro, mo)) x) (H : Heap) (locs : List Loc) (ls : Array Slot) (O : xO κ s M H locs) (hl : lv_has ls 3 [(0, .ref (κ.1 + v0)), (1, .int v1), (2, .int v2)]) : W p l e (xRm 7 0 0) s m args below meth c H locs 0 0 (xQf below args s 0 0 κ (some (.int ro)) mo) (F0 m 6 ls []) := by
  refine xit_K (Wh := fun x => ∀ (H : Heap) (locs : List Loc) (ls : Array Slot), xO κ s x.2 H locs → lv_has ls 3 [(0, .ref (κ.1 + v0)), (1, .int v1), (2, .int x.1)] → W p l e (xRm 7 0 0) s m args below meth c H locs 0 0 (xQf below args s 0 0 κ (some (.int ro)) mo) (F0 m 6 ls [])) (Kp := (fun o => o = (ro, mo))) ?_ xFU (v2, M) x h hK H locs ls O hl
  intro y x h hK H locs ls O hl
  exact F_X12_wetIn_6_bok X hr hlk v0 v1 y.1 (fun _ _ hw => hw) y.2 x h hK H locs ls O hl
set_option maxRecDepth 100000 in
set_option maxHeartbeats 4000000 in
theorem T_X12_wetIn (l : Launch) (κ : xQ) (a0 : Nat) (a1 : Int32) (M : xM) (ro : Int32) (mo : xM) (h : F_X12_wetIn a0 a1 M = some (ro, mo)) : xC l yX12_wetIn cX12_wetIn 3 (some .int) 7 0 0 κ [.ref (κ.1 + a0), .int a1] M (some (.int ro)) mo := by
  refine xC_of rfl (Nat.le_of_ble_eq_true rfl) fun p e s m args below meth c X hr hlk hnm H locs ls O hl => ?_
  have X : xX p s m args c cX12_wetIn 3 RX12 κ := X
  have hl : lv_has ls 3 [(0, .ref (κ.1 + a0)), (1, .int a1)] := hl
  have hx := X.1
  have hb := X.2.1
  obtain ⟨x, hx0⟩ : ∃ x, (ro, mo) = x := ⟨_, rfl⟩
  rw [hx0] at h
  have hK : x = (ro, mo) := hx0.symm
  unfold F_X12_wetIn at h
  refine lv_aload_n hx hb dX12_wetIn_0 rfl (lv_at hl 0 rfl) ?_
  obtain ⟨_, hut1, h⟩ := Option.bind_eq_some_iff.mp h
  obtain ⟨t2, ht2, h⟩ := Option.bind_eq_some_iff.mp h
  refine xr_callV (rest := []) X O (T_X12_begins l κ a0 M _ ht2) lk_X12_272 hut1 (Nat.le_of_ble_eq_true rfl) rfl hl.1 rfl (Nat.le_of_ble_eq_true rfl) dX12_wetIn_1 ⟨Nat.le_of_ble_eq_true rfl, Nat.le_of_ble_eq_true rfl⟩ (fun H locs O => ?_)
  refine W.eq (g2 := F0 m 4 ls []) rfl ?_
  refine lv_iconst (v := (1 : Int32)) hx hb dX12_wetIn_4 (by decide) ?_
  refine lv_istore_n (lv' := [(2, .int (1 : Int32)), (0, .ref (κ.1 + a0)), (1, .int a1)]) hx hb dX12_wetIn_5 rfl hl (by decide) rfl (fun ls hl => ?_)
  exact F_X12_wetIn_6_ok X hr hlk a0 a1 (1 : Int32) t2 _ h hK H locs ls O (lv_sub hl [1, 2, 0] rfl)
def F_X12_when (a0 : Nat) (a1 : Int32) (M : xM) : Option (Int32 × xM) :=
(xpI M a0 12 0 (0 : Int32)).bind fun t1 =>
(xck t1 a0 12).bind fun _ =>
(F_X12_isCell a0 a1.toInt64 t1).bind fun t3 =>
if t3.1 = 0 then (
some ((-2 : Int32), t3.2))
else (
(xck t3.2 a0 12).bind fun _ =>
(F_X12_wetIn a0 a1 t3.2).bind fun t5 =>
some (t5.1, t5.2))
set_option maxRecDepth 100000 in
set_option maxHeartbeats 4000000 in
theorem T_X12_when (l : Launch) (κ : xQ) (a0 : Nat) (a1 : Int32) (M : xM) (ro : Int32) (mo : xM) (h : F_X12_when a0 a1 M = some (ro, mo)) : xC l yX12_when cX12_when 2 (some .int) 8 0 0 κ [.ref (κ.1 + a0), .int a1] M (some (.int ro)) mo := by
  refine xC_of rfl (Nat.le_of_ble_eq_true rfl) fun p e s m args below meth c X hr hlk hnm H locs ls O hl => ?_
  have X : xX p s m args c cX12_when 2 RX12 κ := X
  have hl : lv_has ls 2 [(0, .ref (κ.1 + a0)), (1, .int a1)] := hl
  have hx := X.1
  have hb := X.2.1
  obtain ⟨x, hx0⟩ : ∃ x, (ro, mo) = x := ⟨_, rfl⟩
  rw [hx0] at h
  have hK : x = (ro, mo) := hx0.symm
  unfold F_X12_when at h
  refine lv_aload_n hx hb dX12_when_0 rfl (lv_at hl 0 rfl) ?_
  refine lv_iconst (v := (0 : Int32)) hx hb dX12_when_1 (by decide) ?_
  obtain ⟨t1, ht1, h⟩ := Option.bind_eq_some_iff.mp h
  refine xr_putI X O ht1 fl_X12_1 dX12_when_2 (fun H locs O => ?_)
  refine lv_aload_n hx hb dX12_when_5 rfl (lv_at hl 0 rfl) ?_
  refine lv_iload_n hx hb dX12_when_6 rfl (lv_at hl 1 rfl) ?_
  refine lv_i2l (v := a1.toInt64) hx hb dX12_when_7 rfl ?_
  obtain ⟨_, hut2, h⟩ := Option.bind_eq_some_iff.mp h
  obtain ⟨t3, ht3, h⟩ := Option.bind_eq_some_iff.mp h
  refine xr_callV (rest := []) X O (T_X12_isCell l κ a0 a1.toInt64 t1 _ _ ht3) lk_X12_230 hut2 (Nat.le_of_ble_eq_true rfl) rfl hl.1 rfl (Nat.le_of_ble_eq_true rfl) dX12_when_8 ⟨Nat.le_of_ble_eq_true rfl, Nat.le_of_ble_eq_true rfl⟩ (fun H locs O => ?_)
  refine W.eq (g2 := F0 m 11 ls [.int t3.1]) rfl ?_
  refine lv_if_eq (tgt := 22) hx hb dX12_when_11 (by decide) (fun hc11 => ?_) (fun hc11 => ?_)
  · rw [if_pos hc11] at h
    refine lv_bipush (v := (-2 : Int32)) hx hb dX12_when_22 (by decide) ?_
    rw [← Option.some.inj h] at hK
    have hK : ((-2 : Int32), t3.2) = (ro, mo) := hK
    obtain ⟨hK1, hK2⟩ := Prod.mk.inj hK
    rw [hK2] at O
    refine xr_top (w := .int ro) (by rw [hK1]) ?_
    exact xr_iret X hr hlk O dX12_when_24
  rw [if_neg hc11] at h
  refine lv_aload_n hx hb dX12_when_14 rfl (lv_at hl 0 rfl) ?_
  refine lv_iload_n hx hb dX12_when_15 rfl (lv_at hl 1 rfl) ?_
  obtain ⟨_, hut4, h⟩ := Option.bind_eq_some_iff.mp h
  obtain ⟨t5, ht5, h⟩ := Option.bind_eq_some_iff.mp h
  refine xr_callV (rest := []) X O (T_X12_wetIn l κ a0 a1 t3.2 _ _ ht5) lk_X12_382 hut4 (Nat.le_of_ble_eq_true rfl) rfl hl.1 rfl (Nat.le_of_ble_eq_true rfl) dX12_when_16 ⟨Nat.le_of_ble_eq_true rfl, Nat.le_of_ble_eq_true rfl⟩ (fun H locs O => ?_)
  refine W.eq (g2 := F0 m 19 ls [.int t5.1]) rfl ?_
  refine lv_goto (tgt := 24) hx hb dX12_when_19 (by decide) ?_
  rw [← Option.some.inj h] at hK
  have hK : (t5.1, t5.2) = (ro, mo) := hK
  obtain ⟨hK1, hK2⟩ := Prod.mk.inj hK
  rw [hK2] at O
  refine xr_top (w := .int ro) (by rw [hK1]) ?_
  exact xr_iret X hr hlk O dX12_when_24
def F_X12_worn (a0 : Nat) (a1 : Int32) (a2 : Int32) (M : xM) : Option (Int32 × xM) :=
(xpI M a0 12 0 (0 : Int32)).bind fun t1 =>
(xck t1 a0 12).bind fun _ =>
(F_X12_isCell a0 a1.toInt64 t1).bind fun t3 =>
if t3.1 = 0 then (
some ((-2 : Int32), t3.2))
else (
(F_X12_within a2.toInt64 (0 : Int64) (60 : Int64) t3.2).bind fun t4 =>
if t4.1 = 0 then (
some ((-3 : Int32), t4.2))
else (
(xck t4.2 a0 12).bind fun _ =>
(F_X12_goesOnFor a0 a2 t4.2).bind fun t6 =>
(xgP t6 a0 12 18).bind fun t7 =>
(xaI t6 20 t7 a1).bind fun t8 =>
some (t8, t6)))
set_option maxRecDepth 100000 in
set_option maxHeartbeats 4000000 in
theorem T_X12_worn (l : Launch) (κ : xQ) (a0 : Nat) (a1 : Int32) (a2 : Int32) (M : xM) (ro : Int32) (mo : xM) (h : F_X12_worn a0 a1 a2 M = some (ro, mo)) : xC l yX12_worn cX12_worn 3 (some .int) 8 0 0 κ [.ref (κ.1 + a0), .int a1, .int a2] M (some (.int ro)) mo := by
  refine xC_of rfl (Nat.le_of_ble_eq_true rfl) fun p e s m args below meth c X hr hlk hnm H locs ls O hl => ?_
  have X : xX p s m args c cX12_worn 3 RX12 κ := X
  have hl : lv_has ls 3 [(0, .ref (κ.1 + a0)), (1, .int a1), (2, .int a2)] := hl
  have hx := X.1
  have hb := X.2.1
  obtain ⟨x, hx0⟩ : ∃ x, (ro, mo) = x := ⟨_, rfl⟩
  rw [hx0] at h
  have hK : x = (ro, mo) := hx0.symm
  unfold F_X12_worn at h
  refine lv_aload_n hx hb dX12_worn_0 rfl (lv_at hl 0 rfl) ?_
  refine lv_iconst (v := (0 : Int32)) hx hb dX12_worn_1 (by decide) ?_
  obtain ⟨t1, ht1, h⟩ := Option.bind_eq_some_iff.mp h
  refine xr_putI X O ht1 fl_X12_1 dX12_worn_2 (fun H locs O => ?_)
  refine lv_aload_n hx hb dX12_worn_5 rfl (lv_at hl 0 rfl) ?_
  refine lv_iload_n hx hb dX12_worn_6 rfl (lv_at hl 1 rfl) ?_
  refine lv_i2l (v := a1.toInt64) hx hb dX12_worn_7 rfl ?_
  obtain ⟨_, hut2, h⟩ := Option.bind_eq_some_iff.mp h
  obtain ⟨t3, ht3, h⟩ := Option.bind_eq_some_iff.mp h
  refine xr_callV (rest := []) X O (T_X12_isCell l κ a0 a1.toInt64 t1 _ _ ht3) lk_X12_230 hut2 (Nat.le_of_ble_eq_true rfl) rfl hl.1 rfl (Nat.le_of_ble_eq_true rfl) dX12_worn_8 ⟨Nat.le_of_ble_eq_true rfl, Nat.le_of_ble_eq_true rfl⟩ (fun H locs O => ?_)
  refine W.eq (g2 := F0 m 11 ls [.int t3.1]) rfl ?_
  refine lv_if_ne (tgt := 17) hx hb dX12_worn_11 (by decide) (fun hc11 => ?_) (fun hc11 => ?_)
  · rw [if_neg hc11] at h
    refine lv_iload_n hx hb dX12_worn_17 rfl (lv_at hl 2 rfl) ?_
    refine lv_i2l (v := a2.toInt64) hx hb dX12_worn_18 rfl ?_
    refine lv_lconst (v := (0 : Int64)) hx hb dX12_worn_19 (by decide) ?_
    refine lv_ldc2 (v := (60 : Int64)) hx hb X.2.2.2.1 (X.2.2.2.2.1 _ ct_X12_377) dX12_worn_20 ?_
    obtain ⟨t4, ht4, h⟩ := Option.bind_eq_some_iff.mp h
    refine xr_callS (rest := []) X O (T_X12_within l κ a2.toInt64 (0 : Int64) (60 : Int64) t3.2 _ _ ht4) lk_X12_145 (Nat.le_of_ble_eq_true rfl) rfl hl.1 rfl (Nat.le_of_ble_eq_true rfl) dX12_worn_23 ⟨Nat.le_of_ble_eq_true rfl, Nat.le_of_ble_eq_true rfl⟩ (fun H locs O => ?_)
    refine W.eq (g2 := F0 m 26 ls [.int t4.1]) rfl ?_
    refine lv_if_ne (tgt := 32) hx hb dX12_worn_26 (by decide) (fun hc26 => ?_) (fun hc26 => ?_)
    · rw [if_neg hc26] at h
      refine lv_aload_n hx hb dX12_worn_32 rfl (lv_at hl 0 rfl) ?_
      refine lv_iload_n hx hb dX12_worn_33 rfl (lv_at hl 2 rfl) ?_
      obtain ⟨_, hut5, h⟩ := Option.bind_eq_some_iff.mp h
      obtain ⟨t6, ht6, h⟩ := Option.bind_eq_some_iff.mp h
      refine xr_callV (rest := []) X O (T_X12_goesOnFor l κ a0 a2 t4.2 _ ht6) lk_X12_287 hut5 (Nat.le_of_ble_eq_true rfl) rfl hl.1 rfl (Nat.le_of_ble_eq_true rfl) dX12_worn_34 ⟨Nat.le_of_ble_eq_true rfl, Nat.le_of_ble_eq_true rfl⟩ (fun H locs O => ?_)
      refine W.eq (g2 := F0 m 37 ls []) rfl ?_
      refine lv_aload_n hx hb dX12_worn_37 rfl (lv_at hl 0 rfl) ?_
      obtain ⟨t7, ht7, h⟩ := Option.bind_eq_some_iff.mp h
      refine xr_getP X O ht7 fl_X12_36 dX12_worn_38 ?_
      refine lv_iload_n hx hb dX12_worn_41 rfl (lv_at hl 1 rfl) ?_
      obtain ⟨t8, ht8, h⟩ := Option.bind_eq_some_iff.mp h
      refine xr_aldI X O ht8 dX12_worn_42 ?_
      rw [← Option.some.inj h] at hK
      have hK : (t8, t6) = (ro, mo) := hK
      obtain ⟨hK1, hK2⟩ := Prod.mk.inj hK
      rw [hK2] at O
      refine xr_top (w := .int ro) (by rw [hK1]) ?_
      exact xr_iret X hr hlk O dX12_worn_43
    rw [if_pos hc26] at h
    refine lv_bipush (v := (-3 : Int32)) hx hb dX12_worn_29 (by decide) ?_
    rw [← Option.some.inj h] at hK
    have hK : ((-3 : Int32), t4.2) = (ro, mo) := hK
    obtain ⟨hK1, hK2⟩ := Prod.mk.inj hK
    rw [hK2] at O
    refine xr_top (w := .int ro) (by rw [hK1]) ?_
    exact xr_iret X hr hlk O dX12_worn_31
  rw [if_pos hc11] at h
  refine lv_bipush (v := (-2 : Int32)) hx hb dX12_worn_14 (by decide) ?_
  rw [← Option.some.inj h] at hK
  have hK : ((-2 : Int32), t3.2) = (ro, mo) := hK
  obtain ⟨hK1, hK2⟩ := Prod.mk.inj hK
  rw [hK2] at O
  refine xr_top (w := .int ro) (by rw [hK1]) ?_
  exact xr_iret X hr hlk O dX12_worn_16
def F_X12_last_76 (v0 : Nat) (v1 : Int32) (v2 : Int32) (v3 : Int32) (M : xM) : Option ((Int32 × Int32 × Int32 × xM) ⊕ (Int32 × xM)) :=
some (.inl (v1, v2, (v3 + 1), M))
def F_X12_last_60 (v0 : Nat) (v1 : Int32) (v2 : Int32) (v3 : Int32) (s0 : Int32) (M : xM) : Option ((Int32 × Int32 × Int32 × xM) ⊕ (Int32 × xM)) :=
if v2 < s0 then (
F_X12_last_76 v0 v3 s0 v3 M)
else (
F_X12_last_76 v0 v1 v2 v3 M)
def F_X12_last_82 (v1 : Int32) (M : xM) : Option (Int32 × xM) :=
some (v1, M)
def F_X12_last_11b (v0 : Nat) : (Int32 × Int32 × Int32 × xM) → Option ((Int32 × Int32 × Int32 × xM) ⊕ (Int32 × xM)) := fun ⟨v1, v2, v3, M⟩ =>
(xgP M v0 12 1).bind fun t2 =>
(xaI M 20 t2 (92 : Int32)).bind fun t3 =>
if t3 ≤ v3 then (
(F_X12_last_82 v1 M).map Sum.inr)
else (
(xgP M v0 12 1).bind fun t4 =>
(xaI M 20 t4 (105 : Int32)).bind fun t5 =>
(F_X12_isIn t5.toInt64 v3 M).bind fun t6 =>
if t6.1 = 0 then (
(xck t6.2 v0 12).bind fun _ =>
(F_X12_fallsIn v0 v3 t6.2).bind fun t8 =>
if t8.1 = (-1 : Int32) then (
F_X12_last_60 v0 v1 v2 v3 (268435456 : Int32) t8.2)
else (
(xck t8.2 v0 12).bind fun _ =>
(F_X12_fallsIn v0 v3 t8.2).bind fun t10 =>
F_X12_last_60 v0 v1 v2 v3 t10.1 t10.2))
else (
F_X12_last_76 v0 v1 v2 v3 t6.2))
def F_X12_last_11 (v0 : Nat) (v1 : Int32) (v2 : Int32) (v3 : Int32) (M : xM) : Option (Int32 × xM) := xit (F_X12_last_11b v0) xFU (v1, v2, v3, M)
def F_X12_last (a0 : Nat) (M : xM) : Option (Int32 × xM) :=
(xpI M a0 12 0 (0 : Int32)).bind fun t1 =>
F_X12_last_11 a0 (-1 : Int32) (-1 : Int32) (0 : Int32) t1
set_option maxRecDepth 100000 in
set_option maxHeartbeats 4000000 in
theorem F_X12_last_76_ok (X : xX p s m args c cX12_last 5 RX12 κ) (hr : meth.sig.returnType = (some .int)) (hlk : meth.locks = false) {ro : Int32} {mo : xM} (v0 : Nat) (v1 : Int32) (v2 : Int32) (v3 : Int32) {W11 : Int32 × Int32 × Int32 × xM → Prop} (hW11 : ∀ (v1 : Int32) (v2 : Int32) (v3 : Int32) (M : xM), W11 (v1, v2, v3, M) → ∀ (H : Heap) (locs : List Loc) (ls : Array Slot), xO κ s M H locs → lv_has ls 5 [(0, .ref (κ.1 + v0)), (1, .int v1), (2, .int v2), (3, .int v3)] → W p l e (xRm 8 0 0) s m args below meth c H locs 0 0 (xQf below args s 0 0 κ (some (.int ro)) mo) (F0 m 11 ls [])) (M : xM) (x : (Int32 × Int32 × Int32 × xM) ⊕ (Int32 × xM)) (h : F_X12_last_76 v0 v1 v2 v3 M = some x) (hK : (xKl W11 (fun o => o = (ro, mo))) x) (H : Heap) (locs : List Loc) (ls : Array Slot) (O : xO κ s M H locs) (hl : lv_has ls 5 [(0, .ref (κ.1 + v0)), (1, .int v1), (2, .int v2), (3, .int v3)]) : W p l e (xRm 8 0 0) s m args below meth c H locs 0 0 (xQf below args s 0 0 κ (some (.int ro)) mo) (F0 m 76 ls []) := by
  unfold F_X12_last_76 at h
  have hx := X.1
  have hb := X.2.1
  refine lv_iinc (v := (v3 + 1)) (lv' := [(3, .int (v3 + 1)), (0, .ref (κ.1 + v0)), (1, .int v1), (2, .int v2)]) hx hb dX12_last_76 hl (k := 3) rfl rfl (by decide) rfl (fun ls hl => ?_)
  refine lv_goto (tgt := 11) hx hb dX12_last_79 (by decide) ?_
  rw [← Option.some.inj h] at hK
  exact hW11 v1 v2 (v3 + 1) M hK H locs ls O (lv_sub hl [1, 2, 3, 0] rfl)
set_option maxRecDepth 100000 in
set_option maxHeartbeats 4000000 in
theorem F_X12_last_60_ok (X : xX p s m args c cX12_last 5 RX12 κ) (hr : meth.sig.returnType = (some .int)) (hlk : meth.locks = false) {ro : Int32} {mo : xM} (v0 : Nat) (v1 : Int32) (v2 : Int32) (v3 : Int32) (s0 : Int32) {W11 : Int32 × Int32 × Int32 × xM → Prop} (hW11 : ∀ (v1 : Int32) (v2 : Int32) (v3 : Int32) (M : xM), W11 (v1, v2, v3, M) → ∀ (H : Heap) (locs : List Loc) (ls : Array Slot), xO κ s M H locs → lv_has ls 5 [(0, .ref (κ.1 + v0)), (1, .int v1), (2, .int v2), (3, .int v3)] → W p l e (xRm 8 0 0) s m args below meth c H locs 0 0 (xQf below args s 0 0 κ (some (.int ro)) mo) (F0 m 11 ls [])) (M : xM) (x : (Int32 × Int32 × Int32 × xM) ⊕ (Int32 × xM)) (h : F_X12_last_60 v0 v1 v2 v3 s0 M = some x) (hK : (xKl W11 (fun o => o = (ro, mo))) x) (H : Heap) (locs : List Loc) (ls : Array Slot) (O : xO κ s M H locs) (hl : lv_has ls 5 [(0, .ref (κ.1 + v0)), (1, .int v1), (2, .int v2), (3, .int v3)]) : W p l e (xRm 8 0 0) s m args below meth c H locs 0 0 (xQf below args s 0 0 κ (some (.int ro)) mo) (F0 m 60 ls [.int s0]) := by
  unfold F_X12_last_60 at h
  have hx := X.1
  have hb := X.2.1
  refine lv_istore (lv' := [(4, .int s0), (0, .ref (κ.1 + v0)), (1, .int v1), (2, .int v2), (3, .int v3)]) hx hb dX12_last_60 hl (by decide) rfl (fun ls hl => ?_)
  refine lv_iload hx hb dX12_last_62 (lv_at hl 0 rfl) ?_
  refine lv_iload_n hx hb dX12_last_64 rfl (lv_at hl 3 rfl) ?_
  refine lv_icmp_gt (tgt := 71) hx hb dX12_last_65 (by decide) (fun hc65 => ?_) (fun hc65 => ?_)
  · rw [if_pos hc65] at h
    refine lv_iload_n hx hb dX12_last_71 rfl (lv_at hl 4 rfl) ?_
    refine lv_istore_n (lv' := [(1, .int v3), (4, .int s0), (0, .ref (κ.1 + v0)), (2, .int v2), (3, .int v3)]) hx hb dX12_last_72 rfl hl (by decide) rfl (fun ls hl => ?_)
    refine lv_iload hx hb dX12_last_73 (lv_at hl 1 rfl) ?_
    refine lv_istore_n (lv' := [(2, .int s0), (1, .int v3), (4, .int s0), (0, .ref (κ.1 + v0)), (3, .int v3)]) hx hb dX12_last_75 rfl hl (by decide) rfl (fun ls hl => ?_)
    exact F_X12_last_76_ok X hr hlk v0 v3 s0 v3 hW11 M _ h hK H locs ls O (lv_sub hl [3, 1, 0, 4] rfl)
  rw [if_neg hc65] at h
  refine lv_goto (tgt := 76) hx hb dX12_last_68 (by decide) ?_
  exact F_X12_last_76_ok X hr hlk v0 v1 v2 v3 hW11 M _ h hK H locs ls O (lv_sub hl [1, 2, 3, 4] rfl)
set_option maxRecDepth 100000 in
set_option maxHeartbeats 4000000 in
theorem F_X12_last_82_ok (X : xX p s m args c cX12_last 5 RX12 κ) (hr : meth.sig.returnType = (some .int)) (hlk : meth.locks = false) {ro : Int32} {mo : xM} (v1 : Int32) (M : xM) (x : Int32 × xM) (h : F_X12_last_82 v1 M = some x) (hK : (fun o => o = (ro, mo)) x) (H : Heap) (locs : List Loc) (ls : Array Slot) (O : xO κ s M H locs) (hl : lv_has ls 5 [(1, .int v1)]) : W p l e (xRm 8 0 0) s m args below meth c H locs 0 0 (xQf below args s 0 0 κ (some (.int ro)) mo) (F0 m 82 ls []) := by
  unfold F_X12_last_82 at h
  have hx := X.1
  have hb := X.2.1
  refine lv_iload_n hx hb dX12_last_82 rfl (lv_at hl 0 rfl) ?_
  rw [← Option.some.inj h] at hK
  have hK : (v1, M) = (ro, mo) := hK
  obtain ⟨hK1, hK2⟩ := Prod.mk.inj hK
  rw [hK2] at O
  refine xr_top (w := .int ro) (by rw [hK1]) ?_
  exact xr_iret X hr hlk O dX12_last_83
set_option maxRecDepth 100000 in
set_option maxHeartbeats 4000000 in
theorem F_X12_last_11_bok (X : xX p s m args c cX12_last 5 RX12 κ) (hr : meth.sig.returnType = (some .int)) (hlk : meth.locks = false) {ro : Int32} {mo : xM} (v0 : Nat) (v1 : Int32) (v2 : Int32) (v3 : Int32) {W11 : Int32 × Int32 × Int32 × xM → Prop} (hW11 : ∀ (v1 : Int32) (v2 : Int32) (v3 : Int32) (M : xM), W11 (v1, v2, v3, M) → ∀ (H : Heap) (locs : List Loc) (ls : Array Slot), xO κ s M H locs → lv_has ls 5 [(0, .ref (κ.1 + v0)), (1, .int v1), (2, .int v2), (3, .int v3)] → W p l e (xRm 8 0 0) s m args below meth c H locs 0 0 (xQf below args s 0 0 κ (some (.int ro)) mo) (F0 m 11 ls [])) (M : xM) (x : (Int32 × Int32 × Int32 × xM) ⊕ (Int32 × xM)) (h : F_X12_last_11b v0 (v1, v2, v3, M) = some x) (hK : (xKl W11 (fun o => o = (ro, mo))) x) (H : Heap) (locs : List Loc) (ls : Array Slot) (O : xO κ s M H locs) (hl : lv_has ls 5 [(0, .ref (κ.1 + v0)), (1, .int v1), (2, .int v2), (3, .int v3)]) : W p l e (xRm 8 0 0) s m args below meth c H locs 0 0 (xQf below args s 0 0 κ (some (.int ro)) mo) (F0 m 11 ls []) := by
  unfold F_X12_last_11b at h
  dsimp only at h
  have hx := X.1
  have hb := X.2.1
  refine lv_iload_n hx hb dX12_last_11 rfl (lv_at hl 3 rfl) ?_
  refine lv_aload_n hx hb dX12_last_12 rfl (lv_at hl 0 rfl) ?_
  obtain ⟨t2, ht2, h⟩ := Option.bind_eq_some_iff.mp h
  refine xr_getP X O ht2 fl_X12_13 dX12_last_13 ?_
  refine lv_bipush (v := (92 : Int32)) hx hb dX12_last_16 (by decide) ?_
  obtain ⟨t3, ht3, h⟩ := Option.bind_eq_some_iff.mp h
  refine xr_aldI X O ht3 dX12_last_18 ?_
  refine lv_icmp_ge (tgt := 82) hx hb dX12_last_19 (by decide) (fun hc19 => ?_) (fun hc19 => ?_)
  · rw [if_pos hc19] at h
    obtain ⟨_, hw0, ew0⟩ := Option.map_eq_some_iff.mp h
    rw [← ew0] at hK
    have h := hw0
    exact F_X12_last_82_ok X hr hlk v1 M _ h hK H locs ls O (lv_sub hl [1] rfl)
  rw [if_neg hc19] at h
  refine lv_aload_n hx hb dX12_last_22 rfl (lv_at hl 0 rfl) ?_
  obtain ⟨t4, ht4, h⟩ := Option.bind_eq_some_iff.mp h
  refine xr_getP X O ht4 fl_X12_13 dX12_last_23 ?_
  refine lv_bipush (v := (105 : Int32)) hx hb dX12_last_26 (by decide) ?_
  obtain ⟨t5, ht5, h⟩ := Option.bind_eq_some_iff.mp h
  refine xr_aldI X O ht5 dX12_last_28 ?_
  refine lv_i2l (v := t5.toInt64) hx hb dX12_last_29 rfl ?_
  refine lv_iload_n hx hb dX12_last_30 rfl (lv_at hl 3 rfl) ?_
  obtain ⟨t6, ht6, h⟩ := Option.bind_eq_some_iff.mp h
  refine xr_callS (rest := []) X O (T_X12_isIn l κ t5.toInt64 v3 M _ _ ht6) lk_X12_253 (Nat.le_of_ble_eq_true rfl) rfl hl.1 rfl (Nat.le_of_ble_eq_true rfl) dX12_last_31 ⟨Nat.le_of_ble_eq_true rfl, Nat.le_of_ble_eq_true rfl⟩ (fun H locs O => ?_)
  refine W.eq (g2 := F0 m 34 ls [.int t6.1]) rfl ?_
  refine lv_if_eq (tgt := 40) hx hb dX12_last_34 (by decide) (fun hc34 => ?_) (fun hc34 => ?_)
  · rw [if_pos hc34] at h
    refine lv_aload_n hx hb dX12_last_40 rfl (lv_at hl 0 rfl) ?_
    refine lv_iload_n hx hb dX12_last_41 rfl (lv_at hl 3 rfl) ?_
    obtain ⟨_, hut7, h⟩ := Option.bind_eq_some_iff.mp h
    obtain ⟨t8, ht8, h⟩ := Option.bind_eq_some_iff.mp h
    refine xr_callV (rest := []) X O (T_X12_fallsIn l κ v0 v3 t6.2 _ _ ht8) lk_X12_374 hut7 (Nat.le_of_ble_eq_true rfl) rfl hl.1 rfl (Nat.le_of_ble_eq_true rfl) dX12_last_42 ⟨Nat.le_of_ble_eq_true rfl, Nat.le_of_ble_eq_true rfl⟩ (fun H locs O => ?_)
    refine W.eq (g2 := F0 m 45 ls [.int t8.1]) rfl ?_
    refine lv_iconst (v := (-1 : Int32)) hx hb dX12_last_45 (by decide) ?_
    refine lv_icmp_ne (tgt := 55) hx hb dX12_last_46 (by decide) (fun hc46 => ?_) (fun hc46 => ?_)
    · rw [if_neg hc46] at h
      refine lv_aload_n hx hb dX12_last_55 rfl (lv_at hl 0 rfl) ?_
      refine lv_iload_n hx hb dX12_last_56 rfl (lv_at hl 3 rfl) ?_
      obtain ⟨_, hut9, h⟩ := Option.bind_eq_some_iff.mp h
      obtain ⟨t10, ht10, h⟩ := Option.bind_eq_some_iff.mp h
      refine xr_callV (rest := []) X O (T_X12_fallsIn l κ v0 v3 t8.2 _ _ ht10) lk_X12_374 hut9 (Nat.le_of_ble_eq_true rfl) rfl hl.1 rfl (Nat.le_of_ble_eq_true rfl) dX12_last_57 ⟨Nat.le_of_ble_eq_true rfl, Nat.le_of_ble_eq_true rfl⟩ (fun H locs O => ?_)
      refine W.eq (g2 := F0 m 60 ls [.int t10.1]) rfl ?_
      exact F_X12_last_60_ok X hr hlk v0 v1 v2 v3 t10.1 hW11 t10.2 _ h hK H locs ls O (lv_sub hl [0, 1, 2, 3] rfl)
    rw [if_pos hc46] at h
    refine lv_ldcw (v := (268435456 : Int32)) hx hb X.2.2.2.1 (X.2.2.2.2.1 _ ct_X12_385) dX12_last_49 ?_
    refine lv_goto (tgt := 60) hx hb dX12_last_52 (by decide) ?_
    exact F_X12_last_60_ok X hr hlk v0 v1 v2 v3 (268435456 : Int32) hW11 t8.2 _ h hK H locs ls O (lv_sub hl [0, 1, 2, 3] rfl)
  rw [if_neg hc34] at h
  refine lv_goto (tgt := 76) hx hb dX12_last_37 (by decide) ?_
  exact F_X12_last_76_ok X hr hlk v0 v1 v2 v3 hW11 t6.2 _ h hK H locs ls O (lv_sub hl [0, 1, 2, 3] rfl)
set_option maxRecDepth 100000 in
set_option maxHeartbeats 4000000 in
theorem F_X12_last_11_ok (X : xX p s m args c cX12_last 5 RX12 κ) (hr : meth.sig.returnType = (some .int)) (hlk : meth.locks = false) {ro : Int32} {mo : xM} (v0 : Nat) (v1 : Int32) (v2 : Int32) (v3 : Int32) (M : xM) (x : Int32 × xM) (h : F_X12_last_11 v0 v1 v2 v3 M = some x) (hK : (fun o => o = (ro, mo)) x) (H : Heap) (locs : List Loc) (ls : Array Slot) (O : xO κ s M H locs) (hl : lv_has ls 5 [(0, .ref (κ.1 + v0)), (1, .int v1), (2, .int v2), (3, .int v3)]) : W p l e (xRm 8 0 0) s m args below meth c H locs 0 0 (xQf below args s 0 0 κ (some (.int ro)) mo) (F0 m 11 ls []) := by
  refine xit_K (Wh := fun x => ∀ (H : Heap) (locs : List Loc) (ls : Array Slot), xO κ s x.2.2.2 H locs → lv_has ls 5 [(0, .ref (κ.1 + v0)), (1, .int x.1), (2, .int x.2.1), (3, .int x.2.2.1)] → W p l e (xRm 8 0 0) s m args below meth c H locs 0 0 (xQf below args s 0 0 κ (some (.int ro)) mo) (F0 m 11 ls [])) (Kp := (fun o => o = (ro, mo))) ?_ xFU (v1, v2, v3, M) x h hK H locs ls O hl
  intro y x h hK H locs ls O hl
  exact F_X12_last_11_bok X hr hlk v0 y.1 y.2.1 y.2.2.1 (fun _ _ _ _ hw => hw) y.2.2.2 x h hK H locs ls O hl
set_option maxRecDepth 100000 in
set_option maxHeartbeats 4000000 in
theorem T_X12_last (l : Launch) (κ : xQ) (a0 : Nat) (M : xM) (ro : Int32) (mo : xM) (h : F_X12_last a0 M = some (ro, mo)) : xC l yX12_last cX12_last 5 (some .int) 8 0 0 κ [.ref (κ.1 + a0)] M (some (.int ro)) mo := by
  refine xC_of rfl (Nat.le_of_ble_eq_true rfl) fun p e s m args below meth c X hr hlk hnm H locs ls O hl => ?_
  have X : xX p s m args c cX12_last 5 RX12 κ := X
  have hl : lv_has ls 5 [(0, .ref (κ.1 + a0))] := hl
  have hx := X.1
  have hb := X.2.1
  obtain ⟨x, hx0⟩ : ∃ x, (ro, mo) = x := ⟨_, rfl⟩
  rw [hx0] at h
  have hK : x = (ro, mo) := hx0.symm
  unfold F_X12_last at h
  refine lv_aload_n hx hb dX12_last_0 rfl (lv_at hl 0 rfl) ?_
  refine lv_iconst (v := (0 : Int32)) hx hb dX12_last_1 (by decide) ?_
  obtain ⟨t1, ht1, h⟩ := Option.bind_eq_some_iff.mp h
  refine xr_putI X O ht1 fl_X12_1 dX12_last_2 (fun H locs O => ?_)
  refine lv_iconst (v := (-1 : Int32)) hx hb dX12_last_5 (by decide) ?_
  refine lv_istore_n (lv' := [(1, .int (-1 : Int32)), (0, .ref (κ.1 + a0))]) hx hb dX12_last_6 rfl hl (by decide) rfl (fun ls hl => ?_)
  refine lv_iconst (v := (-1 : Int32)) hx hb dX12_last_7 (by decide) ?_
  refine lv_istore_n (lv' := [(2, .int (-1 : Int32)), (1, .int (-1 : Int32)), (0, .ref (κ.1 + a0))]) hx hb dX12_last_8 rfl hl (by decide) rfl (fun ls hl => ?_)
  refine lv_iconst (v := (0 : Int32)) hx hb dX12_last_9 (by decide) ?_
  refine lv_istore_n (lv' := [(3, .int (0 : Int32)), (2, .int (-1 : Int32)), (1, .int (-1 : Int32)), (0, .ref (κ.1 + a0))]) hx hb dX12_last_10 rfl hl (by decide) rfl (fun ls hl => ?_)
  exact F_X12_last_11_ok X hr hlk a0 (-1 : Int32) (-1 : Int32) (0 : Int32) t1 _ h hK H locs ls O (lv_sub hl [3, 2, 1, 0] rfl)
def F_X12_owner_95 (v0 : Nat) (v2 : Int32) (v3 : Int32) (v4 : Int32) (v6 : Int32) (s0 : Int32) (s1 : Int32) (M : xM) : Option ((Int32 × Int32 × xM) ⊕ ((Int32 × Int32 × Int32 × xM) ⊕ (Int32 × xM))) :=
(some ((s1 + s0))).bind fun t11 =>
some (.inl (t11, (v6 + 1), M))
def F_X12_owner_94 (v0 : Nat) (v2 : Int32) (v3 : Int32) (v4 : Int32) (v6 : Int32) (s0 : Int32) (M : xM) : Option ((Int32 × Int32 × xM) ⊕ ((Int32 × Int32 × Int32 × xM) ⊕ (Int32 × xM))) :=
F_X12_owner_95 v0 v2 v3 v4 v6 (0 : Int32) s0 M
def F_X12_owner_119 (v0 : Nat) (v2 : Int32) (v3 : Int32) (v4 : Int32) (M : xM) : Option ((Int32 × Int32 × Int32 × xM) ⊕ (Int32 × xM)) :=
some (.inl (v2, v3, (v4 + 1), M))
def F_X12_owner_104 (v0 : Nat) (v2 : Int32) (v3 : Int32) (v4 : Int32) (v5 : Int32) (M : xM) : Option ((Int32 × Int32 × Int32 × xM) ⊕ (Int32 × xM)) :=
if v3 < v5 then (
F_X12_owner_119 v0 v4 v5 v4 M)
else (
F_X12_owner_119 v0 v2 v3 v4 M)
def F_X12_owner_44b (v0 : Nat) (v2 : Int32) (v3 : Int32) (v4 : Int32) : (Int32 × Int32 × xM) → Option ((Int32 × Int32 × xM) ⊕ ((Int32 × Int32 × Int32 × xM) ⊕ (Int32 × xM))) := fun ⟨v5, v6, M⟩ =>
(xgP M v0 12 1).bind fun t5 =>
(xaI M 20 t5 (92 : Int32)).bind fun t6 =>
if t6 ≤ v6 then (
(F_X12_owner_104 v0 v2 v3 v4 v5 M).map Sum.inr)
else (
(xgI M v0 12 20).bind fun t7 =>
(F_X12_isIn t7.toInt64 v6 M).bind fun t8 =>
if t8.1 = 0 then (
(xgP t8.2 v0 12 1).bind fun t9 =>
(xaI t8.2 20 t9 (((93 : Int32) + ((2 : Int32) * v6)) + (1 : Int32))).bind fun t10 =>
if t10 = v4 then (
F_X12_owner_95 v0 v2 v3 v4 v6 (1 : Int32) v5 t8.2)
else (
F_X12_owner_94 v0 v2 v3 v4 v6 v5 t8.2))
else (
F_X12_owner_94 v0 v2 v3 v4 v6 v5 t8.2))
def F_X12_owner_44 (v0 : Nat) (v2 : Int32) (v3 : Int32) (v4 : Int32) (v5 : Int32) (v6 : Int32) (M : xM) : Option ((Int32 × Int32 × Int32 × xM) ⊕ (Int32 × xM)) := xit (F_X12_owner_44b v0 v2 v3 v4) xFU (v5, v6, M)
def F_X12_owner_125 (v2 : Int32) (M : xM) : Option (Int32 × xM) :=
some (v2, M)
def F_X12_owner_32b (v0 : Nat) : (Int32 × Int32 × Int32 × xM) → Option ((Int32 × Int32 × Int32 × xM) ⊕ (Int32 × xM)) := fun ⟨v2, v3, v4, M⟩ =>
if (5 : Int32) ≤ v4 then (
(F_X12_owner_125 v2 M).map Sum.inr)
else (
F_X12_owner_44 v0 v2 v3 v4 (0 : Int32) (0 : Int32) M)
def F_X12_owner_32 (v0 : Nat) (v2 : Int32) (v3 : Int32) (v4 : Int32) (M : xM) : Option (Int32 × xM) := xit (F_X12_owner_32b v0) xFU (v2, v3, v4, M)
def F_X12_owner (a0 : Nat) (a1 : Int32) (M : xM) : Option (Int32 × xM) :=
(xpI M a0 12 0 (0 : Int32)).bind fun t1 =>
(F_X12_within a1.toInt64 (0 : Int64) (60 : Int64) t1).bind fun t2 =>
if t2.1 = 0 then (
some ((-3 : Int32), t2.2))
else (
(xck t2.2 a0 12).bind fun _ =>
(F_X12_goesOnFor a0 a1 t2.2).bind fun t4 =>
F_X12_owner_32 a0 (-1 : Int32) (0 : Int32) (0 : Int32) t4)
set_option maxRecDepth 100000 in
set_option maxHeartbeats 4000000 in
theorem F_X12_owner_95_ok (X : xX p s m args c cX12_owner 7 RX12 κ) (hr : meth.sig.returnType = (some .int)) (hlk : meth.locks = false) {ro : Int32} {mo : xM} (v0 : Nat) (v2 : Int32) (v3 : Int32) (v4 : Int32) (v6 : Int32) (s0 : Int32) (s1 : Int32) {W32 : Int32 × Int32 × Int32 × xM → Prop} (hW32 : ∀ (v2 : Int32) (v3 : Int32) (v4 : Int32) (M : xM), W32 (v2, v3, v4, M) → ∀ (H : Heap) (locs : List Loc) (ls : Array Slot), xO κ s M H locs → lv_has ls 7 [(0, .ref (κ.1 + v0)), (2, .int v2), (3, .int v3), (4, .int v4)] → W p l e (xRm 8 0 0) s m args below meth c H locs 0 0 (xQf below args s 0 0 κ (some (.int ro)) mo) (F0 m 32 ls [])) {W44 : Int32 × Int32 × xM → Prop} (hW44 : ∀ (v5 : Int32) (v6 : Int32) (M : xM), W44 (v5, v6, M) → ∀ (H : Heap) (locs : List Loc) (ls : Array Slot), xO κ s M H locs → lv_has ls 7 [(0, .ref (κ.1 + v0)), (2, .int v2), (3, .int v3), (4, .int v4), (5, .int v5), (6, .int v6)] → W p l e (xRm 8 0 0) s m args below meth c H locs 0 0 (xQf below args s 0 0 κ (some (.int ro)) mo) (F0 m 44 ls [])) (M : xM) (x : (Int32 × Int32 × xM) ⊕ ((Int32 × Int32 × Int32 × xM) ⊕ (Int32 × xM))) (h : F_X12_owner_95 v0 v2 v3 v4 v6 s0 s1 M = some x) (hK : (xKl W44 (xKl W32 (fun o => o = (ro, mo)))) x) (H : Heap) (locs : List Loc) (ls : Array Slot) (O : xO κ s M H locs) (hl : lv_has ls 7 [(0, .ref (κ.1 + v0)), (2, .int v2), (3, .int v3), (4, .int v4), (6, .int v6)]) : W p l e (xRm 8 0 0) s m args below meth c H locs 0 0 (xQf below args s 0 0 κ (some (.int ro)) mo) (F0 m 95 ls [.int s0, .int s1]) := by
  unfold F_X12_owner_95 at h
  have hx := X.1
  have hb := X.2.1
  refine lv_iadd hx hb dX12_owner_95 ?_
  obtain ⟨t11, ht11, h⟩ := Option.bind_eq_some_iff.mp h
  refine xr_top (w := .int t11) (by rw [Option.some.inj ht11]) ?_
  refine lv_istore (lv' := [(5, .int t11), (0, .ref (κ.1 + v0)), (2, .int v2), (3, .int v3), (4, .int v4), (6, .int v6)]) hx hb dX12_owner_96 hl (by decide) rfl (fun ls hl => ?_)
  refine lv_iinc (v := (v6 + 1)) (lv' := [(6, .int (v6 + 1)), (5, .int t11), (0, .ref (κ.1 + v0)), (2, .int v2), (3, .int v3), (4, .int v4)]) hx hb dX12_owner_98 hl (k := 5) rfl rfl (by decide) rfl (fun ls hl => ?_)
  refine lv_goto (tgt := 44) hx hb dX12_owner_101 (by decide) ?_
  rw [← Option.some.inj h] at hK
  exact hW44 t11 (v6 + 1) M hK H locs ls O (lv_sub hl [2, 3, 4, 5, 1, 0] rfl)
set_option maxRecDepth 100000 in
set_option maxHeartbeats 4000000 in
theorem F_X12_owner_94_ok (X : xX p s m args c cX12_owner 7 RX12 κ) (hr : meth.sig.returnType = (some .int)) (hlk : meth.locks = false) {ro : Int32} {mo : xM} (v0 : Nat) (v2 : Int32) (v3 : Int32) (v4 : Int32) (v6 : Int32) (s0 : Int32) {W32 : Int32 × Int32 × Int32 × xM → Prop} (hW32 : ∀ (v2 : Int32) (v3 : Int32) (v4 : Int32) (M : xM), W32 (v2, v3, v4, M) → ∀ (H : Heap) (locs : List Loc) (ls : Array Slot), xO κ s M H locs → lv_has ls 7 [(0, .ref (κ.1 + v0)), (2, .int v2), (3, .int v3), (4, .int v4)] → W p l e (xRm 8 0 0) s m args below meth c H locs 0 0 (xQf below args s 0 0 κ (some (.int ro)) mo) (F0 m 32 ls [])) {W44 : Int32 × Int32 × xM → Prop} (hW44 : ∀ (v5 : Int32) (v6 : Int32) (M : xM), W44 (v5, v6, M) → ∀ (H : Heap) (locs : List Loc) (ls : Array Slot), xO κ s M H locs → lv_has ls 7 [(0, .ref (κ.1 + v0)), (2, .int v2), (3, .int v3), (4, .int v4), (5, .int v5), (6, .int v6)] → W p l e (xRm 8 0 0) s m args below meth c H locs 0 0 (xQf below args s 0 0 κ (some (.int ro)) mo) (F0 m 44 ls [])) (M : xM) (x : (Int32 × Int32 × xM) ⊕ ((Int32 × Int32 × Int32 × xM) ⊕ (Int32 × xM))) (h : F_X12_owner_94 v0 v2 v3 v4 v6 s0 M = some x) (hK : (xKl W44 (xKl W32 (fun o => o = (ro, mo)))) x) (H : Heap) (locs : List Loc) (ls : Array Slot) (O : xO κ s M H locs) (hl : lv_has ls 7 [(0, .ref (κ.1 + v0)), (2, .int v2), (3, .int v3), (4, .int v4), (6, .int v6)]) : W p l e (xRm 8 0 0) s m args below meth c H locs 0 0 (xQf below args s 0 0 κ (some (.int ro)) mo) (F0 m 94 ls [.int s0]) := by
  unfold F_X12_owner_94 at h
  have hx := X.1
  have hb := X.2.1
  refine lv_iconst (v := (0 : Int32)) hx hb dX12_owner_94 (by decide) ?_
  exact F_X12_owner_95_ok X hr hlk v0 v2 v3 v4 v6 (0 : Int32) s0 hW32 hW44 M _ h hK H locs ls O (lv_sub hl [0, 1, 2, 3, 4] rfl)
set_option maxRecDepth 100000 in
set_option maxHeartbeats 4000000 in
theorem F_X12_owner_119_ok (X : xX p s m args c cX12_owner 7 RX12 κ) (hr : meth.sig.returnType = (some .int)) (hlk : meth.locks = false) {ro : Int32} {mo : xM} (v0 : Nat) (v2 : Int32) (v3 : Int32) (v4 : Int32) {W32 : Int32 × Int32 × Int32 × xM → Prop} (hW32 : ∀ (v2 : Int32) (v3 : Int32) (v4 : Int32) (M : xM), W32 (v2, v3, v4, M) → ∀ (H : Heap) (locs : List Loc) (ls : Array Slot), xO κ s M H locs → lv_has ls 7 [(0, .ref (κ.1 + v0)), (2, .int v2), (3, .int v3), (4, .int v4)] → W p l e (xRm 8 0 0) s m args below meth c H locs 0 0 (xQf below args s 0 0 κ (some (.int ro)) mo) (F0 m 32 ls [])) (M : xM) (x : (Int32 × Int32 × Int32 × xM) ⊕ (Int32 × xM)) (h : F_X12_owner_119 v0 v2 v3 v4 M = some x) (hK : (xKl W32 (fun o => o = (ro, mo))) x) (H : Heap) (locs : List Loc) (ls : Array Slot) (O : xO κ s M H locs) (hl : lv_has ls 7 [(0, .ref (κ.1 + v0)), (2, .int v2), (3, .int v3), (4, .int v4)]) : W p l e (xRm 8 0 0) s m args below meth c H locs 0 0 (xQf below args s 0 0 κ (some (.int ro)) mo) (F0 m 119 ls []) := by
  unfold F_X12_owner_119 at h
  have hx := X.1
  have hb := X.2.1
  refine lv_iinc (v := (v4 + 1)) (lv' := [(4, .int (v4 + 1)), (0, .ref (κ.1 + v0)), (2, .int v2), (3, .int v3)]) hx hb dX12_owner_119 hl (k := 3) rfl rfl (by decide) rfl (fun ls hl => ?_)
  refine lv_goto (tgt := 32) hx hb dX12_owner_122 (by decide) ?_
  rw [← Option.some.inj h] at hK
  exact hW32 v2 v3 (v4 + 1) M hK H locs ls O (lv_sub hl [1, 2, 3, 0] rfl)
set_option maxRecDepth 100000 in
set_option maxHeartbeats 4000000 in
theorem F_X12_owner_104_ok (X : xX p s m args c cX12_owner 7 RX12 κ) (hr : meth.sig.returnType = (some .int)) (hlk : meth.locks = false) {ro : Int32} {mo : xM} (v0 : Nat) (v2 : Int32) (v3 : Int32) (v4 : Int32) (v5 : Int32) {W32 : Int32 × Int32 × Int32 × xM → Prop} (hW32 : ∀ (v2 : Int32) (v3 : Int32) (v4 : Int32) (M : xM), W32 (v2, v3, v4, M) → ∀ (H : Heap) (locs : List Loc) (ls : Array Slot), xO κ s M H locs → lv_has ls 7 [(0, .ref (κ.1 + v0)), (2, .int v2), (3, .int v3), (4, .int v4)] → W p l e (xRm 8 0 0) s m args below meth c H locs 0 0 (xQf below args s 0 0 κ (some (.int ro)) mo) (F0 m 32 ls [])) (M : xM) (x : (Int32 × Int32 × Int32 × xM) ⊕ (Int32 × xM)) (h : F_X12_owner_104 v0 v2 v3 v4 v5 M = some x) (hK : (xKl W32 (fun o => o = (ro, mo))) x) (H : Heap) (locs : List Loc) (ls : Array Slot) (O : xO κ s M H locs) (hl : lv_has ls 7 [(0, .ref (κ.1 + v0)), (2, .int v2), (3, .int v3), (4, .int v4), (5, .int v5)]) : W p l e (xRm 8 0 0) s m args below meth c H locs 0 0 (xQf below args s 0 0 κ (some (.int ro)) mo) (F0 m 104 ls []) := by
  unfold F_X12_owner_104 at h
  have hx := X.1
  have hb := X.2.1
  refine lv_iload hx hb dX12_owner_104 (lv_at hl 4 rfl) ?_
  refine lv_iload_n hx hb dX12_owner_106 rfl (lv_at hl 2 rfl) ?_
  refine lv_icmp_gt (tgt := 113) hx hb dX12_owner_107 (by decide) (fun hc107 => ?_) (fun hc107 => ?_)
  · rw [if_pos hc107] at h
    refine lv_iload hx hb dX12_owner_113 (lv_at hl 3 rfl) ?_
    refine lv_istore_n (lv' := [(2, .int v4), (0, .ref (κ.1 + v0)), (3, .int v3), (4, .int v4), (5, .int v5)]) hx hb dX12_owner_115 rfl hl (by decide) rfl (fun ls hl => ?_)
    refine lv_iload hx hb dX12_owner_116 (lv_at hl 4 rfl) ?_
    refine lv_istore_n (lv' := [(3, .int v5), (2, .int v4), (0, .ref (κ.1 + v0)), (4, .int v4), (5, .int v5)]) hx hb dX12_owner_118 rfl hl (by decide) rfl (fun ls hl => ?_)
    exact F_X12_owner_119_ok X hr hlk v0 v4 v5 v4 hW32 M _ h hK H locs ls O (lv_sub hl [2, 1, 0, 3] rfl)
  rw [if_neg hc107] at h
  refine lv_goto (tgt := 119) hx hb dX12_owner_110 (by decide) ?_
  exact F_X12_owner_119_ok X hr hlk v0 v2 v3 v4 hW32 M _ h hK H locs ls O (lv_sub hl [0, 1, 2, 3] rfl)
set_option maxRecDepth 100000 in
set_option maxHeartbeats 4000000 in
theorem F_X12_owner_44_bok (X : xX p s m args c cX12_owner 7 RX12 κ) (hr : meth.sig.returnType = (some .int)) (hlk : meth.locks = false) {ro : Int32} {mo : xM} (v0 : Nat) (v2 : Int32) (v3 : Int32) (v4 : Int32) (v5 : Int32) (v6 : Int32) {W32 : Int32 × Int32 × Int32 × xM → Prop} (hW32 : ∀ (v2 : Int32) (v3 : Int32) (v4 : Int32) (M : xM), W32 (v2, v3, v4, M) → ∀ (H : Heap) (locs : List Loc) (ls : Array Slot), xO κ s M H locs → lv_has ls 7 [(0, .ref (κ.1 + v0)), (2, .int v2), (3, .int v3), (4, .int v4)] → W p l e (xRm 8 0 0) s m args below meth c H locs 0 0 (xQf below args s 0 0 κ (some (.int ro)) mo) (F0 m 32 ls [])) {W44 : Int32 × Int32 × xM → Prop} (hW44 : ∀ (v5 : Int32) (v6 : Int32) (M : xM), W44 (v5, v6, M) → ∀ (H : Heap) (locs : List Loc) (ls : Array Slot), xO κ s M H locs → lv_has ls 7 [(0, .ref (κ.1 + v0)), (2, .int v2), (3, .int v3), (4, .int v4), (5, .int v5), (6, .int v6)] → W p l e (xRm 8 0 0) s m args below meth c H locs 0 0 (xQf below args s 0 0 κ (some (.int ro)) mo) (F0 m 44 ls [])) (M : xM) (x : (Int32 × Int32 × xM) ⊕ ((Int32 × Int32 × Int32 × xM) ⊕ (Int32 × xM))) (h : F_X12_owner_44b v0 v2 v3 v4 (v5, v6, M) = some x) (hK : (xKl W44 (xKl W32 (fun o => o = (ro, mo)))) x) (H : Heap) (locs : List Loc) (ls : Array Slot) (O : xO κ s M H locs) (hl : lv_has ls 7 [(0, .ref (κ.1 + v0)), (2, .int v2), (3, .int v3), (4, .int v4), (5, .int v5), (6, .int v6)]) : W p l e (xRm 8 0 0) s m args below meth c H locs 0 0 (xQf below args s 0 0 κ (some (.int ro)) mo) (F0 m 44 ls []) := by
  unfold F_X12_owner_44b at h
  dsimp only at h
  have hx := X.1
  have hb := X.2.1
  refine lv_iload hx hb dX12_owner_44 (lv_at hl 5 rfl) ?_
  refine lv_aload_n hx hb dX12_owner_46 rfl (lv_at hl 0 rfl) ?_
  obtain ⟨t5, ht5, h⟩ := Option.bind_eq_some_iff.mp h
  refine xr_getP X O ht5 fl_X12_13 dX12_owner_47 ?_
  refine lv_bipush (v := (92 : Int32)) hx hb dX12_owner_50 (by decide) ?_
  obtain ⟨t6, ht6, h⟩ := Option.bind_eq_some_iff.mp h
  refine xr_aldI X O ht6 dX12_owner_52 ?_
  refine lv_icmp_ge (tgt := 104) hx hb dX12_owner_53 (by decide) (fun hc53 => ?_) (fun hc53 => ?_)
  · rw [if_pos hc53] at h
    obtain ⟨_, hw0, ew0⟩ := Option.map_eq_some_iff.mp h
    rw [← ew0] at hK
    have h := hw0
    exact F_X12_owner_104_ok X hr hlk v0 v2 v3 v4 v5 hW32 M _ h hK H locs ls O (lv_sub hl [0, 1, 2, 3, 4] rfl)
  rw [if_neg hc53] at h
  refine lv_iload hx hb dX12_owner_56 (lv_at hl 4 rfl) ?_
  refine lv_aload_n hx hb dX12_owner_58 rfl (lv_at hl 0 rfl) ?_
  obtain ⟨t7, ht7, h⟩ := Option.bind_eq_some_iff.mp h
  refine xr_getI X O ht7 fl_X12_247 (Or.inl rfl) dX12_owner_59 ?_
  refine lv_i2l (v := t7.toInt64) hx hb dX12_owner_62 rfl ?_
  refine lv_iload hx hb dX12_owner_63 (lv_at hl 5 rfl) ?_
  obtain ⟨t8, ht8, h⟩ := Option.bind_eq_some_iff.mp h
  refine xr_callS (rest := [.int v5]) X O (T_X12_isIn l κ t7.toInt64 v6 M _ _ ht8) lk_X12_253 (Nat.le_of_ble_eq_true rfl) rfl hl.1 rfl (Nat.le_of_ble_eq_true rfl) dX12_owner_65 ⟨Nat.le_of_ble_eq_true rfl, Nat.le_of_ble_eq_true rfl⟩ (fun H locs O => ?_)
  refine W.eq (g2 := F0 m 68 ls [.int t8.1, .int v5]) rfl ?_
  refine lv_if_ne (tgt := 94) hx hb dX12_owner_68 (by decide) (fun hc68 => ?_) (fun hc68 => ?_)
  · rw [if_neg hc68] at h
    exact F_X12_owner_94_ok X hr hlk v0 v2 v3 v4 v6 v5 hW32 hW44 t8.2 _ h hK H locs ls O (lv_sub hl [0, 1, 2, 3, 5] rfl)
  rw [if_pos hc68] at h
  refine lv_aload_n hx hb dX12_owner_71 rfl (lv_at hl 0 rfl) ?_
  obtain ⟨t9, ht9, h⟩ := Option.bind_eq_some_iff.mp h
  refine xr_getP X O ht9 fl_X12_13 dX12_owner_72 ?_
  refine lv_bipush (v := (93 : Int32)) hx hb dX12_owner_75 (by decide) ?_
  refine lv_iconst (v := (2 : Int32)) hx hb dX12_owner_77 (by decide) ?_
  refine lv_iload hx hb dX12_owner_78 (lv_at hl 5 rfl) ?_
  refine lv_imul hx hb dX12_owner_80 ?_
  refine lv_iadd hx hb dX12_owner_81 ?_
  refine lv_iconst (v := (1 : Int32)) hx hb dX12_owner_82 (by decide) ?_
  refine lv_iadd hx hb dX12_owner_83 ?_
  obtain ⟨t10, ht10, h⟩ := Option.bind_eq_some_iff.mp h
  refine xr_aldI X O ht10 dX12_owner_84 ?_
  refine lv_iload hx hb dX12_owner_85 (lv_at hl 3 rfl) ?_
  refine lv_icmp_ne (tgt := 94) hx hb dX12_owner_87 (by decide) (fun hc87 => ?_) (fun hc87 => ?_)
  · rw [if_neg hc87] at h
    exact F_X12_owner_94_ok X hr hlk v0 v2 v3 v4 v6 v5 hW32 hW44 t8.2 _ h hK H locs ls O (lv_sub hl [0, 1, 2, 3, 5] rfl)
  rw [if_pos hc87] at h
  refine lv_iconst (v := (1 : Int32)) hx hb dX12_owner_90 (by decide) ?_
  refine lv_goto (tgt := 95) hx hb dX12_owner_91 (by decide) ?_
  exact F_X12_owner_95_ok X hr hlk v0 v2 v3 v4 v6 (1 : Int32) v5 hW32 hW44 t8.2 _ h hK H locs ls O (lv_sub hl [0, 1, 2, 3, 5] rfl)
set_option maxRecDepth 100000 in
set_option maxHeartbeats 4000000 in
theorem F_X12_owner_44_ok (X : xX p s m args c cX12_owner 7 RX12 κ) (hr : meth.sig.returnType = (some .int)) (hlk : meth.locks = false) {ro : Int32} {mo : xM} (v0 : Nat) (v2 : Int32) (v3 : Int32) (v4 : Int32) (v5 : Int32) (v6 : Int32) {W32 : Int32 × Int32 × Int32 × xM → Prop} (hW32 : ∀ (v2 : Int32) (v3 : Int32) (v4 : Int32) (M : xM), W32 (v2, v3, v4, M) → ∀ (H : Heap) (locs : List Loc) (ls : Array Slot), xO κ s M H locs → lv_has ls 7 [(0, .ref (κ.1 + v0)), (2, .int v2), (3, .int v3), (4, .int v4)] → W p l e (xRm 8 0 0) s m args below meth c H locs 0 0 (xQf below args s 0 0 κ (some (.int ro)) mo) (F0 m 32 ls [])) (M : xM) (x : (Int32 × Int32 × Int32 × xM) ⊕ (Int32 × xM)) (h : F_X12_owner_44 v0 v2 v3 v4 v5 v6 M = some x) (hK : (xKl W32 (fun o => o = (ro, mo))) x) (H : Heap) (locs : List Loc) (ls : Array Slot) (O : xO κ s M H locs) (hl : lv_has ls 7 [(0, .ref (κ.1 + v0)), (2, .int v2), (3, .int v3), (4, .int v4), (5, .int v5), (6, .int v6)]) : W p l e (xRm 8 0 0) s m args below meth c H locs 0 0 (xQf below args s 0 0 κ (some (.int ro)) mo) (F0 m 44 ls []) := by
  refine xit_K (Wh := fun x => ∀ (H : Heap) (locs : List Loc) (ls : Array Slot), xO κ s x.2.2 H locs → lv_has ls 7 [(0, .ref (κ.1 + v0)), (2, .int v2), (3, .int v3), (4, .int v4), (5, .int x.1), (6, .int x.2.1)] → W p l e (xRm 8 0 0) s m args below meth c H locs 0 0 (xQf below args s 0 0 κ (some (.int ro)) mo) (F0 m 44 ls [])) (Kp := (xKl W32 (fun o => o = (ro, mo)))) ?_ xFU (v5, v6, M) x h hK H locs ls O hl
  intro y x h hK H locs ls O hl
  exact F_X12_owner_44_bok X hr hlk v0 v2 v3 v4 y.1 y.2.1 hW32 (fun _ _ _ hw => hw) y.2.2 x h hK H locs ls O hl
set_option maxRecDepth 100000 in
set_option maxHeartbeats 4000000 in
theorem F_X12_owner_125_ok (X : xX p s m args c cX12_owner 7 RX12 κ) (hr : meth.sig.returnType = (some .int)) (hlk : meth.locks = false) {ro : Int32} {mo : xM} (v2 : Int32) (M : xM) (x : Int32 × xM) (h : F_X12_owner_125 v2 M = some x) (hK : (fun o => o = (ro, mo)) x) (H : Heap) (locs : List Loc) (ls : Array Slot) (O : xO κ s M H locs) (hl : lv_has ls 7 [(2, .int v2)]) : W p l e (xRm 8 0 0) s m args below meth c H locs 0 0 (xQf below args s 0 0 κ (some (.int ro)) mo) (F0 m 125 ls []) := by
  unfold F_X12_owner_125 at h
  have hx := X.1
  have hb := X.2.1
  refine lv_iload_n hx hb dX12_owner_125 rfl (lv_at hl 0 rfl) ?_
  rw [← Option.some.inj h] at hK
  have hK : (v2, M) = (ro, mo) := hK
  obtain ⟨hK1, hK2⟩ := Prod.mk.inj hK
  rw [hK2] at O
  refine xr_top (w := .int ro) (by rw [hK1]) ?_
  exact xr_iret X hr hlk O dX12_owner_126
set_option maxRecDepth 100000 in
set_option maxHeartbeats 4000000 in
theorem F_X12_owner_32_bok (X : xX p s m args c cX12_owner 7 RX12 κ) (hr : meth.sig.returnType = (some .int)) (hlk : meth.locks = false) {ro : Int32} {mo : xM} (v0 : Nat) (v2 : Int32) (v3 : Int32) (v4 : Int32) {W32 : Int32 × Int32 × Int32 × xM → Prop} (hW32 : ∀ (v2 : Int32) (v3 : Int32) (v4 : Int32) (M : xM), W32 (v2, v3, v4, M) → ∀ (H : Heap) (locs : List Loc) (ls : Array Slot), xO κ s M H locs → lv_has ls 7 [(0, .ref (κ.1 + v0)), (2, .int v2), (3, .int v3), (4, .int v4)] → W p l e (xRm 8 0 0) s m args below meth c H locs 0 0 (xQf below args s 0 0 κ (some (.int ro)) mo) (F0 m 32 ls [])) (M : xM) (x : (Int32 × Int32 × Int32 × xM) ⊕ (Int32 × xM)) (h : F_X12_owner_32b v0 (v2, v3, v4, M) = some x) (hK : (xKl W32 (fun o => o = (ro, mo))) x) (H : Heap) (locs : List Loc) (ls : Array Slot) (O : xO κ s M H locs) (hl : lv_has ls 7 [(0, .ref (κ.1 + v0)), (2, .int v2), (3, .int v3), (4, .int v4)]) : W p l e (xRm 8 0 0) s m args below meth c H locs 0 0 (xQf below args s 0 0 κ (some (.int ro)) mo) (F0 m 32 ls []) := by
  unfold F_X12_owner_32b at h
  dsimp only at h
  have hx := X.1
  have hb := X.2.1
  refine lv_iload hx hb dX12_owner_32 (lv_at hl 3 rfl) ?_
  refine lv_iconst (v := (5 : Int32)) hx hb dX12_owner_34 (by decide) ?_
  refine lv_icmp_ge (tgt := 125) hx hb dX12_owner_35 (by decide) (fun hc35 => ?_) (fun hc35 => ?_)
  · rw [if_pos hc35] at h
    obtain ⟨_, hw0, ew0⟩ := Option.map_eq_some_iff.mp h
    rw [← ew0] at hK
    have h := hw0
    exact F_X12_owner_125_ok X hr hlk v2 M _ h hK H locs ls O (lv_sub hl [1] rfl)
  rw [if_neg hc35] at h
  refine lv_iconst (v := (0 : Int32)) hx hb dX12_owner_38 (by decide) ?_
  refine lv_istore (lv' := [(5, .int (0 : Int32)), (0, .ref (κ.1 + v0)), (2, .int v2), (3, .int v3), (4, .int v4)]) hx hb dX12_owner_39 hl (by decide) rfl (fun ls hl => ?_)
  refine lv_iconst (v := (0 : Int32)) hx hb dX12_owner_41 (by decide) ?_
  refine lv_istore (lv' := [(6, .int (0 : Int32)), (5, .int (0 : Int32)), (0, .ref (κ.1 + v0)), (2, .int v2), (3, .int v3), (4, .int v4)]) hx hb dX12_owner_42 hl (by decide) rfl (fun ls hl => ?_)
  exact F_X12_owner_44_ok X hr hlk v0 v2 v3 v4 (0 : Int32) (0 : Int32) hW32 M _ h hK H locs ls O (lv_sub hl [2, 3, 4, 5, 1, 0] rfl)
set_option maxRecDepth 100000 in
set_option maxHeartbeats 4000000 in
theorem F_X12_owner_32_ok (X : xX p s m args c cX12_owner 7 RX12 κ) (hr : meth.sig.returnType = (some .int)) (hlk : meth.locks = false) {ro : Int32} {mo : xM} (v0 : Nat) (v2 : Int32) (v3 : Int32) (v4 : Int32) (M : xM) (x : Int32 × xM) (h : F_X12_owner_32 v0 v2 v3 v4 M = some x) (hK : (fun o => o = (ro, mo)) x) (H : Heap) (locs : List Loc) (ls : Array Slot) (O : xO κ s M H locs) (hl : lv_has ls 7 [(0, .ref (κ.1 + v0)), (2, .int v2), (3, .int v3), (4, .int v4)]) : W p l e (xRm 8 0 0) s m args below meth c H locs 0 0 (xQf below args s 0 0 κ (some (.int ro)) mo) (F0 m 32 ls []) := by
  refine xit_K (Wh := fun x => ∀ (H : Heap) (locs : List Loc) (ls : Array Slot), xO κ s x.2.2.2 H locs → lv_has ls 7 [(0, .ref (κ.1 + v0)), (2, .int x.1), (3, .int x.2.1), (4, .int x.2.2.1)] → W p l e (xRm 8 0 0) s m args below meth c H locs 0 0 (xQf below args s 0 0 κ (some (.int ro)) mo) (F0 m 32 ls [])) (Kp := (fun o => o = (ro, mo))) ?_ xFU (v2, v3, v4, M) x h hK H locs ls O hl
  intro y x h hK H locs ls O hl
  exact F_X12_owner_32_bok X hr hlk v0 y.1 y.2.1 y.2.2.1 (fun _ _ _ _ hw => hw) y.2.2.2 x h hK H locs ls O hl
set_option maxRecDepth 100000 in
set_option maxHeartbeats 4000000 in
theorem T_X12_owner (l : Launch) (κ : xQ) (a0 : Nat) (a1 : Int32) (M : xM) (ro : Int32) (mo : xM) (h : F_X12_owner a0 a1 M = some (ro, mo)) : xC l yX12_owner cX12_owner 7 (some .int) 8 0 0 κ [.ref (κ.1 + a0), .int a1] M (some (.int ro)) mo := by
  refine xC_of rfl (Nat.le_of_ble_eq_true rfl) fun p e s m args below meth c X hr hlk hnm H locs ls O hl => ?_
  have X : xX p s m args c cX12_owner 7 RX12 κ := X
  have hl : lv_has ls 7 [(0, .ref (κ.1 + a0)), (1, .int a1)] := hl
  have hx := X.1
  have hb := X.2.1
  obtain ⟨x, hx0⟩ : ∃ x, (ro, mo) = x := ⟨_, rfl⟩
  rw [hx0] at h
  have hK : x = (ro, mo) := hx0.symm
  unfold F_X12_owner at h
  refine lv_aload_n hx hb dX12_owner_0 rfl (lv_at hl 0 rfl) ?_
  refine lv_iconst (v := (0 : Int32)) hx hb dX12_owner_1 (by decide) ?_
  obtain ⟨t1, ht1, h⟩ := Option.bind_eq_some_iff.mp h
  refine xr_putI X O ht1 fl_X12_1 dX12_owner_2 (fun H locs O => ?_)
  refine lv_iload_n hx hb dX12_owner_5 rfl (lv_at hl 1 rfl) ?_
  refine lv_i2l (v := a1.toInt64) hx hb dX12_owner_6 rfl ?_
  refine lv_lconst (v := (0 : Int64)) hx hb dX12_owner_7 (by decide) ?_
  refine lv_ldc2 (v := (60 : Int64)) hx hb X.2.2.2.1 (X.2.2.2.2.1 _ ct_X12_377) dX12_owner_8 ?_
  obtain ⟨t2, ht2, h⟩ := Option.bind_eq_some_iff.mp h
  refine xr_callS (rest := []) X O (T_X12_within l κ a1.toInt64 (0 : Int64) (60 : Int64) t1 _ _ ht2) lk_X12_145 (Nat.le_of_ble_eq_true rfl) rfl hl.1 rfl (Nat.le_of_ble_eq_true rfl) dX12_owner_11 ⟨Nat.le_of_ble_eq_true rfl, Nat.le_of_ble_eq_true rfl⟩ (fun H locs O => ?_)
  refine W.eq (g2 := F0 m 14 ls [.int t2.1]) rfl ?_
  refine lv_if_ne (tgt := 20) hx hb dX12_owner_14 (by decide) (fun hc14 => ?_) (fun hc14 => ?_)
  · rw [if_neg hc14] at h
    refine lv_aload_n hx hb dX12_owner_20 rfl (lv_at hl 0 rfl) ?_
    refine lv_iload_n hx hb dX12_owner_21 rfl (lv_at hl 1 rfl) ?_
    obtain ⟨_, hut3, h⟩ := Option.bind_eq_some_iff.mp h
    obtain ⟨t4, ht4, h⟩ := Option.bind_eq_some_iff.mp h
    refine xr_callV (rest := []) X O (T_X12_goesOnFor l κ a0 a1 t2.2 _ ht4) lk_X12_287 hut3 (Nat.le_of_ble_eq_true rfl) rfl hl.1 rfl (Nat.le_of_ble_eq_true rfl) dX12_owner_22 ⟨Nat.le_of_ble_eq_true rfl, Nat.le_of_ble_eq_true rfl⟩ (fun H locs O => ?_)
    refine W.eq (g2 := F0 m 25 ls []) rfl ?_
    refine lv_iconst (v := (-1 : Int32)) hx hb dX12_owner_25 (by decide) ?_
    refine lv_istore_n (lv' := [(2, .int (-1 : Int32)), (0, .ref (κ.1 + a0)), (1, .int a1)]) hx hb dX12_owner_26 rfl hl (by decide) rfl (fun ls hl => ?_)
    refine lv_iconst (v := (0 : Int32)) hx hb dX12_owner_27 (by decide) ?_
    refine lv_istore_n (lv' := [(3, .int (0 : Int32)), (2, .int (-1 : Int32)), (0, .ref (κ.1 + a0)), (1, .int a1)]) hx hb dX12_owner_28 rfl hl (by decide) rfl (fun ls hl => ?_)
    refine lv_iconst (v := (0 : Int32)) hx hb dX12_owner_29 (by decide) ?_
    refine lv_istore (lv' := [(4, .int (0 : Int32)), (3, .int (0 : Int32)), (2, .int (-1 : Int32)), (0, .ref (κ.1 + a0)), (1, .int a1)]) hx hb dX12_owner_30 hl (by decide) rfl (fun ls hl => ?_)
    exact F_X12_owner_32_ok X hr hlk a0 (-1 : Int32) (0 : Int32) (0 : Int32) t4 _ h hK H locs ls O (lv_sub hl [3, 2, 1, 0] rfl)
  rw [if_pos hc14] at h
  refine lv_bipush (v := (-3 : Int32)) hx hb dX12_owner_17 (by decide) ?_
  rw [← Option.some.inj h] at hK
  have hK : ((-3 : Int32), t2.2) = (ro, mo) := hK
  obtain ⟨hK1, hK2⟩ := Prod.mk.inj hK
  rw [hK2] at O
  refine xr_top (w := .int ro) (by rw [hK1]) ?_
  exact xr_iret X hr hlk O dX12_owner_19
def F_X12_laysRoom_145 (v0 : Nat) (v1 : Int32) (v2 : Int32) (v3 : Int32) (M : xM) : Option ((Int32 × xM) ⊕ ((Int32 × xM) ⊕ (xM))) :=
some (.inl ((v3 + 1), M))
def F_X12_laysRoom_151 (v0 : Nat) (v1 : Int32) (v2 : Int32) (M : xM) : Option ((Int32 × xM) ⊕ (xM)) :=
some (.inl ((v2 + 1), M))
def F_X12_laysRoom_103b (v0 : Nat) (v1 : Int32) (v2 : Int32) : (Int32 × xM) → Option ((Int32 × xM) ⊕ ((Int32 × xM) ⊕ (xM))) := fun ⟨v3, M⟩ =>
(xck M v0 12).bind fun _ =>
(F_X12_isCell v0 v3.toInt64 M).bind fun t16 =>
if t16.1 = 0 then (
(F_X12_laysRoom_151 v0 v1 v2 t16.2).map Sum.inr)
else (
(xck t16.2 v0 12).bind fun _ =>
(F_X12_besides v0 v2 t16.2).bind fun t18 =>
(F_X12_isIn t18.1.toInt64 v3 t18.2).bind fun t19 =>
if t19.1 = 0 then (
F_X12_laysRoom_145 v0 v1 v2 v3 t19.2)
else (
(xgP t19.2 v0 12 25).bind fun t20 =>
(xsI t19.2 t20 (((51 : Int32) * (((2 : Int32) * v2) + (1 : Int32))) + ((2 : Int32) * v3)) (268435456 : Int32)).bind fun t21 =>
F_X12_laysRoom_145 v0 v1 v2 v3 t21))
def F_X12_laysRoom_103 (v0 : Nat) (v1 : Int32) (v2 : Int32) (v3 : Int32) (M : xM) : Option ((Int32 × xM) ⊕ (xM)) := xit (F_X12_laysRoom_103b v0 v1 v2) xFU (v3, M)
def F_X12_laysRoom_101 (v0 : Nat) (v1 : Int32) (v2 : Int32) (M : xM) : Option ((Int32 × xM) ⊕ (xM)) :=
F_X12_laysRoom_103 v0 v1 v2 (0 : Int32) M
def F_X12_laysRoom_75 (v0 : Nat) (v1 : Int32) (v2 : Int32) (s0 : Int32) (s1 : Int32) (s2 : Nat) (M : xM) : Option ((Int32 × xM) ⊕ (xM)) :=
(xsI M s2 s1 s0).bind fun t10 =>
(xgP t10 v0 12 1).bind fun t11 =>
(xaI t10 20 t11 (2 : Int32)).bind fun t12 =>
if t12 ≤ v2 then (
F_X12_laysRoom_101 v0 v1 v2 t10)
else (
(xgP t10 v0 12 25).bind fun t13 =>
(xsI t10 t13 ((2550 : Int32) + ((2 : Int32) * v2)) (268435456 : Int32)).bind fun t14 =>
F_X12_laysRoom_101 v0 v1 v2 t14)
def F_X12_laysRoom_157 (M : xM) : Option (xM) :=
some M
def F_X12_laysRoom_24b (v0 : Nat) (v1 : Int32) : (Int32 × xM) → Option ((Int32 × xM) ⊕ (xM)) := fun ⟨v2, M⟩ =>
(xck M v0 12).bind fun _ =>
(F_X12_isCell v0 v2.toInt64 M).bind fun t4 =>
if t4.1 = 0 then (
(F_X12_laysRoom_157 t4.2).map Sum.inr)
else (
(xgP t4.2 v0 12 25).bind fun t5 =>
(xgP t4.2 v0 12 1).bind fun t6 =>
(xaI t4.2 20 t6 ((67 : Int32) + v2)).bind fun t7 =>
if v1 ≤ t7 then (
F_X12_laysRoom_75 v0 v1 v2 (0 : Int32) ((((102 : Int32) * v2) + ((2 : Int32) * v2)) + (1 : Int32)) t5 t4.2)
else (
(xgP t4.2 v0 12 1).bind fun t8 =>
(xaI t4.2 20 t8 ((67 : Int32) + v2)).bind fun t9 =>
F_X12_laysRoom_75 v0 v1 v2 (v1 - t9) ((((102 : Int32) * v2) + ((2 : Int32) * v2)) + (1 : Int32)) t5 t4.2))
def F_X12_laysRoom_24 (v0 : Nat) (v1 : Int32) (v2 : Int32) (M : xM) : Option (xM) := xit (F_X12_laysRoom_24b v0 v1) xFU (v2, M)
def F_X12_laysRoom_22 (v0 : Nat) (v1 : Int32) (M : xM) : Option (xM) :=
F_X12_laysRoom_24 v0 v1 (0 : Int32) M
def F_X12_laysRoom_2b (v0 : Nat) (v1 : Int32) : (Int32 × xM) → Option ((Int32 × xM) ⊕ (xM)) := fun ⟨v2, M⟩ =>
if (2601 : Int32) ≤ v2 then (
(F_X12_laysRoom_22 v0 v1 M).map Sum.inr)
else (
(xgP M v0 12 25).bind fun t1 =>
(xsI M t1 v2 (0 : Int32)).bind fun t2 =>
some (.inl ((v2 + 1), t2)))
def F_X12_laysRoom_2 (v0 : Nat) (v1 : Int32) (v2 : Int32) (M : xM) : Option (xM) := xit (F_X12_laysRoom_2b v0 v1) xFU (v2, M)
def F_X12_laysRoom (a0 : Nat) (a1 : Int32) (M : xM) : Option (xM) :=
F_X12_laysRoom_2 a0 a1 (0 : Int32) M
set_option maxRecDepth 100000 in
set_option maxHeartbeats 4000000 in
theorem F_X12_laysRoom_145_ok (X : xX p s m args c cX12_laysRoom 4 RX12 κ) (hr : meth.sig.returnType = none) (hlk : meth.locks = false) {mo : xM} (v0 : Nat) (v1 : Int32) (v2 : Int32) (v3 : Int32) {W24 : Int32 × xM → Prop} (hW24 : ∀ (v2 : Int32) (M : xM), W24 (v2, M) → ∀ (H : Heap) (locs : List Loc) (ls : Array Slot), xO κ s M H locs → lv_has ls 4 [(0, .ref (κ.1 + v0)), (1, .int v1), (2, .int v2)] → W p l e (xRm 5 0 0) s m args below meth c H locs 0 0 (xQf below args s 0 0 κ none mo) (F0 m 24 ls [])) {W103 : Int32 × xM → Prop} (hW103 : ∀ (v3 : Int32) (M : xM), W103 (v3, M) → ∀ (H : Heap) (locs : List Loc) (ls : Array Slot), xO κ s M H locs → lv_has ls 4 [(0, .ref (κ.1 + v0)), (1, .int v1), (2, .int v2), (3, .int v3)] → W p l e (xRm 5 0 0) s m args below meth c H locs 0 0 (xQf below args s 0 0 κ none mo) (F0 m 103 ls [])) (M : xM) (x : (Int32 × xM) ⊕ ((Int32 × xM) ⊕ (xM))) (h : F_X12_laysRoom_145 v0 v1 v2 v3 M = some x) (hK : (xKl W103 (xKl W24 (fun o => o = mo))) x) (H : Heap) (locs : List Loc) (ls : Array Slot) (O : xO κ s M H locs) (hl : lv_has ls 4 [(0, .ref (κ.1 + v0)), (1, .int v1), (2, .int v2), (3, .int v3)]) : W p l e (xRm 5 0 0) s m args below meth c H locs 0 0 (xQf below args s 0 0 κ none mo) (F0 m 145 ls []) := by
  unfold F_X12_laysRoom_145 at h
  have hx := X.1
  have hb := X.2.1
  refine lv_iinc (v := (v3 + 1)) (lv' := [(3, .int (v3 + 1)), (0, .ref (κ.1 + v0)), (1, .int v1), (2, .int v2)]) hx hb dX12_laysRoom_145 hl (k := 3) rfl rfl (by decide) rfl (fun ls hl => ?_)
  refine lv_goto (tgt := 103) hx hb dX12_laysRoom_148 (by decide) ?_
  rw [← Option.some.inj h] at hK
  exact hW103 (v3 + 1) M hK H locs ls O (lv_sub hl [1, 2, 3, 0] rfl)
set_option maxRecDepth 100000 in
set_option maxHeartbeats 4000000 in
theorem F_X12_laysRoom_151_ok (X : xX p s m args c cX12_laysRoom 4 RX12 κ) (hr : meth.sig.returnType = none) (hlk : meth.locks = false) {mo : xM} (v0 : Nat) (v1 : Int32) (v2 : Int32) {W24 : Int32 × xM → Prop} (hW24 : ∀ (v2 : Int32) (M : xM), W24 (v2, M) → ∀ (H : Heap) (locs : List Loc) (ls : Array Slot), xO κ s M H locs → lv_has ls 4 [(0, .ref (κ.1 + v0)), (1, .int v1), (2, .int v2)] → W p l e (xRm 5 0 0) s m args below meth c H locs 0 0 (xQf below args s 0 0 κ none mo) (F0 m 24 ls [])) (M : xM) (x : (Int32 × xM) ⊕ (xM)) (h : F_X12_laysRoom_151 v0 v1 v2 M = some x) (hK : (xKl W24 (fun o => o = mo)) x) (H : Heap) (locs : List Loc) (ls : Array Slot) (O : xO κ s M H locs) (hl : lv_has ls 4 [(0, .ref (κ.1 + v0)), (1, .int v1), (2, .int v2)]) : W p l e (xRm 5 0 0) s m args below meth c H locs 0 0 (xQf below args s 0 0 κ none mo) (F0 m 151 ls []) := by
  unfold F_X12_laysRoom_151 at h
  have hx := X.1
  have hb := X.2.1
  refine lv_iinc (v := (v2 + 1)) (lv' := [(2, .int (v2 + 1)), (0, .ref (κ.1 + v0)), (1, .int v1)]) hx hb dX12_laysRoom_151 hl (k := 2) rfl rfl (by decide) rfl (fun ls hl => ?_)
  refine lv_goto (tgt := 24) hx hb dX12_laysRoom_154 (by decide) ?_
  rw [← Option.some.inj h] at hK
  exact hW24 (v2 + 1) M hK H locs ls O (lv_sub hl [1, 2, 0] rfl)
set_option maxRecDepth 100000 in
set_option maxHeartbeats 4000000 in
theorem F_X12_laysRoom_103_bok (X : xX p s m args c cX12_laysRoom 4 RX12 κ) (hr : meth.sig.returnType = none) (hlk : meth.locks = false) {mo : xM} (v0 : Nat) (v1 : Int32) (v2 : Int32) (v3 : Int32) {W24 : Int32 × xM → Prop} (hW24 : ∀ (v2 : Int32) (M : xM), W24 (v2, M) → ∀ (H : Heap) (locs : List Loc) (ls : Array Slot), xO κ s M H locs → lv_has ls 4 [(0, .ref (κ.1 + v0)), (1, .int v1), (2, .int v2)] → W p l e (xRm 5 0 0) s m args below meth c H locs 0 0 (xQf below args s 0 0 κ none mo) (F0 m 24 ls [])) {W103 : Int32 × xM → Prop} (hW103 : ∀ (v3 : Int32) (M : xM), W103 (v3, M) → ∀ (H : Heap) (locs : List Loc) (ls : Array Slot), xO κ s M H locs → lv_has ls 4 [(0, .ref (κ.1 + v0)), (1, .int v1), (2, .int v2), (3, .int v3)] → W p l e (xRm 5 0 0) s m args below meth c H locs 0 0 (xQf below args s 0 0 κ none mo) (F0 m 103 ls [])) (M : xM) (x : (Int32 × xM) ⊕ ((Int32 × xM) ⊕ (xM))) (h : F_X12_laysRoom_103b v0 v1 v2 (v3, M) = some x) (hK : (xKl W103 (xKl W24 (fun o => o = mo))) x) (H : Heap) (locs : List Loc) (ls : Array Slot) (O : xO κ s M H locs) (hl : lv_has ls 4 [(0, .ref (κ.1 + v0)), (1, .int v1), (2, .int v2), (3, .int v3)]) : W p l e (xRm 5 0 0) s m args below meth c H locs 0 0 (xQf below args s 0 0 κ none mo) (F0 m 103 ls []) := by
  unfold F_X12_laysRoom_103b at h
  dsimp only at h
  have hx := X.1
  have hb := X.2.1
  refine lv_aload_n hx hb dX12_laysRoom_103 rfl (lv_at hl 0 rfl) ?_
  refine lv_iload_n hx hb dX12_laysRoom_104 rfl (lv_at hl 3 rfl) ?_
  refine lv_i2l (v := v3.toInt64) hx hb dX12_laysRoom_105 rfl ?_
  obtain ⟨_, hut15, h⟩ := Option.bind_eq_some_iff.mp h
  obtain ⟨t16, ht16, h⟩ := Option.bind_eq_some_iff.mp h
  refine xr_callV (rest := []) X O (T_X12_isCell l κ v0 v3.toInt64 M _ _ ht16) lk_X12_230 hut15 (Nat.le_of_ble_eq_true rfl) rfl hl.1 rfl (Nat.le_of_ble_eq_true rfl) dX12_laysRoom_106 ⟨Nat.le_of_ble_eq_true rfl, Nat.le_of_ble_eq_true rfl⟩ (fun H locs O => ?_)
  refine W.eq (g2 := F0 m 109 ls [.int t16.1]) rfl ?_
  refine lv_if_eq (tgt := 151) hx hb dX12_laysRoom_109 (by decide) (fun hc109 => ?_) (fun hc109 => ?_)
  · rw [if_pos hc109] at h
    obtain ⟨_, hw0, ew0⟩ := Option.map_eq_some_iff.mp h
    rw [← ew0] at hK
    have h := hw0
    exact F_X12_laysRoom_151_ok X hr hlk v0 v1 v2 hW24 t16.2 _ h hK H locs ls O (lv_sub hl [0, 1, 2] rfl)
  rw [if_neg hc109] at h
  refine lv_aload_n hx hb dX12_laysRoom_112 rfl (lv_at hl 0 rfl) ?_
  refine lv_iload_n hx hb dX12_laysRoom_113 rfl (lv_at hl 2 rfl) ?_
  obtain ⟨_, hut17, h⟩ := Option.bind_eq_some_iff.mp h
  obtain ⟨t18, ht18, h⟩ := Option.bind_eq_some_iff.mp h
  refine xr_callV (rest := []) X O (T_X12_besides l κ v0 v2 t16.2 _ _ ht18) lk_X12_257 hut17 (Nat.le_of_ble_eq_true rfl) rfl hl.1 rfl (Nat.le_of_ble_eq_true rfl) dX12_laysRoom_114 ⟨Nat.le_of_ble_eq_true rfl, Nat.le_of_ble_eq_true rfl⟩ (fun H locs O => ?_)
  refine W.eq (g2 := F0 m 117 ls [.int t18.1]) rfl ?_
  refine lv_i2l (v := t18.1.toInt64) hx hb dX12_laysRoom_117 rfl ?_
  refine lv_iload_n hx hb dX12_laysRoom_118 rfl (lv_at hl 3 rfl) ?_
  obtain ⟨t19, ht19, h⟩ := Option.bind_eq_some_iff.mp h
  refine xr_callS (rest := []) X O (T_X12_isIn l κ t18.1.toInt64 v3 t18.2 _ _ ht19) lk_X12_253 (Nat.le_of_ble_eq_true rfl) rfl hl.1 rfl (Nat.le_of_ble_eq_true rfl) dX12_laysRoom_119 ⟨Nat.le_of_ble_eq_true rfl, Nat.le_of_ble_eq_true rfl⟩ (fun H locs O => ?_)
  refine W.eq (g2 := F0 m 122 ls [.int t19.1]) rfl ?_
  refine lv_if_eq (tgt := 145) hx hb dX12_laysRoom_122 (by decide) (fun hc122 => ?_) (fun hc122 => ?_)
  · rw [if_pos hc122] at h
    exact F_X12_laysRoom_145_ok X hr hlk v0 v1 v2 v3 hW24 hW103 t19.2 _ h hK H locs ls O (lv_sub hl [0, 1, 2, 3] rfl)
  rw [if_neg hc122] at h
  refine lv_aload_n hx hb dX12_laysRoom_125 rfl (lv_at hl 0 rfl) ?_
  obtain ⟨t20, ht20, h⟩ := Option.bind_eq_some_iff.mp h
  refine xr_getP X O ht20 fl_X12_45 dX12_laysRoom_126 ?_
  refine lv_bipush (v := (51 : Int32)) hx hb dX12_laysRoom_129 (by decide) ?_
  refine lv_iconst (v := (2 : Int32)) hx hb dX12_laysRoom_131 (by decide) ?_
  refine lv_iload_n hx hb dX12_laysRoom_132 rfl (lv_at hl 2 rfl) ?_
  refine lv_imul hx hb dX12_laysRoom_133 ?_
  refine lv_iconst (v := (1 : Int32)) hx hb dX12_laysRoom_134 (by decide) ?_
  refine lv_iadd hx hb dX12_laysRoom_135 ?_
  refine lv_imul hx hb dX12_laysRoom_136 ?_
  refine lv_iconst (v := (2 : Int32)) hx hb dX12_laysRoom_137 (by decide) ?_
  refine lv_iload_n hx hb dX12_laysRoom_138 rfl (lv_at hl 3 rfl) ?_
  refine lv_imul hx hb dX12_laysRoom_139 ?_
  refine lv_iadd hx hb dX12_laysRoom_140 ?_
  refine lv_ldcw (v := (268435456 : Int32)) hx hb X.2.2.2.1 (X.2.2.2.2.1 _ ct_X12_385) dX12_laysRoom_141 ?_
  obtain ⟨t21, ht21, h⟩ := Option.bind_eq_some_iff.mp h
  refine xr_stI X O ht21 dX12_laysRoom_144 (fun H locs O => ?_)
  exact F_X12_laysRoom_145_ok X hr hlk v0 v1 v2 v3 hW24 hW103 t21 _ h hK H locs ls O (lv_sub hl [0, 1, 2, 3] rfl)
set_option maxRecDepth 100000 in
set_option maxHeartbeats 4000000 in
theorem F_X12_laysRoom_103_ok (X : xX p s m args c cX12_laysRoom 4 RX12 κ) (hr : meth.sig.returnType = none) (hlk : meth.locks = false) {mo : xM} (v0 : Nat) (v1 : Int32) (v2 : Int32) (v3 : Int32) {W24 : Int32 × xM → Prop} (hW24 : ∀ (v2 : Int32) (M : xM), W24 (v2, M) → ∀ (H : Heap) (locs : List Loc) (ls : Array Slot), xO κ s M H locs → lv_has ls 4 [(0, .ref (κ.1 + v0)), (1, .int v1), (2, .int v2)] → W p l e (xRm 5 0 0) s m args below meth c H locs 0 0 (xQf below args s 0 0 κ none mo) (F0 m 24 ls [])) (M : xM) (x : (Int32 × xM) ⊕ (xM)) (h : F_X12_laysRoom_103 v0 v1 v2 v3 M = some x) (hK : (xKl W24 (fun o => o = mo)) x) (H : Heap) (locs : List Loc) (ls : Array Slot) (O : xO κ s M H locs) (hl : lv_has ls 4 [(0, .ref (κ.1 + v0)), (1, .int v1), (2, .int v2), (3, .int v3)]) : W p l e (xRm 5 0 0) s m args below meth c H locs 0 0 (xQf below args s 0 0 κ none mo) (F0 m 103 ls []) := by
  refine xit_K (Wh := fun x => ∀ (H : Heap) (locs : List Loc) (ls : Array Slot), xO κ s x.2 H locs → lv_has ls 4 [(0, .ref (κ.1 + v0)), (1, .int v1), (2, .int v2), (3, .int x.1)] → W p l e (xRm 5 0 0) s m args below meth c H locs 0 0 (xQf below args s 0 0 κ none mo) (F0 m 103 ls [])) (Kp := (xKl W24 (fun o => o = mo))) ?_ xFU (v3, M) x h hK H locs ls O hl
  intro y x h hK H locs ls O hl
  exact F_X12_laysRoom_103_bok X hr hlk v0 v1 v2 y.1 hW24 (fun _ _ hw => hw) y.2 x h hK H locs ls O hl
set_option maxRecDepth 100000 in
set_option maxHeartbeats 4000000 in
theorem F_X12_laysRoom_101_ok (X : xX p s m args c cX12_laysRoom 4 RX12 κ) (hr : meth.sig.returnType = none) (hlk : meth.locks = false) {mo : xM} (v0 : Nat) (v1 : Int32) (v2 : Int32) {W24 : Int32 × xM → Prop} (hW24 : ∀ (v2 : Int32) (M : xM), W24 (v2, M) → ∀ (H : Heap) (locs : List Loc) (ls : Array Slot), xO κ s M H locs → lv_has ls 4 [(0, .ref (κ.1 + v0)), (1, .int v1), (2, .int v2)] → W p l e (xRm 5 0 0) s m args below meth c H locs 0 0 (xQf below args s 0 0 κ none mo) (F0 m 24 ls [])) (M : xM) (x : (Int32 × xM) ⊕ (xM)) (h : F_X12_laysRoom_101 v0 v1 v2 M = some x) (hK : (xKl W24 (fun o => o = mo)) x) (H : Heap) (locs : List Loc) (ls : Array Slot) (O : xO κ s M H locs) (hl : lv_has ls 4 [(0, .ref (κ.1 + v0)), (1, .int v1), (2, .int v2)]) : W p l e (xRm 5 0 0) s m args below meth c H locs 0 0 (xQf below args s 0 0 κ none mo) (F0 m 101 ls []) := by
  unfold F_X12_laysRoom_101 at h
  have hx := X.1
  have hb := X.2.1
  refine lv_iconst (v := (0 : Int32)) hx hb dX12_laysRoom_101 (by decide) ?_
  refine lv_istore_n (lv' := [(3, .int (0 : Int32)), (0, .ref (κ.1 + v0)), (1, .int v1), (2, .int v2)]) hx hb dX12_laysRoom_102 rfl hl (by decide) rfl (fun ls hl => ?_)
  exact F_X12_laysRoom_103_ok X hr hlk v0 v1 v2 (0 : Int32) hW24 M _ h hK H locs ls O (lv_sub hl [1, 2, 3, 0] rfl)
set_option maxRecDepth 100000 in
set_option maxHeartbeats 4000000 in
theorem F_X12_laysRoom_75_ok (X : xX p s m args c cX12_laysRoom 4 RX12 κ) (hr : meth.sig.returnType = none) (hlk : meth.locks = false) {mo : xM} (v0 : Nat) (v1 : Int32) (v2 : Int32) (s0 : Int32) (s1 : Int32) (s2 : Nat) {W24 : Int32 × xM → Prop} (hW24 : ∀ (v2 : Int32) (M : xM), W24 (v2, M) → ∀ (H : Heap) (locs : List Loc) (ls : Array Slot), xO κ s M H locs → lv_has ls 4 [(0, .ref (κ.1 + v0)), (1, .int v1), (2, .int v2)] → W p l e (xRm 5 0 0) s m args below meth c H locs 0 0 (xQf below args s 0 0 κ none mo) (F0 m 24 ls [])) (M : xM) (x : (Int32 × xM) ⊕ (xM)) (h : F_X12_laysRoom_75 v0 v1 v2 s0 s1 s2 M = some x) (hK : (xKl W24 (fun o => o = mo)) x) (H : Heap) (locs : List Loc) (ls : Array Slot) (O : xO κ s M H locs) (hl : lv_has ls 4 [(0, .ref (κ.1 + v0)), (1, .int v1), (2, .int v2)]) : W p l e (xRm 5 0 0) s m args below meth c H locs 0 0 (xQf below args s 0 0 κ none mo) (F0 m 75 ls [.int s0, .int s1, .ref (κ.1 + s2)]) := by
  unfold F_X12_laysRoom_75 at h
  have hx := X.1
  have hb := X.2.1
  obtain ⟨t10, ht10, h⟩ := Option.bind_eq_some_iff.mp h
  refine xr_stI X O ht10 dX12_laysRoom_75 (fun H locs O => ?_)
  refine lv_iload_n hx hb dX12_laysRoom_76 rfl (lv_at hl 2 rfl) ?_
  refine lv_aload_n hx hb dX12_laysRoom_77 rfl (lv_at hl 0 rfl) ?_
  obtain ⟨t11, ht11, h⟩ := Option.bind_eq_some_iff.mp h
  refine xr_getP X O ht11 fl_X12_13 dX12_laysRoom_78 ?_
  refine lv_iconst (v := (2 : Int32)) hx hb dX12_laysRoom_81 (by decide) ?_
  obtain ⟨t12, ht12, h⟩ := Option.bind_eq_some_iff.mp h
  refine xr_aldI X O ht12 dX12_laysRoom_82 ?_
  refine lv_icmp_ge (tgt := 101) hx hb dX12_laysRoom_83 (by decide) (fun hc83 => ?_) (fun hc83 => ?_)
  · rw [if_pos hc83] at h
    exact F_X12_laysRoom_101_ok X hr hlk v0 v1 v2 hW24 t10 _ h hK H locs ls O (lv_sub hl [0, 1, 2] rfl)
  rw [if_neg hc83] at h
  refine lv_aload_n hx hb dX12_laysRoom_86 rfl (lv_at hl 0 rfl) ?_
  obtain ⟨t13, ht13, h⟩ := Option.bind_eq_some_iff.mp h
  refine xr_getP X O ht13 fl_X12_45 dX12_laysRoom_87 ?_
  refine lv_sipush (v := (2550 : Int32)) hx hb dX12_laysRoom_90 (by decide) ?_
  refine lv_iconst (v := (2 : Int32)) hx hb dX12_laysRoom_93 (by decide) ?_
  refine lv_iload_n hx hb dX12_laysRoom_94 rfl (lv_at hl 2 rfl) ?_
  refine lv_imul hx hb dX12_laysRoom_95 ?_
  refine lv_iadd hx hb dX12_laysRoom_96 ?_
  refine lv_ldcw (v := (268435456 : Int32)) hx hb X.2.2.2.1 (X.2.2.2.2.1 _ ct_X12_385) dX12_laysRoom_97 ?_
  obtain ⟨t14, ht14, h⟩ := Option.bind_eq_some_iff.mp h
  refine xr_stI X O ht14 dX12_laysRoom_100 (fun H locs O => ?_)
  exact F_X12_laysRoom_101_ok X hr hlk v0 v1 v2 hW24 t14 _ h hK H locs ls O (lv_sub hl [0, 1, 2] rfl)
set_option maxRecDepth 100000 in
set_option maxHeartbeats 4000000 in
theorem F_X12_laysRoom_157_ok (X : xX p s m args c cX12_laysRoom 4 RX12 κ) (hr : meth.sig.returnType = none) (hlk : meth.locks = false) {mo : xM} (M : xM) (x : xM) (h : F_X12_laysRoom_157 M = some x) (hK : (fun o => o = mo) x) (H : Heap) (locs : List Loc) (ls : Array Slot) (O : xO κ s M H locs) (hl : lv_has ls 4 []) : W p l e (xRm 5 0 0) s m args below meth c H locs 0 0 (xQf below args s 0 0 κ none mo) (F0 m 157 ls []) := by
  unfold F_X12_laysRoom_157 at h
  have hx := X.1
  have hb := X.2.1
  rw [← Option.some.inj h] at hK
  have hK : M = mo := hK
  rw [hK] at O
  exact xr_vret X hr hlk O dX12_laysRoom_157
set_option maxRecDepth 100000 in
set_option maxHeartbeats 4000000 in
theorem F_X12_laysRoom_24_bok (X : xX p s m args c cX12_laysRoom 4 RX12 κ) (hr : meth.sig.returnType = none) (hlk : meth.locks = false) {mo : xM} (v0 : Nat) (v1 : Int32) (v2 : Int32) {W24 : Int32 × xM → Prop} (hW24 : ∀ (v2 : Int32) (M : xM), W24 (v2, M) → ∀ (H : Heap) (locs : List Loc) (ls : Array Slot), xO κ s M H locs → lv_has ls 4 [(0, .ref (κ.1 + v0)), (1, .int v1), (2, .int v2)] → W p l e (xRm 5 0 0) s m args below meth c H locs 0 0 (xQf below args s 0 0 κ none mo) (F0 m 24 ls [])) (M : xM) (x : (Int32 × xM) ⊕ (xM)) (h : F_X12_laysRoom_24b v0 v1 (v2, M) = some x) (hK : (xKl W24 (fun o => o = mo)) x) (H : Heap) (locs : List Loc) (ls : Array Slot) (O : xO κ s M H locs) (hl : lv_has ls 4 [(0, .ref (κ.1 + v0)), (1, .int v1), (2, .int v2)]) : W p l e (xRm 5 0 0) s m args below meth c H locs 0 0 (xQf below args s 0 0 κ none mo) (F0 m 24 ls []) := by
  unfold F_X12_laysRoom_24b at h
  dsimp only at h
  have hx := X.1
  have hb := X.2.1
  refine lv_aload_n hx hb dX12_laysRoom_24 rfl (lv_at hl 0 rfl) ?_
  refine lv_iload_n hx hb dX12_laysRoom_25 rfl (lv_at hl 2 rfl) ?_
  refine lv_i2l (v := v2.toInt64) hx hb dX12_laysRoom_26 rfl ?_
  obtain ⟨_, hut3, h⟩ := Option.bind_eq_some_iff.mp h
  obtain ⟨t4, ht4, h⟩ := Option.bind_eq_some_iff.mp h
  refine xr_callV (rest := []) X O (T_X12_isCell l κ v0 v2.toInt64 M _ _ ht4) lk_X12_230 hut3 (Nat.le_of_ble_eq_true rfl) rfl hl.1 rfl (Nat.le_of_ble_eq_true rfl) dX12_laysRoom_27 ⟨Nat.le_of_ble_eq_true rfl, Nat.le_of_ble_eq_true rfl⟩ (fun H locs O => ?_)
  refine W.eq (g2 := F0 m 30 ls [.int t4.1]) rfl ?_
  refine lv_if_eq (tgt := 157) hx hb dX12_laysRoom_30 (by decide) (fun hc30 => ?_) (fun hc30 => ?_)
  · rw [if_pos hc30] at h
    obtain ⟨_, hw0, ew0⟩ := Option.map_eq_some_iff.mp h
    rw [← ew0] at hK
    have h := hw0
    exact F_X12_laysRoom_157_ok X hr hlk  t4.2 _ h hK H locs ls O (lv_sub hl [] rfl)
  rw [if_neg hc30] at h
  refine lv_aload_n hx hb dX12_laysRoom_33 rfl (lv_at hl 0 rfl) ?_
  obtain ⟨t5, ht5, h⟩ := Option.bind_eq_some_iff.mp h
  refine xr_getP X O ht5 fl_X12_45 dX12_laysRoom_34 ?_
  refine lv_bipush (v := (102 : Int32)) hx hb dX12_laysRoom_37 (by decide) ?_
  refine lv_iload_n hx hb dX12_laysRoom_39 rfl (lv_at hl 2 rfl) ?_
  refine lv_imul hx hb dX12_laysRoom_40 ?_
  refine lv_iconst (v := (2 : Int32)) hx hb dX12_laysRoom_41 (by decide) ?_
  refine lv_iload_n hx hb dX12_laysRoom_42 rfl (lv_at hl 2 rfl) ?_
  refine lv_imul hx hb dX12_laysRoom_43 ?_
  refine lv_iadd hx hb dX12_laysRoom_44 ?_
  refine lv_iconst (v := (1 : Int32)) hx hb dX12_laysRoom_45 (by decide) ?_
  refine lv_iadd hx hb dX12_laysRoom_46 ?_
  refine lv_aload_n hx hb dX12_laysRoom_47 rfl (lv_at hl 0 rfl) ?_
  obtain ⟨t6, ht6, h⟩ := Option.bind_eq_some_iff.mp h
  refine xr_getP X O ht6 fl_X12_13 dX12_laysRoom_48 ?_
  refine lv_bipush (v := (67 : Int32)) hx hb dX12_laysRoom_51 (by decide) ?_
  refine lv_iload_n hx hb dX12_laysRoom_53 rfl (lv_at hl 2 rfl) ?_
  refine lv_iadd hx hb dX12_laysRoom_54 ?_
  obtain ⟨t7, ht7, h⟩ := Option.bind_eq_some_iff.mp h
  refine xr_aldI X O ht7 dX12_laysRoom_55 ?_
  refine lv_iload_n hx hb dX12_laysRoom_56 rfl (lv_at hl 1 rfl) ?_
  refine lv_icmp_ge (tgt := 74) hx hb dX12_laysRoom_57 (by decide) (fun hc57 => ?_) (fun hc57 => ?_)
  · rw [if_pos hc57] at h
    refine lv_iconst (v := (0 : Int32)) hx hb dX12_laysRoom_74 (by decide) ?_
    exact F_X12_laysRoom_75_ok X hr hlk v0 v1 v2 (0 : Int32) ((((102 : Int32) * v2) + ((2 : Int32) * v2)) + (1 : Int32)) t5 hW24 t4.2 _ h hK H locs ls O (lv_sub hl [0, 1, 2] rfl)
  rw [if_neg hc57] at h
  refine lv_iload_n hx hb dX12_laysRoom_60 rfl (lv_at hl 1 rfl) ?_
  refine lv_aload_n hx hb dX12_laysRoom_61 rfl (lv_at hl 0 rfl) ?_
  obtain ⟨t8, ht8, h⟩ := Option.bind_eq_some_iff.mp h
  refine xr_getP X O ht8 fl_X12_13 dX12_laysRoom_62 ?_
  refine lv_bipush (v := (67 : Int32)) hx hb dX12_laysRoom_65 (by decide) ?_
  refine lv_iload_n hx hb dX12_laysRoom_67 rfl (lv_at hl 2 rfl) ?_
  refine lv_iadd hx hb dX12_laysRoom_68 ?_
  obtain ⟨t9, ht9, h⟩ := Option.bind_eq_some_iff.mp h
  refine xr_aldI X O ht9 dX12_laysRoom_69 ?_
  refine lv_isub hx hb dX12_laysRoom_70 ?_
  refine lv_goto (tgt := 75) hx hb dX12_laysRoom_71 (by decide) ?_
  exact F_X12_laysRoom_75_ok X hr hlk v0 v1 v2 (v1 - t9) ((((102 : Int32) * v2) + ((2 : Int32) * v2)) + (1 : Int32)) t5 hW24 t4.2 _ h hK H locs ls O (lv_sub hl [0, 1, 2] rfl)
set_option maxRecDepth 100000 in
set_option maxHeartbeats 4000000 in
theorem F_X12_laysRoom_24_ok (X : xX p s m args c cX12_laysRoom 4 RX12 κ) (hr : meth.sig.returnType = none) (hlk : meth.locks = false) {mo : xM} (v0 : Nat) (v1 : Int32) (v2 : Int32) (M : xM) (x : xM) (h : F_X12_laysRoom_24 v0 v1 v2 M = some x) (hK : (fun o => o = mo) x) (H : Heap) (locs : List Loc) (ls : Array Slot) (O : xO κ s M H locs) (hl : lv_has ls 4 [(0, .ref (κ.1 + v0)), (1, .int v1), (2, .int v2)]) : W p l e (xRm 5 0 0) s m args below meth c H locs 0 0 (xQf below args s 0 0 κ none mo) (F0 m 24 ls []) := by
  refine xit_K (Wh := fun x => ∀ (H : Heap) (locs : List Loc) (ls : Array Slot), xO κ s x.2 H locs → lv_has ls 4 [(0, .ref (κ.1 + v0)), (1, .int v1), (2, .int x.1)] → W p l e (xRm 5 0 0) s m args below meth c H locs 0 0 (xQf below args s 0 0 κ none mo) (F0 m 24 ls [])) (Kp := (fun o => o = mo)) ?_ xFU (v2, M) x h hK H locs ls O hl
  intro y x h hK H locs ls O hl
  exact F_X12_laysRoom_24_bok X hr hlk v0 v1 y.1 (fun _ _ hw => hw) y.2 x h hK H locs ls O hl
set_option maxRecDepth 100000 in
set_option maxHeartbeats 4000000 in
theorem F_X12_laysRoom_22_ok (X : xX p s m args c cX12_laysRoom 4 RX12 κ) (hr : meth.sig.returnType = none) (hlk : meth.locks = false) {mo : xM} (v0 : Nat) (v1 : Int32) (M : xM) (x : xM) (h : F_X12_laysRoom_22 v0 v1 M = some x) (hK : (fun o => o = mo) x) (H : Heap) (locs : List Loc) (ls : Array Slot) (O : xO κ s M H locs) (hl : lv_has ls 4 [(0, .ref (κ.1 + v0)), (1, .int v1)]) : W p l e (xRm 5 0 0) s m args below meth c H locs 0 0 (xQf below args s 0 0 κ none mo) (F0 m 22 ls []) := by
  unfold F_X12_laysRoom_22 at h
  have hx := X.1
  have hb := X.2.1
  refine lv_iconst (v := (0 : Int32)) hx hb dX12_laysRoom_22 (by decide) ?_
  refine lv_istore_n (lv' := [(2, .int (0 : Int32)), (0, .ref (κ.1 + v0)), (1, .int v1)]) hx hb dX12_laysRoom_23 rfl hl (by decide) rfl (fun ls hl => ?_)
  exact F_X12_laysRoom_24_ok X hr hlk v0 v1 (0 : Int32) M _ h hK H locs ls O (lv_sub hl [1, 2, 0] rfl)
set_option maxRecDepth 100000 in
set_option maxHeartbeats 4000000 in
theorem F_X12_laysRoom_2_bok (X : xX p s m args c cX12_laysRoom 4 RX12 κ) (hr : meth.sig.returnType = none) (hlk : meth.locks = false) {mo : xM} (v0 : Nat) (v1 : Int32) (v2 : Int32) {W2 : Int32 × xM → Prop} (hW2 : ∀ (v2 : Int32) (M : xM), W2 (v2, M) → ∀ (H : Heap) (locs : List Loc) (ls : Array Slot), xO κ s M H locs → lv_has ls 4 [(0, .ref (κ.1 + v0)), (1, .int v1), (2, .int v2)] → W p l e (xRm 5 0 0) s m args below meth c H locs 0 0 (xQf below args s 0 0 κ none mo) (F0 m 2 ls [])) (M : xM) (x : (Int32 × xM) ⊕ (xM)) (h : F_X12_laysRoom_2b v0 v1 (v2, M) = some x) (hK : (xKl W2 (fun o => o = mo)) x) (H : Heap) (locs : List Loc) (ls : Array Slot) (O : xO κ s M H locs) (hl : lv_has ls 4 [(0, .ref (κ.1 + v0)), (1, .int v1), (2, .int v2)]) : W p l e (xRm 5 0 0) s m args below meth c H locs 0 0 (xQf below args s 0 0 κ none mo) (F0 m 2 ls []) := by
  unfold F_X12_laysRoom_2b at h
  dsimp only at h
  have hx := X.1
  have hb := X.2.1
  refine lv_iload_n hx hb dX12_laysRoom_2 rfl (lv_at hl 2 rfl) ?_
  refine lv_sipush (v := (2601 : Int32)) hx hb dX12_laysRoom_3 (by decide) ?_
  refine lv_icmp_ge (tgt := 22) hx hb dX12_laysRoom_6 (by decide) (fun hc6 => ?_) (fun hc6 => ?_)
  · rw [if_pos hc6] at h
    obtain ⟨_, hw0, ew0⟩ := Option.map_eq_some_iff.mp h
    rw [← ew0] at hK
    have h := hw0
    exact F_X12_laysRoom_22_ok X hr hlk v0 v1 M _ h hK H locs ls O (lv_sub hl [0, 1] rfl)
  rw [if_neg hc6] at h
  refine lv_aload_n hx hb dX12_laysRoom_9 rfl (lv_at hl 0 rfl) ?_
  obtain ⟨t1, ht1, h⟩ := Option.bind_eq_some_iff.mp h
  refine xr_getP X O ht1 fl_X12_45 dX12_laysRoom_10 ?_
  refine lv_iload_n hx hb dX12_laysRoom_13 rfl (lv_at hl 2 rfl) ?_
  refine lv_iconst (v := (0 : Int32)) hx hb dX12_laysRoom_14 (by decide) ?_
  obtain ⟨t2, ht2, h⟩ := Option.bind_eq_some_iff.mp h
  refine xr_stI X O ht2 dX12_laysRoom_15 (fun H locs O => ?_)
  refine lv_iinc (v := (v2 + 1)) (lv' := [(2, .int (v2 + 1)), (0, .ref (κ.1 + v0)), (1, .int v1)]) hx hb dX12_laysRoom_16 hl (k := 2) rfl rfl (by decide) rfl (fun ls hl => ?_)
  refine lv_goto (tgt := 2) hx hb dX12_laysRoom_19 (by decide) ?_
  rw [← Option.some.inj h] at hK
  exact hW2 (v2 + 1) t2 hK H locs ls O (lv_sub hl [1, 2, 0] rfl)
set_option maxRecDepth 100000 in
set_option maxHeartbeats 4000000 in
theorem F_X12_laysRoom_2_ok (X : xX p s m args c cX12_laysRoom 4 RX12 κ) (hr : meth.sig.returnType = none) (hlk : meth.locks = false) {mo : xM} (v0 : Nat) (v1 : Int32) (v2 : Int32) (M : xM) (x : xM) (h : F_X12_laysRoom_2 v0 v1 v2 M = some x) (hK : (fun o => o = mo) x) (H : Heap) (locs : List Loc) (ls : Array Slot) (O : xO κ s M H locs) (hl : lv_has ls 4 [(0, .ref (κ.1 + v0)), (1, .int v1), (2, .int v2)]) : W p l e (xRm 5 0 0) s m args below meth c H locs 0 0 (xQf below args s 0 0 κ none mo) (F0 m 2 ls []) := by
  refine xit_K (Wh := fun x => ∀ (H : Heap) (locs : List Loc) (ls : Array Slot), xO κ s x.2 H locs → lv_has ls 4 [(0, .ref (κ.1 + v0)), (1, .int v1), (2, .int x.1)] → W p l e (xRm 5 0 0) s m args below meth c H locs 0 0 (xQf below args s 0 0 κ none mo) (F0 m 2 ls [])) (Kp := (fun o => o = mo)) ?_ xFU (v2, M) x h hK H locs ls O hl
  intro y x h hK H locs ls O hl
  exact F_X12_laysRoom_2_bok X hr hlk v0 v1 y.1 (fun _ _ hw => hw) y.2 x h hK H locs ls O hl
set_option maxRecDepth 100000 in
set_option maxHeartbeats 4000000 in
theorem T_X12_laysRoom (l : Launch) (κ : xQ) (a0 : Nat) (a1 : Int32) (M : xM) (mo : xM) (h : F_X12_laysRoom a0 a1 M = some mo) : xC l yX12_laysRoom cX12_laysRoom 4 none 5 0 0 κ [.ref (κ.1 + a0), .int a1] M none mo := by
  refine xC_of rfl (Nat.le_of_ble_eq_true rfl) fun p e s m args below meth c X hr hlk hnm H locs ls O hl => ?_
  have X : xX p s m args c cX12_laysRoom 4 RX12 κ := X
  have hl : lv_has ls 4 [(0, .ref (κ.1 + a0)), (1, .int a1)] := hl
  have hx := X.1
  have hb := X.2.1
  obtain ⟨x, hx0⟩ : ∃ x, mo = x := ⟨_, rfl⟩
  rw [hx0] at h
  have hK : x = mo := hx0.symm
  unfold F_X12_laysRoom at h
  refine lv_iconst (v := (0 : Int32)) hx hb dX12_laysRoom_0 (by decide) ?_
  refine lv_istore_n (lv' := [(2, .int (0 : Int32)), (0, .ref (κ.1 + a0)), (1, .int a1)]) hx hb dX12_laysRoom_1 rfl hl (by decide) rfl (fun ls hl => ?_)
  exact F_X12_laysRoom_2_ok X hr hlk a0 a1 (0 : Int32) M _ h hK H locs ls O (lv_sub hl [1, 2, 0] rfl)
def F_X12_isCome_115 (v0 : Nat) (v1 : Int32) (v2 : Int32) (v3 : Int32) (v4 : Int32) (M : xM) : Option ((Int32 × Int32 × xM) ⊕ ((Int32 × Int32 × xM) ⊕ (Int32 × xM))) :=
some (.inl (v2, (v4 + 1), M))
def F_X12_isCome_121 (v0 : Nat) (v1 : Int32) (v2 : Int32) (v3 : Int32) (M : xM) : Option ((Int32 × Int32 × xM) ⊕ (Int32 × xM)) :=
some (.inl (v2, (v3 + 1), M))
def F_X12_isCome_50b (v0 : Nat) (v1 : Int32) (v3 : Int32) : (Int32 × Int32 × xM) → Option ((Int32 × Int32 × xM) ⊕ ((Int32 × Int32 × xM) ⊕ (Int32 × xM))) := fun ⟨v2, v4, M⟩ =>
if (51 : Int32) ≤ v4 then (
(F_X12_isCome_121 v0 v1 v2 v3 M).map Sum.inr)
else (
(xgP M v0 12 26).bind fun t7 =>
(xaI M 20 t7 v4).bind fun t8 =>
if t8 = (-1 : Int32) then (
(xgP M v0 12 25).bind fun t9 =>
(xgP M v0 12 27).bind fun t10 =>
(xaI M 20 t10 v3).bind fun t11 =>
(xaI M 20 t9 (((51 : Int32) * t11) + v4)).bind fun t12 =>
if t12 = 0 then (
F_X12_isCome_115 v0 v1 v2 v3 v4 M)
else (
(xgP M v0 12 26).bind fun t13 =>
(xgP M v0 12 27).bind fun t14 =>
(xaI M 20 t14 v3).bind fun t15 =>
(xsI M t13 v4 t15).bind fun t16 =>
(xgP t16 v0 12 27).bind fun t17 =>
(xsI t16 t17 v2 v4).bind fun t18 =>
F_X12_isCome_115 v0 v1 (v2 + 1) v3 v4 t18))
else (
F_X12_isCome_115 v0 v1 v2 v3 v4 M))
def F_X12_isCome_50 (v0 : Nat) (v1 : Int32) (v2 : Int32) (v3 : Int32) (v4 : Int32) (M : xM) : Option ((Int32 × Int32 × xM) ⊕ (Int32 × xM)) := xit (F_X12_isCome_50b v0 v1 v3) xFU (v2, v4, M)
def F_X12_isCome_127 (v0 : Nat) (v1 : Int32) (M : xM) : Option (Int32 × xM) :=
(xgP M v0 12 26).bind fun t19 =>
(xaI M 20 t19 v1).bind fun t20 =>
if t20 = (-1 : Int32) then (
(xz (0 : Int32)).bind fun t21 =>
some (t21, M))
else (
(xz (1 : Int32)).bind fun t22 =>
some (t22, M))
def F_X12_isCome_42b (v0 : Nat) (v1 : Int32) : (Int32 × Int32 × xM) → Option ((Int32 × Int32 × xM) ⊕ (Int32 × xM)) := fun ⟨v2, v3, M⟩ =>
if v2 ≤ v3 then (
(F_X12_isCome_127 v0 v1 M).map Sum.inr)
else (
F_X12_isCome_50 v0 v1 v2 v3 (0 : Int32) M)
def F_X12_isCome_42 (v0 : Nat) (v1 : Int32) (v2 : Int32) (v3 : Int32) (M : xM) : Option (Int32 × xM) := xit (F_X12_isCome_42b v0 v1) xFU (v2, v3, M)
def F_X12_isCome_21 (v0 : Nat) (v1 : Int32) (M : xM) : Option (Int32 × xM) :=
(xgP M v0 12 26).bind fun t3 =>
(xsI M t3 (50 : Int32) (50 : Int32)).bind fun t4 =>
(xgP t4 v0 12 27).bind fun t5 =>
(xsI t4 t5 (0 : Int32) (50 : Int32)).bind fun t6 =>
F_X12_isCome_42 v0 v1 (1 : Int32) (0 : Int32) t6
def F_X12_isCome_2b (v0 : Nat) (v1 : Int32) : (Int32 × xM) → Option ((Int32 × xM) ⊕ (Int32 × xM)) := fun ⟨v2, M⟩ =>
if (51 : Int32) ≤ v2 then (
(F_X12_isCome_21 v0 v1 M).map Sum.inr)
else (
(xgP M v0 12 26).bind fun t1 =>
(xsI M t1 v2 (-1 : Int32)).bind fun t2 =>
some (.inl ((v2 + 1), t2)))
def F_X12_isCome_2 (v0 : Nat) (v1 : Int32) (v2 : Int32) (M : xM) : Option (Int32 × xM) := xit (F_X12_isCome_2b v0 v1) xFU (v2, M)
def F_X12_isCome (a0 : Nat) (a1 : Int32) (M : xM) : Option (Int32 × xM) :=
F_X12_isCome_2 a0 a1 (0 : Int32) M
set_option maxRecDepth 100000 in
set_option maxHeartbeats 4000000 in
theorem F_X12_isCome_115_ok (X : xX p s m args c cX12_isCome 5 RX12 κ) (hr : meth.sig.returnType = (some .boolean)) (hlk : meth.locks = false) {ro : Int32} {mo : xM} (v0 : Nat) (v1 : Int32) (v2 : Int32) (v3 : Int32) (v4 : Int32) {W42 : Int32 × Int32 × xM → Prop} (hW42 : ∀ (v2 : Int32) (v3 : Int32) (M : xM), W42 (v2, v3, M) → ∀ (H : Heap) (locs : List Loc) (ls : Array Slot), xO κ s M H locs → lv_has ls 5 [(0, .ref (κ.1 + v0)), (1, .int v1), (2, .int v2), (3, .int v3)] → W p l e (xRm 2 0 0) s m args below meth c H locs 0 0 (xQf below args s 0 0 κ (some (.int ro)) mo) (F0 m 42 ls [])) {W50 : Int32 × Int32 × xM → Prop} (hW50 : ∀ (v2 : Int32) (v4 : Int32) (M : xM), W50 (v2, v4, M) → ∀ (H : Heap) (locs : List Loc) (ls : Array Slot), xO κ s M H locs → lv_has ls 5 [(0, .ref (κ.1 + v0)), (1, .int v1), (2, .int v2), (3, .int v3), (4, .int v4)] → W p l e (xRm 2 0 0) s m args below meth c H locs 0 0 (xQf below args s 0 0 κ (some (.int ro)) mo) (F0 m 50 ls [])) (M : xM) (x : (Int32 × Int32 × xM) ⊕ ((Int32 × Int32 × xM) ⊕ (Int32 × xM))) (h : F_X12_isCome_115 v0 v1 v2 v3 v4 M = some x) (hK : (xKl W50 (xKl W42 (fun o => o = (ro, mo)))) x) (H : Heap) (locs : List Loc) (ls : Array Slot) (O : xO κ s M H locs) (hl : lv_has ls 5 [(0, .ref (κ.1 + v0)), (1, .int v1), (2, .int v2), (3, .int v3), (4, .int v4)]) : W p l e (xRm 2 0 0) s m args below meth c H locs 0 0 (xQf below args s 0 0 κ (some (.int ro)) mo) (F0 m 115 ls []) := by
  unfold F_X12_isCome_115 at h
  have hx := X.1
  have hb := X.2.1
  refine lv_iinc (v := (v4 + 1)) (lv' := [(4, .int (v4 + 1)), (0, .ref (κ.1 + v0)), (1, .int v1), (2, .int v2), (3, .int v3)]) hx hb dX12_isCome_115 hl (k := 4) rfl rfl (by decide) rfl (fun ls hl => ?_)
  refine lv_goto (tgt := 50) hx hb dX12_isCome_118 (by decide) ?_
  rw [← Option.some.inj h] at hK
  exact hW50 v2 (v4 + 1) M hK H locs ls O (lv_sub hl [1, 2, 3, 4, 0] rfl)
set_option maxRecDepth 100000 in
set_option maxHeartbeats 4000000 in
theorem F_X12_isCome_121_ok (X : xX p s m args c cX12_isCome 5 RX12 κ) (hr : meth.sig.returnType = (some .boolean)) (hlk : meth.locks = false) {ro : Int32} {mo : xM} (v0 : Nat) (v1 : Int32) (v2 : Int32) (v3 : Int32) {W42 : Int32 × Int32 × xM → Prop} (hW42 : ∀ (v2 : Int32) (v3 : Int32) (M : xM), W42 (v2, v3, M) → ∀ (H : Heap) (locs : List Loc) (ls : Array Slot), xO κ s M H locs → lv_has ls 5 [(0, .ref (κ.1 + v0)), (1, .int v1), (2, .int v2), (3, .int v3)] → W p l e (xRm 2 0 0) s m args below meth c H locs 0 0 (xQf below args s 0 0 κ (some (.int ro)) mo) (F0 m 42 ls [])) (M : xM) (x : (Int32 × Int32 × xM) ⊕ (Int32 × xM)) (h : F_X12_isCome_121 v0 v1 v2 v3 M = some x) (hK : (xKl W42 (fun o => o = (ro, mo))) x) (H : Heap) (locs : List Loc) (ls : Array Slot) (O : xO κ s M H locs) (hl : lv_has ls 5 [(0, .ref (κ.1 + v0)), (1, .int v1), (2, .int v2), (3, .int v3)]) : W p l e (xRm 2 0 0) s m args below meth c H locs 0 0 (xQf below args s 0 0 κ (some (.int ro)) mo) (F0 m 121 ls []) := by
  unfold F_X12_isCome_121 at h
  have hx := X.1
  have hb := X.2.1
  refine lv_iinc (v := (v3 + 1)) (lv' := [(3, .int (v3 + 1)), (0, .ref (κ.1 + v0)), (1, .int v1), (2, .int v2)]) hx hb dX12_isCome_121 hl (k := 3) rfl rfl (by decide) rfl (fun ls hl => ?_)
  refine lv_goto (tgt := 42) hx hb dX12_isCome_124 (by decide) ?_
  rw [← Option.some.inj h] at hK
  exact hW42 v2 (v3 + 1) M hK H locs ls O (lv_sub hl [1, 2, 3, 0] rfl)
set_option maxRecDepth 100000 in
set_option maxHeartbeats 4000000 in
theorem F_X12_isCome_50_bok (X : xX p s m args c cX12_isCome 5 RX12 κ) (hr : meth.sig.returnType = (some .boolean)) (hlk : meth.locks = false) {ro : Int32} {mo : xM} (v0 : Nat) (v1 : Int32) (v2 : Int32) (v3 : Int32) (v4 : Int32) {W42 : Int32 × Int32 × xM → Prop} (hW42 : ∀ (v2 : Int32) (v3 : Int32) (M : xM), W42 (v2, v3, M) → ∀ (H : Heap) (locs : List Loc) (ls : Array Slot), xO κ s M H locs → lv_has ls 5 [(0, .ref (κ.1 + v0)), (1, .int v1), (2, .int v2), (3, .int v3)] → W p l e (xRm 2 0 0) s m args below meth c H locs 0 0 (xQf below args s 0 0 κ (some (.int ro)) mo) (F0 m 42 ls [])) {W50 : Int32 × Int32 × xM → Prop} (hW50 : ∀ (v2 : Int32) (v4 : Int32) (M : xM), W50 (v2, v4, M) → ∀ (H : Heap) (locs : List Loc) (ls : Array Slot), xO κ s M H locs → lv_has ls 5 [(0, .ref (κ.1 + v0)), (1, .int v1), (2, .int v2), (3, .int v3), (4, .int v4)] → W p l e (xRm 2 0 0) s m args below meth c H locs 0 0 (xQf below args s 0 0 κ (some (.int ro)) mo) (F0 m 50 ls [])) (M : xM) (x : (Int32 × Int32 × xM) ⊕ ((Int32 × Int32 × xM) ⊕ (Int32 × xM))) (h : F_X12_isCome_50b v0 v1 v3 (v2, v4, M) = some x) (hK : (xKl W50 (xKl W42 (fun o => o = (ro, mo)))) x) (H : Heap) (locs : List Loc) (ls : Array Slot) (O : xO κ s M H locs) (hl : lv_has ls 5 [(0, .ref (κ.1 + v0)), (1, .int v1), (2, .int v2), (3, .int v3), (4, .int v4)]) : W p l e (xRm 2 0 0) s m args below meth c H locs 0 0 (xQf below args s 0 0 κ (some (.int ro)) mo) (F0 m 50 ls []) := by
  unfold F_X12_isCome_50b at h
  dsimp only at h
  have hx := X.1
  have hb := X.2.1
  refine lv_iload hx hb dX12_isCome_50 (lv_at hl 4 rfl) ?_
  refine lv_bipush (v := (51 : Int32)) hx hb dX12_isCome_52 (by decide) ?_
  refine lv_icmp_ge (tgt := 121) hx hb dX12_isCome_54 (by decide) (fun hc54 => ?_) (fun hc54 => ?_)
  · rw [if_pos hc54] at h
    obtain ⟨_, hw0, ew0⟩ := Option.map_eq_some_iff.mp h
    rw [← ew0] at hK
    have h := hw0
    exact F_X12_isCome_121_ok X hr hlk v0 v1 v2 v3 hW42 M _ h hK H locs ls O (lv_sub hl [0, 1, 2, 3] rfl)
  rw [if_neg hc54] at h
  refine lv_aload_n hx hb dX12_isCome_57 rfl (lv_at hl 0 rfl) ?_
  obtain ⟨t7, ht7, h⟩ := Option.bind_eq_some_iff.mp h
  refine xr_getP X O ht7 fl_X12_48 dX12_isCome_58 ?_
  refine lv_iload hx hb dX12_isCome_61 (lv_at hl 4 rfl) ?_
  obtain ⟨t8, ht8, h⟩ := Option.bind_eq_some_iff.mp h
  refine xr_aldI X O ht8 dX12_isCome_63 ?_
  refine lv_iconst (v := (-1 : Int32)) hx hb dX12_isCome_64 (by decide) ?_
  refine lv_icmp_ne (tgt := 115) hx hb dX12_isCome_65 (by decide) (fun hc65 => ?_) (fun hc65 => ?_)
  · rw [if_neg hc65] at h
    exact F_X12_isCome_115_ok X hr hlk v0 v1 v2 v3 v4 hW42 hW50 M _ h hK H locs ls O (lv_sub hl [0, 1, 2, 3, 4] rfl)
  rw [if_pos hc65] at h
  refine lv_aload_n hx hb dX12_isCome_68 rfl (lv_at hl 0 rfl) ?_
  obtain ⟨t9, ht9, h⟩ := Option.bind_eq_some_iff.mp h
  refine xr_getP X O ht9 fl_X12_45 dX12_isCome_69 ?_
  refine lv_bipush (v := (51 : Int32)) hx hb dX12_isCome_72 (by decide) ?_
  refine lv_aload_n hx hb dX12_isCome_74 rfl (lv_at hl 0 rfl) ?_
  obtain ⟨t10, ht10, h⟩ := Option.bind_eq_some_iff.mp h
  refine xr_getP X O ht10 fl_X12_51 dX12_isCome_75 ?_
  refine lv_iload_n hx hb dX12_isCome_78 rfl (lv_at hl 3 rfl) ?_
  obtain ⟨t11, ht11, h⟩ := Option.bind_eq_some_iff.mp h
  refine xr_aldI X O ht11 dX12_isCome_79 ?_
  refine lv_imul hx hb dX12_isCome_80 ?_
  refine lv_iload hx hb dX12_isCome_81 (lv_at hl 4 rfl) ?_
  refine lv_iadd hx hb dX12_isCome_83 ?_
  obtain ⟨t12, ht12, h⟩ := Option.bind_eq_some_iff.mp h
  refine xr_aldI X O ht12 dX12_isCome_84 ?_
  refine lv_if_ne (tgt := 91) hx hb dX12_isCome_85 (by decide) (fun hc85 => ?_) (fun hc85 => ?_)
  · rw [if_neg hc85] at h
    refine lv_aload_n hx hb dX12_isCome_91 rfl (lv_at hl 0 rfl) ?_
    obtain ⟨t13, ht13, h⟩ := Option.bind_eq_some_iff.mp h
    refine xr_getP X O ht13 fl_X12_48 dX12_isCome_92 ?_
    refine lv_iload hx hb dX12_isCome_95 (lv_at hl 4 rfl) ?_
    refine lv_aload_n hx hb dX12_isCome_97 rfl (lv_at hl 0 rfl) ?_
    obtain ⟨t14, ht14, h⟩ := Option.bind_eq_some_iff.mp h
    refine xr_getP X O ht14 fl_X12_51 dX12_isCome_98 ?_
    refine lv_iload_n hx hb dX12_isCome_101 rfl (lv_at hl 3 rfl) ?_
    obtain ⟨t15, ht15, h⟩ := Option.bind_eq_some_iff.mp h
    refine xr_aldI X O ht15 dX12_isCome_102 ?_
    obtain ⟨t16, ht16, h⟩ := Option.bind_eq_some_iff.mp h
    refine xr_stI X O ht16 dX12_isCome_103 (fun H locs O => ?_)
    refine lv_aload_n hx hb dX12_isCome_104 rfl (lv_at hl 0 rfl) ?_
    obtain ⟨t17, ht17, h⟩ := Option.bind_eq_some_iff.mp h
    refine xr_getP X O ht17 fl_X12_51 dX12_isCome_105 ?_
    refine lv_iload_n hx hb dX12_isCome_108 rfl (lv_at hl 2 rfl) ?_
    refine lv_iload hx hb dX12_isCome_109 (lv_at hl 4 rfl) ?_
    obtain ⟨t18, ht18, h⟩ := Option.bind_eq_some_iff.mp h
    refine xr_stI X O ht18 dX12_isCome_111 (fun H locs O => ?_)
    refine lv_iinc (v := (v2 + 1)) (lv' := [(2, .int (v2 + 1)), (0, .ref (κ.1 + v0)), (1, .int v1), (3, .int v3), (4, .int v4)]) hx hb dX12_isCome_112 hl (k := 2) rfl rfl (by decide) rfl (fun ls hl => ?_)
    exact F_X12_isCome_115_ok X hr hlk v0 v1 (v2 + 1) v3 v4 hW42 hW50 t18 _ h hK H locs ls O (lv_sub hl [1, 2, 0, 3, 4] rfl)
  rw [if_pos hc85] at h
  refine lv_goto (tgt := 115) hx hb dX12_isCome_88 (by decide) ?_
  exact F_X12_isCome_115_ok X hr hlk v0 v1 v2 v3 v4 hW42 hW50 M _ h hK H locs ls O (lv_sub hl [0, 1, 2, 3, 4] rfl)
set_option maxRecDepth 100000 in
set_option maxHeartbeats 4000000 in
theorem F_X12_isCome_50_ok (X : xX p s m args c cX12_isCome 5 RX12 κ) (hr : meth.sig.returnType = (some .boolean)) (hlk : meth.locks = false) {ro : Int32} {mo : xM} (v0 : Nat) (v1 : Int32) (v2 : Int32) (v3 : Int32) (v4 : Int32) {W42 : Int32 × Int32 × xM → Prop} (hW42 : ∀ (v2 : Int32) (v3 : Int32) (M : xM), W42 (v2, v3, M) → ∀ (H : Heap) (locs : List Loc) (ls : Array Slot), xO κ s M H locs → lv_has ls 5 [(0, .ref (κ.1 + v0)), (1, .int v1), (2, .int v2), (3, .int v3)] → W p l e (xRm 2 0 0) s m args below meth c H locs 0 0 (xQf below args s 0 0 κ (some (.int ro)) mo) (F0 m 42 ls [])) (M : xM) (x : (Int32 × Int32 × xM) ⊕ (Int32 × xM)) (h : F_X12_isCome_50 v0 v1 v2 v3 v4 M = some x) (hK : (xKl W42 (fun o => o = (ro, mo))) x) (H : Heap) (locs : List Loc) (ls : Array Slot) (O : xO κ s M H locs) (hl : lv_has ls 5 [(0, .ref (κ.1 + v0)), (1, .int v1), (2, .int v2), (3, .int v3), (4, .int v4)]) : W p l e (xRm 2 0 0) s m args below meth c H locs 0 0 (xQf below args s 0 0 κ (some (.int ro)) mo) (F0 m 50 ls []) := by
  refine xit_K (Wh := fun x => ∀ (H : Heap) (locs : List Loc) (ls : Array Slot), xO κ s x.2.2 H locs → lv_has ls 5 [(0, .ref (κ.1 + v0)), (1, .int v1), (2, .int x.1), (3, .int v3), (4, .int x.2.1)] → W p l e (xRm 2 0 0) s m args below meth c H locs 0 0 (xQf below args s 0 0 κ (some (.int ro)) mo) (F0 m 50 ls [])) (Kp := (xKl W42 (fun o => o = (ro, mo)))) ?_ xFU (v2, v4, M) x h hK H locs ls O hl
  intro y x h hK H locs ls O hl
  exact F_X12_isCome_50_bok X hr hlk v0 v1 y.1 v3 y.2.1 hW42 (fun _ _ _ hw => hw) y.2.2 x h hK H locs ls O hl
set_option maxRecDepth 100000 in
set_option maxHeartbeats 4000000 in
theorem F_X12_isCome_127_ok (X : xX p s m args c cX12_isCome 5 RX12 κ) (hr : meth.sig.returnType = (some .boolean)) (hlk : meth.locks = false) {ro : Int32} {mo : xM} (v0 : Nat) (v1 : Int32) (M : xM) (x : Int32 × xM) (h : F_X12_isCome_127 v0 v1 M = some x) (hK : (fun o => o = (ro, mo)) x) (H : Heap) (locs : List Loc) (ls : Array Slot) (O : xO κ s M H locs) (hl : lv_has ls 5 [(0, .ref (κ.1 + v0)), (1, .int v1)]) : W p l e (xRm 2 0 0) s m args below meth c H locs 0 0 (xQf below args s 0 0 κ (some (.int ro)) mo) (F0 m 127 ls []) := by
  unfold F_X12_isCome_127 at h
  have hx := X.1
  have hb := X.2.1
  refine lv_aload_n hx hb dX12_isCome_127 rfl (lv_at hl 0 rfl) ?_
  obtain ⟨t19, ht19, h⟩ := Option.bind_eq_some_iff.mp h
  refine xr_getP X O ht19 fl_X12_48 dX12_isCome_128 ?_
  refine lv_iload_n hx hb dX12_isCome_131 rfl (lv_at hl 1 rfl) ?_
  obtain ⟨t20, ht20, h⟩ := Option.bind_eq_some_iff.mp h
  refine xr_aldI X O ht20 dX12_isCome_132 ?_
  refine lv_iconst (v := (-1 : Int32)) hx hb dX12_isCome_133 (by decide) ?_
  refine lv_icmp_eq (tgt := 141) hx hb dX12_isCome_134 (by decide) (fun hc134 => ?_) (fun hc134 => ?_)
  · rw [if_pos hc134] at h
    refine lv_iconst (v := (0 : Int32)) hx hb dX12_isCome_141 (by decide) ?_
    obtain ⟨t21, ht21, h⟩ := Option.bind_eq_some_iff.mp h
    rw [← Option.some.inj h] at hK
    have hK : (t21, M) = (ro, mo) := hK
    obtain ⟨hK1, hK2⟩ := Prod.mk.inj hK
    rw [hK1] at ht21
    rw [hK2] at O
    exact xr_zret X hr hlk O ht21 dX12_isCome_142
  rw [if_neg hc134] at h
  refine lv_iconst (v := (1 : Int32)) hx hb dX12_isCome_137 (by decide) ?_
  refine lv_goto (tgt := 142) hx hb dX12_isCome_138 (by decide) ?_
  obtain ⟨t22, ht22, h⟩ := Option.bind_eq_some_iff.mp h
  rw [← Option.some.inj h] at hK
  have hK : (t22, M) = (ro, mo) := hK
  obtain ⟨hK1, hK2⟩ := Prod.mk.inj hK
  rw [hK1] at ht22
  rw [hK2] at O
  exact xr_zret X hr hlk O ht22 dX12_isCome_142
set_option maxRecDepth 100000 in
set_option maxHeartbeats 4000000 in
theorem F_X12_isCome_42_bok (X : xX p s m args c cX12_isCome 5 RX12 κ) (hr : meth.sig.returnType = (some .boolean)) (hlk : meth.locks = false) {ro : Int32} {mo : xM} (v0 : Nat) (v1 : Int32) (v2 : Int32) (v3 : Int32) {W42 : Int32 × Int32 × xM → Prop} (hW42 : ∀ (v2 : Int32) (v3 : Int32) (M : xM), W42 (v2, v3, M) → ∀ (H : Heap) (locs : List Loc) (ls : Array Slot), xO κ s M H locs → lv_has ls 5 [(0, .ref (κ.1 + v0)), (1, .int v1), (2, .int v2), (3, .int v3)] → W p l e (xRm 2 0 0) s m args below meth c H locs 0 0 (xQf below args s 0 0 κ (some (.int ro)) mo) (F0 m 42 ls [])) (M : xM) (x : (Int32 × Int32 × xM) ⊕ (Int32 × xM)) (h : F_X12_isCome_42b v0 v1 (v2, v3, M) = some x) (hK : (xKl W42 (fun o => o = (ro, mo))) x) (H : Heap) (locs : List Loc) (ls : Array Slot) (O : xO κ s M H locs) (hl : lv_has ls 5 [(0, .ref (κ.1 + v0)), (1, .int v1), (2, .int v2), (3, .int v3)]) : W p l e (xRm 2 0 0) s m args below meth c H locs 0 0 (xQf below args s 0 0 κ (some (.int ro)) mo) (F0 m 42 ls []) := by
  unfold F_X12_isCome_42b at h
  dsimp only at h
  have hx := X.1
  have hb := X.2.1
  refine lv_iload_n hx hb dX12_isCome_42 rfl (lv_at hl 3 rfl) ?_
  refine lv_iload_n hx hb dX12_isCome_43 rfl (lv_at hl 2 rfl) ?_
  refine lv_icmp_ge (tgt := 127) hx hb dX12_isCome_44 (by decide) (fun hc44 => ?_) (fun hc44 => ?_)
  · rw [if_pos hc44] at h
    obtain ⟨_, hw0, ew0⟩ := Option.map_eq_some_iff.mp h
    rw [← ew0] at hK
    have h := hw0
    exact F_X12_isCome_127_ok X hr hlk v0 v1 M _ h hK H locs ls O (lv_sub hl [0, 1] rfl)
  rw [if_neg hc44] at h
  refine lv_iconst (v := (0 : Int32)) hx hb dX12_isCome_47 (by decide) ?_
  refine lv_istore (lv' := [(4, .int (0 : Int32)), (0, .ref (κ.1 + v0)), (1, .int v1), (2, .int v2), (3, .int v3)]) hx hb dX12_isCome_48 hl (by decide) rfl (fun ls hl => ?_)
  exact F_X12_isCome_50_ok X hr hlk v0 v1 v2 v3 (0 : Int32) hW42 M _ h hK H locs ls O (lv_sub hl [1, 2, 3, 4, 0] rfl)
set_option maxRecDepth 100000 in
set_option maxHeartbeats 4000000 in
theorem F_X12_isCome_42_ok (X : xX p s m args c cX12_isCome 5 RX12 κ) (hr : meth.sig.returnType = (some .boolean)) (hlk : meth.locks = false) {ro : Int32} {mo : xM} (v0 : Nat) (v1 : Int32) (v2 : Int32) (v3 : Int32) (M : xM) (x : Int32 × xM) (h : F_X12_isCome_42 v0 v1 v2 v3 M = some x) (hK : (fun o => o = (ro, mo)) x) (H : Heap) (locs : List Loc) (ls : Array Slot) (O : xO κ s M H locs) (hl : lv_has ls 5 [(0, .ref (κ.1 + v0)), (1, .int v1), (2, .int v2), (3, .int v3)]) : W p l e (xRm 2 0 0) s m args below meth c H locs 0 0 (xQf below args s 0 0 κ (some (.int ro)) mo) (F0 m 42 ls []) := by
  refine xit_K (Wh := fun x => ∀ (H : Heap) (locs : List Loc) (ls : Array Slot), xO κ s x.2.2 H locs → lv_has ls 5 [(0, .ref (κ.1 + v0)), (1, .int v1), (2, .int x.1), (3, .int x.2.1)] → W p l e (xRm 2 0 0) s m args below meth c H locs 0 0 (xQf below args s 0 0 κ (some (.int ro)) mo) (F0 m 42 ls [])) (Kp := (fun o => o = (ro, mo))) ?_ xFU (v2, v3, M) x h hK H locs ls O hl
  intro y x h hK H locs ls O hl
  exact F_X12_isCome_42_bok X hr hlk v0 v1 y.1 y.2.1 (fun _ _ _ hw => hw) y.2.2 x h hK H locs ls O hl
set_option maxRecDepth 100000 in
set_option maxHeartbeats 4000000 in
theorem F_X12_isCome_21_ok (X : xX p s m args c cX12_isCome 5 RX12 κ) (hr : meth.sig.returnType = (some .boolean)) (hlk : meth.locks = false) {ro : Int32} {mo : xM} (v0 : Nat) (v1 : Int32) (M : xM) (x : Int32 × xM) (h : F_X12_isCome_21 v0 v1 M = some x) (hK : (fun o => o = (ro, mo)) x) (H : Heap) (locs : List Loc) (ls : Array Slot) (O : xO κ s M H locs) (hl : lv_has ls 5 [(0, .ref (κ.1 + v0)), (1, .int v1)]) : W p l e (xRm 2 0 0) s m args below meth c H locs 0 0 (xQf below args s 0 0 κ (some (.int ro)) mo) (F0 m 21 ls []) := by
  unfold F_X12_isCome_21 at h
  have hx := X.1
  have hb := X.2.1
  refine lv_aload_n hx hb dX12_isCome_21 rfl (lv_at hl 0 rfl) ?_
  obtain ⟨t3, ht3, h⟩ := Option.bind_eq_some_iff.mp h
  refine xr_getP X O ht3 fl_X12_48 dX12_isCome_22 ?_
  refine lv_bipush (v := (50 : Int32)) hx hb dX12_isCome_25 (by decide) ?_
  refine lv_bipush (v := (50 : Int32)) hx hb dX12_isCome_27 (by decide) ?_
  obtain ⟨t4, ht4, h⟩ := Option.bind_eq_some_iff.mp h
  refine xr_stI X O ht4 dX12_isCome_29 (fun H locs O => ?_)
  refine lv_aload_n hx hb dX12_isCome_30 rfl (lv_at hl 0 rfl) ?_
  obtain ⟨t5, ht5, h⟩ := Option.bind_eq_some_iff.mp h
  refine xr_getP X O ht5 fl_X12_51 dX12_isCome_31 ?_
  refine lv_iconst (v := (0 : Int32)) hx hb dX12_isCome_34 (by decide) ?_
  refine lv_bipush (v := (50 : Int32)) hx hb dX12_isCome_35 (by decide) ?_
  obtain ⟨t6, ht6, h⟩ := Option.bind_eq_some_iff.mp h
  refine xr_stI X O ht6 dX12_isCome_37 (fun H locs O => ?_)
  refine lv_iconst (v := (1 : Int32)) hx hb dX12_isCome_38 (by decide) ?_
  refine lv_istore_n (lv' := [(2, .int (1 : Int32)), (0, .ref (κ.1 + v0)), (1, .int v1)]) hx hb dX12_isCome_39 rfl hl (by decide) rfl (fun ls hl => ?_)
  refine lv_iconst (v := (0 : Int32)) hx hb dX12_isCome_40 (by decide) ?_
  refine lv_istore_n (lv' := [(3, .int (0 : Int32)), (2, .int (1 : Int32)), (0, .ref (κ.1 + v0)), (1, .int v1)]) hx hb dX12_isCome_41 rfl hl (by decide) rfl (fun ls hl => ?_)
  exact F_X12_isCome_42_ok X hr hlk v0 v1 (1 : Int32) (0 : Int32) t6 _ h hK H locs ls O (lv_sub hl [2, 3, 1, 0] rfl)
set_option maxRecDepth 100000 in
set_option maxHeartbeats 4000000 in
theorem F_X12_isCome_2_bok (X : xX p s m args c cX12_isCome 5 RX12 κ) (hr : meth.sig.returnType = (some .boolean)) (hlk : meth.locks = false) {ro : Int32} {mo : xM} (v0 : Nat) (v1 : Int32) (v2 : Int32) {W2 : Int32 × xM → Prop} (hW2 : ∀ (v2 : Int32) (M : xM), W2 (v2, M) → ∀ (H : Heap) (locs : List Loc) (ls : Array Slot), xO κ s M H locs → lv_has ls 5 [(0, .ref (κ.1 + v0)), (1, .int v1), (2, .int v2)] → W p l e (xRm 2 0 0) s m args below meth c H locs 0 0 (xQf below args s 0 0 κ (some (.int ro)) mo) (F0 m 2 ls [])) (M : xM) (x : (Int32 × xM) ⊕ (Int32 × xM)) (h : F_X12_isCome_2b v0 v1 (v2, M) = some x) (hK : (xKl W2 (fun o => o = (ro, mo))) x) (H : Heap) (locs : List Loc) (ls : Array Slot) (O : xO κ s M H locs) (hl : lv_has ls 5 [(0, .ref (κ.1 + v0)), (1, .int v1), (2, .int v2)]) : W p l e (xRm 2 0 0) s m args below meth c H locs 0 0 (xQf below args s 0 0 κ (some (.int ro)) mo) (F0 m 2 ls []) := by
  unfold F_X12_isCome_2b at h
  dsimp only at h
  have hx := X.1
  have hb := X.2.1
  refine lv_iload_n hx hb dX12_isCome_2 rfl (lv_at hl 2 rfl) ?_
  refine lv_bipush (v := (51 : Int32)) hx hb dX12_isCome_3 (by decide) ?_
  refine lv_icmp_ge (tgt := 21) hx hb dX12_isCome_5 (by decide) (fun hc5 => ?_) (fun hc5 => ?_)
  · rw [if_pos hc5] at h
    obtain ⟨_, hw0, ew0⟩ := Option.map_eq_some_iff.mp h
    rw [← ew0] at hK
    have h := hw0
    exact F_X12_isCome_21_ok X hr hlk v0 v1 M _ h hK H locs ls O (lv_sub hl [0, 1] rfl)
  rw [if_neg hc5] at h
  refine lv_aload_n hx hb dX12_isCome_8 rfl (lv_at hl 0 rfl) ?_
  obtain ⟨t1, ht1, h⟩ := Option.bind_eq_some_iff.mp h
  refine xr_getP X O ht1 fl_X12_48 dX12_isCome_9 ?_
  refine lv_iload_n hx hb dX12_isCome_12 rfl (lv_at hl 2 rfl) ?_
  refine lv_iconst (v := (-1 : Int32)) hx hb dX12_isCome_13 (by decide) ?_
  obtain ⟨t2, ht2, h⟩ := Option.bind_eq_some_iff.mp h
  refine xr_stI X O ht2 dX12_isCome_14 (fun H locs O => ?_)
  refine lv_iinc (v := (v2 + 1)) (lv' := [(2, .int (v2 + 1)), (0, .ref (κ.1 + v0)), (1, .int v1)]) hx hb dX12_isCome_15 hl (k := 2) rfl rfl (by decide) rfl (fun ls hl => ?_)
  refine lv_goto (tgt := 2) hx hb dX12_isCome_18 (by decide) ?_
  rw [← Option.some.inj h] at hK
  exact hW2 (v2 + 1) t2 hK H locs ls O (lv_sub hl [1, 2, 0] rfl)
set_option maxRecDepth 100000 in
set_option maxHeartbeats 4000000 in
theorem F_X12_isCome_2_ok (X : xX p s m args c cX12_isCome 5 RX12 κ) (hr : meth.sig.returnType = (some .boolean)) (hlk : meth.locks = false) {ro : Int32} {mo : xM} (v0 : Nat) (v1 : Int32) (v2 : Int32) (M : xM) (x : Int32 × xM) (h : F_X12_isCome_2 v0 v1 v2 M = some x) (hK : (fun o => o = (ro, mo)) x) (H : Heap) (locs : List Loc) (ls : Array Slot) (O : xO κ s M H locs) (hl : lv_has ls 5 [(0, .ref (κ.1 + v0)), (1, .int v1), (2, .int v2)]) : W p l e (xRm 2 0 0) s m args below meth c H locs 0 0 (xQf below args s 0 0 κ (some (.int ro)) mo) (F0 m 2 ls []) := by
  refine xit_K (Wh := fun x => ∀ (H : Heap) (locs : List Loc) (ls : Array Slot), xO κ s x.2 H locs → lv_has ls 5 [(0, .ref (κ.1 + v0)), (1, .int v1), (2, .int x.1)] → W p l e (xRm 2 0 0) s m args below meth c H locs 0 0 (xQf below args s 0 0 κ (some (.int ro)) mo) (F0 m 2 ls [])) (Kp := (fun o => o = (ro, mo))) ?_ xFU (v2, M) x h hK H locs ls O hl
  intro y x h hK H locs ls O hl
  exact F_X12_isCome_2_bok X hr hlk v0 v1 y.1 (fun _ _ hw => hw) y.2 x h hK H locs ls O hl
set_option maxRecDepth 100000 in
set_option maxHeartbeats 4000000 in
theorem T_X12_isCome (l : Launch) (κ : xQ) (a0 : Nat) (a1 : Int32) (M : xM) (ro : Int32) (mo : xM) (h : F_X12_isCome a0 a1 M = some (ro, mo)) : xC l yX12_isCome cX12_isCome 5 (some .boolean) 2 0 0 κ [.ref (κ.1 + a0), .int a1] M (some (.int ro)) mo := by
  refine xC_of rfl (Nat.le_of_ble_eq_true rfl) fun p e s m args below meth c X hr hlk hnm H locs ls O hl => ?_
  have X : xX p s m args c cX12_isCome 5 RX12 κ := X
  have hl : lv_has ls 5 [(0, .ref (κ.1 + a0)), (1, .int a1)] := hl
  have hx := X.1
  have hb := X.2.1
  obtain ⟨x, hx0⟩ : ∃ x, (ro, mo) = x := ⟨_, rfl⟩
  rw [hx0] at h
  have hK : x = (ro, mo) := hx0.symm
  unfold F_X12_isCome at h
  refine lv_iconst (v := (0 : Int32)) hx hb dX12_isCome_0 (by decide) ?_
  refine lv_istore_n (lv' := [(2, .int (0 : Int32)), (0, .ref (κ.1 + a0)), (1, .int a1)]) hx hb dX12_isCome_1 rfl hl (by decide) rfl (fun ls hl => ?_)
  exact F_X12_isCome_2_ok X hr hlk a0 a1 (0 : Int32) M _ h hK H locs ls O (lv_sub hl [1, 2, 0] rfl)
def F_X12_leastFor_85 (v0 : Nat) (v3 : Int32) (v4 : Int32) (v6 : Int32) (s0 : Int32) (M : xM) : Option ((Int32 × Int32 × xM) ⊕ ((Int32 × xM) ⊕ (Int32 × xM))) :=
(xgP M v0 12 26).bind fun t27 =>
(xaI M 20 t27 v6).bind fun t28 =>
some (.inl (s0, t28, M))
def F_X12_leastFor_168 (v0 : Nat) (v3 : Int32) (v4 : Int32) (v5 : Int32) (M : xM) : Option ((Int32 × xM) ⊕ (Int32 × xM)) :=
(some ((v3 + v5))).bind fun t26 =>
some (.inl (t26, M))
def F_X12_leastFor_103b (v0 : Nat) (v3 : Int32) (v4 : Int32) (v5 : Int32) : (Int32 × xM) → Option ((Int32 × xM) ⊕ ((Int32 × xM) ⊕ (Int32 × xM))) := fun ⟨v6, M⟩ =>
if v6 = (50 : Int32) then (
(F_X12_leastFor_168 v0 v3 v4 v5 M).map Sum.inr)
else (
(xgP M v0 12 25).bind fun t14 =>
(xgP M v0 12 26).bind fun t15 =>
(xaI M 20 t15 v6).bind fun t16 =>
(xaI M 20 t14 (((51 : Int32) * t16) + v6)).bind fun t17 =>
(xsI M t14 (((51 : Int32) * t16) + v6) (t17 - v5)).bind fun t18 =>
(xgP t18 v0 12 25).bind fun t19 =>
(xgP t18 v0 12 26).bind fun t20 =>
(xaI t18 20 t20 v6).bind fun t21 =>
(xaI t18 20 t19 (((51 : Int32) * v6) + t21)).bind fun t22 =>
(xsI t18 t19 (((51 : Int32) * v6) + t21) (t22 + v5)).bind fun t23 =>
(xgP t23 v0 12 26).bind fun t24 =>
(xaI t23 20 t24 v6).bind fun t25 =>
some (.inl (t25, t23)))
def F_X12_leastFor_103 (v0 : Nat) (v3 : Int32) (v4 : Int32) (v5 : Int32) (v6 : Int32) (M : xM) : Option ((Int32 × xM) ⊕ (Int32 × xM)) := xit (F_X12_leastFor_103b v0 v3 v4 v5) xFU (v6, M)
def F_X12_leastFor_99 (v0 : Nat) (v3 : Int32) (v4 : Int32) (v5 : Int32) (M : xM) : Option ((Int32 × xM) ⊕ (Int32 × xM)) :=
F_X12_leastFor_103 v0 v3 v4 v5 v4 M
def F_X12_leastFor_32b (v0 : Nat) (v3 : Int32) (v4 : Int32) : (Int32 × Int32 × xM) → Option ((Int32 × Int32 × xM) ⊕ ((Int32 × xM) ⊕ (Int32 × xM))) := fun ⟨v5, v6, M⟩ =>
if v6 = (50 : Int32) then (
(F_X12_leastFor_99 v0 v3 v4 v5 M).map Sum.inr)
else (
(xgP M v0 12 25).bind fun t6 =>
(xgP M v0 12 26).bind fun t7 =>
(xaI M 20 t7 v6).bind fun t8 =>
(xaI M 20 t6 (((51 : Int32) * t8) + v6)).bind fun t9 =>
if v5 ≤ t9 then (
F_X12_leastFor_85 v0 v3 v4 v6 v5 M)
else (
(xgP M v0 12 25).bind fun t10 =>
(xgP M v0 12 26).bind fun t11 =>
(xaI M 20 t11 v6).bind fun t12 =>
(xaI M 20 t10 (((51 : Int32) * t12) + v6)).bind fun t13 =>
F_X12_leastFor_85 v0 v3 v4 v6 t13 M))
def F_X12_leastFor_32 (v0 : Nat) (v3 : Int32) (v4 : Int32) (v5 : Int32) (v6 : Int32) (M : xM) : Option ((Int32 × xM) ⊕ (Int32 × xM)) := xit (F_X12_leastFor_32b v0 v3 v4) xFU (v5, v6, M)
def F_X12_leastFor_176 (v3 : Int32) (M : xM) : Option (Int32 × xM) :=
some (v3, M)
def F_X12_leastFor_14b (v0 : Nat) (v4 : Int32) : (Int32 × xM) → Option ((Int32 × xM) ⊕ (Int32 × xM)) := fun ⟨v3, M⟩ =>
(xck M v0 12).bind fun _ =>
(F_X12_isCome v0 v4 M).bind fun t5 =>
if t5.1 = 0 then (
(F_X12_leastFor_176 v3 t5.2).map Sum.inr)
else (
F_X12_leastFor_32 v0 v3 v4 (268435456 : Int32) v4 t5.2)
def F_X12_leastFor_14 (v0 : Nat) (v3 : Int32) (v4 : Int32) (M : xM) : Option (Int32 × xM) := xit (F_X12_leastFor_14b v0 v4) xFU (v3, M)
def F_X12_leastFor (a0 : Nat) (a1 : Int32) (a2 : Int32) (M : xM) : Option (Int32 × xM) :=
(xck M a0 12).bind fun _ =>
(F_X12_laysRoom a0 a2 M).bind fun t2 =>
(some ((((2 : Int32) * a1) + (1 : Int32)))).bind fun t3 =>
F_X12_leastFor_14 a0 (0 : Int32) t3 t2
set_option maxRecDepth 100000 in
set_option maxHeartbeats 4000000 in
theorem F_X12_leastFor_85_ok (X : xX p s m args c cX12_leastFor 7 RX12 κ) (hr : meth.sig.returnType = (some .int)) (hlk : meth.locks = false) {ro : Int32} {mo : xM} (v0 : Nat) (v3 : Int32) (v4 : Int32) (v6 : Int32) (s0 : Int32) {W14 : Int32 × xM → Prop} (hW14 : ∀ (v3 : Int32) (M : xM), W14 (v3, M) → ∀ (H : Heap) (locs : List Loc) (ls : Array Slot), xO κ s M H locs → lv_has ls 7 [(0, .ref (κ.1 + v0)), (3, .int v3), (4, .int v4)] → W p l e (xRm 6 0 0) s m args below meth c H locs 0 0 (xQf below args s 0 0 κ (some (.int ro)) mo) (F0 m 14 ls [])) {W32 : Int32 × Int32 × xM → Prop} (hW32 : ∀ (v5 : Int32) (v6 : Int32) (M : xM), W32 (v5, v6, M) → ∀ (H : Heap) (locs : List Loc) (ls : Array Slot), xO κ s M H locs → lv_has ls 7 [(0, .ref (κ.1 + v0)), (3, .int v3), (4, .int v4), (5, .int v5), (6, .int v6)] → W p l e (xRm 6 0 0) s m args below meth c H locs 0 0 (xQf below args s 0 0 κ (some (.int ro)) mo) (F0 m 32 ls [])) (M : xM) (x : (Int32 × Int32 × xM) ⊕ ((Int32 × xM) ⊕ (Int32 × xM))) (h : F_X12_leastFor_85 v0 v3 v4 v6 s0 M = some x) (hK : (xKl W32 (xKl W14 (fun o => o = (ro, mo)))) x) (H : Heap) (locs : List Loc) (ls : Array Slot) (O : xO κ s M H locs) (hl : lv_has ls 7 [(0, .ref (κ.1 + v0)), (3, .int v3), (4, .int v4), (6, .int v6)]) : W p l e (xRm 6 0 0) s m args below meth c H locs 0 0 (xQf below args s 0 0 κ (some (.int ro)) mo) (F0 m 85 ls [.int s0]) := by
  unfold F_X12_leastFor_85 at h
  have hx := X.1
  have hb := X.2.1
  refine lv_istore (lv' := [(5, .int s0), (0, .ref (κ.1 + v0)), (3, .int v3), (4, .int v4), (6, .int v6)]) hx hb dX12_leastFor_85 hl (by decide) rfl (fun ls hl => ?_)
  refine lv_aload_n hx hb dX12_leastFor_87 rfl (lv_at hl 1 rfl) ?_
  obtain ⟨t27, ht27, h⟩ := Option.bind_eq_some_iff.mp h
  refine xr_getP X O ht27 fl_X12_48 dX12_leastFor_88 ?_
  refine lv_iload hx hb dX12_leastFor_91 (lv_at hl 4 rfl) ?_
  obtain ⟨t28, ht28, h⟩ := Option.bind_eq_some_iff.mp h
  refine xr_aldI X O ht28 dX12_leastFor_93 ?_
  refine lv_istore (lv' := [(6, .int t28), (5, .int s0), (0, .ref (κ.1 + v0)), (3, .int v3), (4, .int v4)]) hx hb dX12_leastFor_94 hl (by decide) rfl (fun ls hl => ?_)
  refine lv_goto (tgt := 32) hx hb dX12_leastFor_96 (by decide) ?_
  rw [← Option.some.inj h] at hK
  exact hW32 s0 t28 M hK H locs ls O (lv_sub hl [2, 3, 4, 1, 0] rfl)
set_option maxRecDepth 100000 in
set_option maxHeartbeats 4000000 in
theorem F_X12_leastFor_168_ok (X : xX p s m args c cX12_leastFor 7 RX12 κ) (hr : meth.sig.returnType = (some .int)) (hlk : meth.locks = false) {ro : Int32} {mo : xM} (v0 : Nat) (v3 : Int32) (v4 : Int32) (v5 : Int32) {W14 : Int32 × xM → Prop} (hW14 : ∀ (v3 : Int32) (M : xM), W14 (v3, M) → ∀ (H : Heap) (locs : List Loc) (ls : Array Slot), xO κ s M H locs → lv_has ls 7 [(0, .ref (κ.1 + v0)), (3, .int v3), (4, .int v4)] → W p l e (xRm 6 0 0) s m args below meth c H locs 0 0 (xQf below args s 0 0 κ (some (.int ro)) mo) (F0 m 14 ls [])) (M : xM) (x : (Int32 × xM) ⊕ (Int32 × xM)) (h : F_X12_leastFor_168 v0 v3 v4 v5 M = some x) (hK : (xKl W14 (fun o => o = (ro, mo))) x) (H : Heap) (locs : List Loc) (ls : Array Slot) (O : xO κ s M H locs) (hl : lv_has ls 7 [(0, .ref (κ.1 + v0)), (3, .int v3), (4, .int v4), (5, .int v5)]) : W p l e (xRm 6 0 0) s m args below meth c H locs 0 0 (xQf below args s 0 0 κ (some (.int ro)) mo) (F0 m 168 ls []) := by
  unfold F_X12_leastFor_168 at h
  have hx := X.1
  have hb := X.2.1
  refine lv_iload_n hx hb dX12_leastFor_168 rfl (lv_at hl 1 rfl) ?_
  refine lv_iload hx hb dX12_leastFor_169 (lv_at hl 3 rfl) ?_
  refine lv_iadd hx hb dX12_leastFor_171 ?_
  obtain ⟨t26, ht26, h⟩ := Option.bind_eq_some_iff.mp h
  refine xr_top (w := .int t26) (by rw [Option.some.inj ht26]) ?_
  refine lv_istore_n (lv' := [(3, .int t26), (0, .ref (κ.1 + v0)), (4, .int v4), (5, .int v5)]) hx hb dX12_leastFor_172 rfl hl (by decide) rfl (fun ls hl => ?_)
  refine lv_goto (tgt := 14) hx hb dX12_leastFor_173 (by decide) ?_
  rw [← Option.some.inj h] at hK
  exact hW14 t26 M hK H locs ls O (lv_sub hl [1, 0, 2] rfl)
set_option maxRecDepth 100000 in
set_option maxHeartbeats 4000000 in
theorem F_X12_leastFor_103_bok (X : xX p s m args c cX12_leastFor 7 RX12 κ) (hr : meth.sig.returnType = (some .int)) (hlk : meth.locks = false) {ro : Int32} {mo : xM} (v0 : Nat) (v3 : Int32) (v4 : Int32) (v5 : Int32) (v6 : Int32) {W14 : Int32 × xM → Prop} (hW14 : ∀ (v3 : Int32) (M : xM), W14 (v3, M) → ∀ (H : Heap) (locs : List Loc) (ls : Array Slot), xO κ s M H locs → lv_has ls 7 [(0, .ref (κ.1 + v0)), (3, .int v3), (4, .int v4)] → W p l e (xRm 6 0 0) s m args below meth c H locs 0 0 (xQf below args s 0 0 κ (some (.int ro)) mo) (F0 m 14 ls [])) {W103 : Int32 × xM → Prop} (hW103 : ∀ (v6 : Int32) (M : xM), W103 (v6, M) → ∀ (H : Heap) (locs : List Loc) (ls : Array Slot), xO κ s M H locs → lv_has ls 7 [(0, .ref (κ.1 + v0)), (3, .int v3), (4, .int v4), (5, .int v5), (6, .int v6)] → W p l e (xRm 6 0 0) s m args below meth c H locs 0 0 (xQf below args s 0 0 κ (some (.int ro)) mo) (F0 m 103 ls [])) (M : xM) (x : (Int32 × xM) ⊕ ((Int32 × xM) ⊕ (Int32 × xM))) (h : F_X12_leastFor_103b v0 v3 v4 v5 (v6, M) = some x) (hK : (xKl W103 (xKl W14 (fun o => o = (ro, mo)))) x) (H : Heap) (locs : List Loc) (ls : Array Slot) (O : xO κ s M H locs) (hl : lv_has ls 7 [(0, .ref (κ.1 + v0)), (3, .int v3), (4, .int v4), (5, .int v5), (6, .int v6)]) : W p l e (xRm 6 0 0) s m args below meth c H locs 0 0 (xQf below args s 0 0 κ (some (.int ro)) mo) (F0 m 103 ls []) := by
  unfold F_X12_leastFor_103b at h
  dsimp only at h
  have hx := X.1
  have hb := X.2.1
  refine lv_iload hx hb dX12_leastFor_103 (lv_at hl 4 rfl) ?_
  refine lv_bipush (v := (50 : Int32)) hx hb dX12_leastFor_105 (by decide) ?_
  refine lv_icmp_eq (tgt := 168) hx hb dX12_leastFor_107 (by decide) (fun hc107 => ?_) (fun hc107 => ?_)
  · rw [if_pos hc107] at h
    obtain ⟨_, hw0, ew0⟩ := Option.map_eq_some_iff.mp h
    rw [← ew0] at hK
    have h := hw0
    exact F_X12_leastFor_168_ok X hr hlk v0 v3 v4 v5 hW14 M _ h hK H locs ls O (lv_sub hl [0, 1, 2, 3] rfl)
  rw [if_neg hc107] at h
  refine lv_aload_n hx hb dX12_leastFor_110 rfl (lv_at hl 0 rfl) ?_
  obtain ⟨t14, ht14, h⟩ := Option.bind_eq_some_iff.mp h
  refine xr_getP X O ht14 fl_X12_45 dX12_leastFor_111 ?_
  refine lv_bipush (v := (51 : Int32)) hx hb dX12_leastFor_114 (by decide) ?_
  refine lv_aload_n hx hb dX12_leastFor_116 rfl (lv_at hl 0 rfl) ?_
  obtain ⟨t15, ht15, h⟩ := Option.bind_eq_some_iff.mp h
  refine xr_getP X O ht15 fl_X12_48 dX12_leastFor_117 ?_
  refine lv_iload hx hb dX12_leastFor_120 (lv_at hl 4 rfl) ?_
  obtain ⟨t16, ht16, h⟩ := Option.bind_eq_some_iff.mp h
  refine xr_aldI X O ht16 dX12_leastFor_122 ?_
  refine lv_imul hx hb dX12_leastFor_123 ?_
  refine lv_iload hx hb dX12_leastFor_124 (lv_at hl 4 rfl) ?_
  refine lv_iadd hx hb dX12_leastFor_126 ?_
  refine lv_dup2_11 hx hb dX12_leastFor_127 rfl rfl ?_
  obtain ⟨t17, ht17, h⟩ := Option.bind_eq_some_iff.mp h
  refine xr_aldI X O ht17 dX12_leastFor_128 ?_
  refine lv_iload hx hb dX12_leastFor_129 (lv_at hl 3 rfl) ?_
  refine lv_isub hx hb dX12_leastFor_131 ?_
  obtain ⟨t18, ht18, h⟩ := Option.bind_eq_some_iff.mp h
  refine xr_stI X O ht18 dX12_leastFor_132 (fun H locs O => ?_)
  refine lv_aload_n hx hb dX12_leastFor_133 rfl (lv_at hl 0 rfl) ?_
  obtain ⟨t19, ht19, h⟩ := Option.bind_eq_some_iff.mp h
  refine xr_getP X O ht19 fl_X12_45 dX12_leastFor_134 ?_
  refine lv_bipush (v := (51 : Int32)) hx hb dX12_leastFor_137 (by decide) ?_
  refine lv_iload hx hb dX12_leastFor_139 (lv_at hl 4 rfl) ?_
  refine lv_imul hx hb dX12_leastFor_141 ?_
  refine lv_aload_n hx hb dX12_leastFor_142 rfl (lv_at hl 0 rfl) ?_
  obtain ⟨t20, ht20, h⟩ := Option.bind_eq_some_iff.mp h
  refine xr_getP X O ht20 fl_X12_48 dX12_leastFor_143 ?_
  refine lv_iload hx hb dX12_leastFor_146 (lv_at hl 4 rfl) ?_
  obtain ⟨t21, ht21, h⟩ := Option.bind_eq_some_iff.mp h
  refine xr_aldI X O ht21 dX12_leastFor_148 ?_
  refine lv_iadd hx hb dX12_leastFor_149 ?_
  refine lv_dup2_11 hx hb dX12_leastFor_150 rfl rfl ?_
  obtain ⟨t22, ht22, h⟩ := Option.bind_eq_some_iff.mp h
  refine xr_aldI X O ht22 dX12_leastFor_151 ?_
  refine lv_iload hx hb dX12_leastFor_152 (lv_at hl 3 rfl) ?_
  refine lv_iadd hx hb dX12_leastFor_154 ?_
  obtain ⟨t23, ht23, h⟩ := Option.bind_eq_some_iff.mp h
  refine xr_stI X O ht23 dX12_leastFor_155 (fun H locs O => ?_)
  refine lv_aload_n hx hb dX12_leastFor_156 rfl (lv_at hl 0 rfl) ?_
  obtain ⟨t24, ht24, h⟩ := Option.bind_eq_some_iff.mp h
  refine xr_getP X O ht24 fl_X12_48 dX12_leastFor_157 ?_
  refine lv_iload hx hb dX12_leastFor_160 (lv_at hl 4 rfl) ?_
  obtain ⟨t25, ht25, h⟩ := Option.bind_eq_some_iff.mp h
  refine xr_aldI X O ht25 dX12_leastFor_162 ?_
  refine lv_istore (lv' := [(6, .int t25), (0, .ref (κ.1 + v0)), (3, .int v3), (4, .int v4), (5, .int v5)]) hx hb dX12_leastFor_163 hl (by decide) rfl (fun ls hl => ?_)
  refine lv_goto (tgt := 103) hx hb dX12_leastFor_165 (by decide) ?_
  rw [← Option.some.inj h] at hK
  exact hW103 t25 t23 hK H locs ls O (lv_sub hl [1, 2, 3, 4, 0] rfl)
set_option maxRecDepth 100000 in
set_option maxHeartbeats 4000000 in
theorem F_X12_leastFor_103_ok (X : xX p s m args c cX12_leastFor 7 RX12 κ) (hr : meth.sig.returnType = (some .int)) (hlk : meth.locks = false) {ro : Int32} {mo : xM} (v0 : Nat) (v3 : Int32) (v4 : Int32) (v5 : Int32) (v6 : Int32) {W14 : Int32 × xM → Prop} (hW14 : ∀ (v3 : Int32) (M : xM), W14 (v3, M) → ∀ (H : Heap) (locs : List Loc) (ls : Array Slot), xO κ s M H locs → lv_has ls 7 [(0, .ref (κ.1 + v0)), (3, .int v3), (4, .int v4)] → W p l e (xRm 6 0 0) s m args below meth c H locs 0 0 (xQf below args s 0 0 κ (some (.int ro)) mo) (F0 m 14 ls [])) (M : xM) (x : (Int32 × xM) ⊕ (Int32 × xM)) (h : F_X12_leastFor_103 v0 v3 v4 v5 v6 M = some x) (hK : (xKl W14 (fun o => o = (ro, mo))) x) (H : Heap) (locs : List Loc) (ls : Array Slot) (O : xO κ s M H locs) (hl : lv_has ls 7 [(0, .ref (κ.1 + v0)), (3, .int v3), (4, .int v4), (5, .int v5), (6, .int v6)]) : W p l e (xRm 6 0 0) s m args below meth c H locs 0 0 (xQf below args s 0 0 κ (some (.int ro)) mo) (F0 m 103 ls []) := by
  refine xit_K (Wh := fun x => ∀ (H : Heap) (locs : List Loc) (ls : Array Slot), xO κ s x.2 H locs → lv_has ls 7 [(0, .ref (κ.1 + v0)), (3, .int v3), (4, .int v4), (5, .int v5), (6, .int x.1)] → W p l e (xRm 6 0 0) s m args below meth c H locs 0 0 (xQf below args s 0 0 κ (some (.int ro)) mo) (F0 m 103 ls [])) (Kp := (xKl W14 (fun o => o = (ro, mo)))) ?_ xFU (v6, M) x h hK H locs ls O hl
  intro y x h hK H locs ls O hl
  exact F_X12_leastFor_103_bok X hr hlk v0 v3 v4 v5 y.1 hW14 (fun _ _ hw => hw) y.2 x h hK H locs ls O hl
set_option maxRecDepth 100000 in
set_option maxHeartbeats 4000000 in
theorem F_X12_leastFor_99_ok (X : xX p s m args c cX12_leastFor 7 RX12 κ) (hr : meth.sig.returnType = (some .int)) (hlk : meth.locks = false) {ro : Int32} {mo : xM} (v0 : Nat) (v3 : Int32) (v4 : Int32) (v5 : Int32) {W14 : Int32 × xM → Prop} (hW14 : ∀ (v3 : Int32) (M : xM), W14 (v3, M) → ∀ (H : Heap) (locs : List Loc) (ls : Array Slot), xO κ s M H locs → lv_has ls 7 [(0, .ref (κ.1 + v0)), (3, .int v3), (4, .int v4)] → W p l e (xRm 6 0 0) s m args below meth c H locs 0 0 (xQf below args s 0 0 κ (some (.int ro)) mo) (F0 m 14 ls [])) (M : xM) (x : (Int32 × xM) ⊕ (Int32 × xM)) (h : F_X12_leastFor_99 v0 v3 v4 v5 M = some x) (hK : (xKl W14 (fun o => o = (ro, mo))) x) (H : Heap) (locs : List Loc) (ls : Array Slot) (O : xO κ s M H locs) (hl : lv_has ls 7 [(0, .ref (κ.1 + v0)), (3, .int v3), (4, .int v4), (5, .int v5)]) : W p l e (xRm 6 0 0) s m args below meth c H locs 0 0 (xQf below args s 0 0 κ (some (.int ro)) mo) (F0 m 99 ls []) := by
  unfold F_X12_leastFor_99 at h
  have hx := X.1
  have hb := X.2.1
  refine lv_iload hx hb dX12_leastFor_99 (lv_at hl 2 rfl) ?_
  refine lv_istore (lv' := [(6, .int v4), (0, .ref (κ.1 + v0)), (3, .int v3), (4, .int v4), (5, .int v5)]) hx hb dX12_leastFor_101 hl (by decide) rfl (fun ls hl => ?_)
  exact F_X12_leastFor_103_ok X hr hlk v0 v3 v4 v5 v4 hW14 M _ h hK H locs ls O (lv_sub hl [1, 2, 3, 4, 0] rfl)
set_option maxRecDepth 100000 in
set_option maxHeartbeats 4000000 in
theorem F_X12_leastFor_32_bok (X : xX p s m args c cX12_leastFor 7 RX12 κ) (hr : meth.sig.returnType = (some .int)) (hlk : meth.locks = false) {ro : Int32} {mo : xM} (v0 : Nat) (v3 : Int32) (v4 : Int32) (v5 : Int32) (v6 : Int32) {W14 : Int32 × xM → Prop} (hW14 : ∀ (v3 : Int32) (M : xM), W14 (v3, M) → ∀ (H : Heap) (locs : List Loc) (ls : Array Slot), xO κ s M H locs → lv_has ls 7 [(0, .ref (κ.1 + v0)), (3, .int v3), (4, .int v4)] → W p l e (xRm 6 0 0) s m args below meth c H locs 0 0 (xQf below args s 0 0 κ (some (.int ro)) mo) (F0 m 14 ls [])) {W32 : Int32 × Int32 × xM → Prop} (hW32 : ∀ (v5 : Int32) (v6 : Int32) (M : xM), W32 (v5, v6, M) → ∀ (H : Heap) (locs : List Loc) (ls : Array Slot), xO κ s M H locs → lv_has ls 7 [(0, .ref (κ.1 + v0)), (3, .int v3), (4, .int v4), (5, .int v5), (6, .int v6)] → W p l e (xRm 6 0 0) s m args below meth c H locs 0 0 (xQf below args s 0 0 κ (some (.int ro)) mo) (F0 m 32 ls [])) (M : xM) (x : (Int32 × Int32 × xM) ⊕ ((Int32 × xM) ⊕ (Int32 × xM))) (h : F_X12_leastFor_32b v0 v3 v4 (v5, v6, M) = some x) (hK : (xKl W32 (xKl W14 (fun o => o = (ro, mo)))) x) (H : Heap) (locs : List Loc) (ls : Array Slot) (O : xO κ s M H locs) (hl : lv_has ls 7 [(0, .ref (κ.1 + v0)), (3, .int v3), (4, .int v4), (5, .int v5), (6, .int v6)]) : W p l e (xRm 6 0 0) s m args below meth c H locs 0 0 (xQf below args s 0 0 κ (some (.int ro)) mo) (F0 m 32 ls []) := by
  unfold F_X12_leastFor_32b at h
  dsimp only at h
  have hx := X.1
  have hb := X.2.1
  refine lv_iload hx hb dX12_leastFor_32 (lv_at hl 4 rfl) ?_
  refine lv_bipush (v := (50 : Int32)) hx hb dX12_leastFor_34 (by decide) ?_
  refine lv_icmp_eq (tgt := 99) hx hb dX12_leastFor_36 (by decide) (fun hc36 => ?_) (fun hc36 => ?_)
  · rw [if_pos hc36] at h
    obtain ⟨_, hw0, ew0⟩ := Option.map_eq_some_iff.mp h
    rw [← ew0] at hK
    have h := hw0
    exact F_X12_leastFor_99_ok X hr hlk v0 v3 v4 v5 hW14 M _ h hK H locs ls O (lv_sub hl [0, 1, 2, 3] rfl)
  rw [if_neg hc36] at h
  refine lv_aload_n hx hb dX12_leastFor_39 rfl (lv_at hl 0 rfl) ?_
  obtain ⟨t6, ht6, h⟩ := Option.bind_eq_some_iff.mp h
  refine xr_getP X O ht6 fl_X12_45 dX12_leastFor_40 ?_
  refine lv_bipush (v := (51 : Int32)) hx hb dX12_leastFor_43 (by decide) ?_
  refine lv_aload_n hx hb dX12_leastFor_45 rfl (lv_at hl 0 rfl) ?_
  obtain ⟨t7, ht7, h⟩ := Option.bind_eq_some_iff.mp h
  refine xr_getP X O ht7 fl_X12_48 dX12_leastFor_46 ?_
  refine lv_iload hx hb dX12_leastFor_49 (lv_at hl 4 rfl) ?_
  obtain ⟨t8, ht8, h⟩ := Option.bind_eq_some_iff.mp h
  refine xr_aldI X O ht8 dX12_leastFor_51 ?_
  refine lv_imul hx hb dX12_leastFor_52 ?_
  refine lv_iload hx hb dX12_leastFor_53 (lv_at hl 4 rfl) ?_
  refine lv_iadd hx hb dX12_leastFor_55 ?_
  obtain ⟨t9, ht9, h⟩ := Option.bind_eq_some_iff.mp h
  refine xr_aldI X O ht9 dX12_leastFor_56 ?_
  refine lv_iload hx hb dX12_leastFor_57 (lv_at hl 3 rfl) ?_
  refine lv_icmp_ge (tgt := 83) hx hb dX12_leastFor_59 (by decide) (fun hc59 => ?_) (fun hc59 => ?_)
  · rw [if_pos hc59] at h
    refine lv_iload hx hb dX12_leastFor_83 (lv_at hl 3 rfl) ?_
    exact F_X12_leastFor_85_ok X hr hlk v0 v3 v4 v6 v5 hW14 hW32 M _ h hK H locs ls O (lv_sub hl [0, 1, 2, 4] rfl)
  rw [if_neg hc59] at h
  refine lv_aload_n hx hb dX12_leastFor_62 rfl (lv_at hl 0 rfl) ?_
  obtain ⟨t10, ht10, h⟩ := Option.bind_eq_some_iff.mp h
  refine xr_getP X O ht10 fl_X12_45 dX12_leastFor_63 ?_
  refine lv_bipush (v := (51 : Int32)) hx hb dX12_leastFor_66 (by decide) ?_
  refine lv_aload_n hx hb dX12_leastFor_68 rfl (lv_at hl 0 rfl) ?_
  obtain ⟨t11, ht11, h⟩ := Option.bind_eq_some_iff.mp h
  refine xr_getP X O ht11 fl_X12_48 dX12_leastFor_69 ?_
  refine lv_iload hx hb dX12_leastFor_72 (lv_at hl 4 rfl) ?_
  obtain ⟨t12, ht12, h⟩ := Option.bind_eq_some_iff.mp h
  refine xr_aldI X O ht12 dX12_leastFor_74 ?_
  refine lv_imul hx hb dX12_leastFor_75 ?_
  refine lv_iload hx hb dX12_leastFor_76 (lv_at hl 4 rfl) ?_
  refine lv_iadd hx hb dX12_leastFor_78 ?_
  obtain ⟨t13, ht13, h⟩ := Option.bind_eq_some_iff.mp h
  refine xr_aldI X O ht13 dX12_leastFor_79 ?_
  refine lv_goto (tgt := 85) hx hb dX12_leastFor_80 (by decide) ?_
  exact F_X12_leastFor_85_ok X hr hlk v0 v3 v4 v6 t13 hW14 hW32 M _ h hK H locs ls O (lv_sub hl [0, 1, 2, 4] rfl)
set_option maxRecDepth 100000 in
set_option maxHeartbeats 4000000 in
theorem F_X12_leastFor_32_ok (X : xX p s m args c cX12_leastFor 7 RX12 κ) (hr : meth.sig.returnType = (some .int)) (hlk : meth.locks = false) {ro : Int32} {mo : xM} (v0 : Nat) (v3 : Int32) (v4 : Int32) (v5 : Int32) (v6 : Int32) {W14 : Int32 × xM → Prop} (hW14 : ∀ (v3 : Int32) (M : xM), W14 (v3, M) → ∀ (H : Heap) (locs : List Loc) (ls : Array Slot), xO κ s M H locs → lv_has ls 7 [(0, .ref (κ.1 + v0)), (3, .int v3), (4, .int v4)] → W p l e (xRm 6 0 0) s m args below meth c H locs 0 0 (xQf below args s 0 0 κ (some (.int ro)) mo) (F0 m 14 ls [])) (M : xM) (x : (Int32 × xM) ⊕ (Int32 × xM)) (h : F_X12_leastFor_32 v0 v3 v4 v5 v6 M = some x) (hK : (xKl W14 (fun o => o = (ro, mo))) x) (H : Heap) (locs : List Loc) (ls : Array Slot) (O : xO κ s M H locs) (hl : lv_has ls 7 [(0, .ref (κ.1 + v0)), (3, .int v3), (4, .int v4), (5, .int v5), (6, .int v6)]) : W p l e (xRm 6 0 0) s m args below meth c H locs 0 0 (xQf below args s 0 0 κ (some (.int ro)) mo) (F0 m 32 ls []) := by
  refine xit_K (Wh := fun x => ∀ (H : Heap) (locs : List Loc) (ls : Array Slot), xO κ s x.2.2 H locs → lv_has ls 7 [(0, .ref (κ.1 + v0)), (3, .int v3), (4, .int v4), (5, .int x.1), (6, .int x.2.1)] → W p l e (xRm 6 0 0) s m args below meth c H locs 0 0 (xQf below args s 0 0 κ (some (.int ro)) mo) (F0 m 32 ls [])) (Kp := (xKl W14 (fun o => o = (ro, mo)))) ?_ xFU (v5, v6, M) x h hK H locs ls O hl
  intro y x h hK H locs ls O hl
  exact F_X12_leastFor_32_bok X hr hlk v0 v3 v4 y.1 y.2.1 hW14 (fun _ _ _ hw => hw) y.2.2 x h hK H locs ls O hl
set_option maxRecDepth 100000 in
set_option maxHeartbeats 4000000 in
theorem F_X12_leastFor_176_ok (X : xX p s m args c cX12_leastFor 7 RX12 κ) (hr : meth.sig.returnType = (some .int)) (hlk : meth.locks = false) {ro : Int32} {mo : xM} (v3 : Int32) (M : xM) (x : Int32 × xM) (h : F_X12_leastFor_176 v3 M = some x) (hK : (fun o => o = (ro, mo)) x) (H : Heap) (locs : List Loc) (ls : Array Slot) (O : xO κ s M H locs) (hl : lv_has ls 7 [(3, .int v3)]) : W p l e (xRm 6 0 0) s m args below meth c H locs 0 0 (xQf below args s 0 0 κ (some (.int ro)) mo) (F0 m 176 ls []) := by
  unfold F_X12_leastFor_176 at h
  have hx := X.1
  have hb := X.2.1
  refine lv_iload_n hx hb dX12_leastFor_176 rfl (lv_at hl 0 rfl) ?_
  rw [← Option.some.inj h] at hK
  have hK : (v3, M) = (ro, mo) := hK
  obtain ⟨hK1, hK2⟩ := Prod.mk.inj hK
  rw [hK2] at O
  refine xr_top (w := .int ro) (by rw [hK1]) ?_
  exact xr_iret X hr hlk O dX12_leastFor_177
set_option maxRecDepth 100000 in
set_option maxHeartbeats 4000000 in
theorem F_X12_leastFor_14_bok (X : xX p s m args c cX12_leastFor 7 RX12 κ) (hr : meth.sig.returnType = (some .int)) (hlk : meth.locks = false) {ro : Int32} {mo : xM} (v0 : Nat) (v3 : Int32) (v4 : Int32) {W14 : Int32 × xM → Prop} (hW14 : ∀ (v3 : Int32) (M : xM), W14 (v3, M) → ∀ (H : Heap) (locs : List Loc) (ls : Array Slot), xO κ s M H locs → lv_has ls 7 [(0, .ref (κ.1 + v0)), (3, .int v3), (4, .int v4)] → W p l e (xRm 6 0 0) s m args below meth c H locs 0 0 (xQf below args s 0 0 κ (some (.int ro)) mo) (F0 m 14 ls [])) (M : xM) (x : (Int32 × xM) ⊕ (Int32 × xM)) (h : F_X12_leastFor_14b v0 v4 (v3, M) = some x) (hK : (xKl W14 (fun o => o = (ro, mo))) x) (H : Heap) (locs : List Loc) (ls : Array Slot) (O : xO κ s M H locs) (hl : lv_has ls 7 [(0, .ref (κ.1 + v0)), (3, .int v3), (4, .int v4)]) : W p l e (xRm 6 0 0) s m args below meth c H locs 0 0 (xQf below args s 0 0 κ (some (.int ro)) mo) (F0 m 14 ls []) := by
  unfold F_X12_leastFor_14b at h
  dsimp only at h
  have hx := X.1
  have hb := X.2.1
  refine lv_aload_n hx hb dX12_leastFor_14 rfl (lv_at hl 0 rfl) ?_
  refine lv_iload hx hb dX12_leastFor_15 (lv_at hl 2 rfl) ?_
  obtain ⟨_, hut4, h⟩ := Option.bind_eq_some_iff.mp h
  obtain ⟨t5, ht5, h⟩ := Option.bind_eq_some_iff.mp h
  refine xr_callV (rest := []) X O (T_X12_isCome l κ v0 v4 M _ _ ht5) lk_X12_389 hut4 (Nat.le_of_ble_eq_true rfl) rfl hl.1 rfl (Nat.le_of_ble_eq_true rfl) dX12_leastFor_17 ⟨Nat.le_of_ble_eq_true rfl, Nat.le_of_ble_eq_true rfl⟩ (fun H locs O => ?_)
  refine W.eq (g2 := F0 m 20 ls [.int t5.1]) rfl ?_
  refine lv_if_eq (tgt := 176) hx hb dX12_leastFor_20 (by decide) (fun hc20 => ?_) (fun hc20 => ?_)
  · rw [if_pos hc20] at h
    obtain ⟨_, hw0, ew0⟩ := Option.map_eq_some_iff.mp h
    rw [← ew0] at hK
    have h := hw0
    exact F_X12_leastFor_176_ok X hr hlk v3 t5.2 _ h hK H locs ls O (lv_sub hl [1] rfl)
  rw [if_neg hc20] at h
  refine lv_ldcw (v := (268435456 : Int32)) hx hb X.2.2.2.1 (X.2.2.2.2.1 _ ct_X12_385) dX12_leastFor_23 ?_
  refine lv_istore (lv' := [(5, .int (268435456 : Int32)), (0, .ref (κ.1 + v0)), (3, .int v3), (4, .int v4)]) hx hb dX12_leastFor_26 hl (by decide) rfl (fun ls hl => ?_)
  refine lv_iload hx hb dX12_leastFor_28 (lv_at hl 3 rfl) ?_
  refine lv_istore (lv' := [(6, .int v4), (5, .int (268435456 : Int32)), (0, .ref (κ.1 + v0)), (3, .int v3), (4, .int v4)]) hx hb dX12_leastFor_30 hl (by decide) rfl (fun ls hl => ?_)
  exact F_X12_leastFor_32_ok X hr hlk v0 v3 v4 (268435456 : Int32) v4 hW14 t5.2 _ h hK H locs ls O (lv_sub hl [2, 3, 4, 1, 0] rfl)
set_option maxRecDepth 100000 in
set_option maxHeartbeats 4000000 in
theorem F_X12_leastFor_14_ok (X : xX p s m args c cX12_leastFor 7 RX12 κ) (hr : meth.sig.returnType = (some .int)) (hlk : meth.locks = false) {ro : Int32} {mo : xM} (v0 : Nat) (v3 : Int32) (v4 : Int32) (M : xM) (x : Int32 × xM) (h : F_X12_leastFor_14 v0 v3 v4 M = some x) (hK : (fun o => o = (ro, mo)) x) (H : Heap) (locs : List Loc) (ls : Array Slot) (O : xO κ s M H locs) (hl : lv_has ls 7 [(0, .ref (κ.1 + v0)), (3, .int v3), (4, .int v4)]) : W p l e (xRm 6 0 0) s m args below meth c H locs 0 0 (xQf below args s 0 0 κ (some (.int ro)) mo) (F0 m 14 ls []) := by
  refine xit_K (Wh := fun x => ∀ (H : Heap) (locs : List Loc) (ls : Array Slot), xO κ s x.2 H locs → lv_has ls 7 [(0, .ref (κ.1 + v0)), (3, .int x.1), (4, .int v4)] → W p l e (xRm 6 0 0) s m args below meth c H locs 0 0 (xQf below args s 0 0 κ (some (.int ro)) mo) (F0 m 14 ls [])) (Kp := (fun o => o = (ro, mo))) ?_ xFU (v3, M) x h hK H locs ls O hl
  intro y x h hK H locs ls O hl
  exact F_X12_leastFor_14_bok X hr hlk v0 y.1 v4 (fun _ _ hw => hw) y.2 x h hK H locs ls O hl
set_option maxRecDepth 100000 in
set_option maxHeartbeats 4000000 in
theorem T_X12_leastFor (l : Launch) (κ : xQ) (a0 : Nat) (a1 : Int32) (a2 : Int32) (M : xM) (ro : Int32) (mo : xM) (h : F_X12_leastFor a0 a1 a2 M = some (ro, mo)) : xC l yX12_leastFor cX12_leastFor 7 (some .int) 6 0 0 κ [.ref (κ.1 + a0), .int a1, .int a2] M (some (.int ro)) mo := by
  refine xC_of rfl (Nat.le_of_ble_eq_true rfl) fun p e s m args below meth c X hr hlk hnm H locs ls O hl => ?_
  have X : xX p s m args c cX12_leastFor 7 RX12 κ := X
  have hl : lv_has ls 7 [(0, .ref (κ.1 + a0)), (1, .int a1), (2, .int a2)] := hl
  have hx := X.1
  have hb := X.2.1
  obtain ⟨x, hx0⟩ : ∃ x, (ro, mo) = x := ⟨_, rfl⟩
  rw [hx0] at h
  have hK : x = (ro, mo) := hx0.symm
  unfold F_X12_leastFor at h
  refine lv_aload_n hx hb dX12_leastFor_0 rfl (lv_at hl 0 rfl) ?_
  refine lv_iload_n hx hb dX12_leastFor_1 rfl (lv_at hl 2 rfl) ?_
  obtain ⟨_, hut1, h⟩ := Option.bind_eq_some_iff.mp h
  obtain ⟨t2, ht2, h⟩ := Option.bind_eq_some_iff.mp h
  refine xr_callV (rest := []) X O (T_X12_laysRoom l κ a0 a2 M _ ht2) lk_X12_386 hut1 (Nat.le_of_ble_eq_true rfl) rfl hl.1 rfl (Nat.le_of_ble_eq_true rfl) dX12_leastFor_2 ⟨Nat.le_of_ble_eq_true rfl, Nat.le_of_ble_eq_true rfl⟩ (fun H locs O => ?_)
  refine W.eq (g2 := F0 m 5 ls []) rfl ?_
  refine lv_iconst (v := (0 : Int32)) hx hb dX12_leastFor_5 (by decide) ?_
  refine lv_istore_n (lv' := [(3, .int (0 : Int32)), (0, .ref (κ.1 + a0)), (1, .int a1), (2, .int a2)]) hx hb dX12_leastFor_6 rfl hl (by decide) rfl (fun ls hl => ?_)
  refine lv_iconst (v := (2 : Int32)) hx hb dX12_leastFor_7 (by decide) ?_
  refine lv_iload_n hx hb dX12_leastFor_8 rfl (lv_at hl 2 rfl) ?_
  refine lv_imul hx hb dX12_leastFor_9 ?_
  refine lv_iconst (v := (1 : Int32)) hx hb dX12_leastFor_10 (by decide) ?_
  refine lv_iadd hx hb dX12_leastFor_11 ?_
  obtain ⟨t3, ht3, h⟩ := Option.bind_eq_some_iff.mp h
  refine xr_top (w := .int t3) (by rw [Option.some.inj ht3]) ?_
  refine lv_istore (lv' := [(4, .int t3), (3, .int (0 : Int32)), (0, .ref (κ.1 + a0)), (1, .int a1), (2, .int a2)]) hx hb dX12_leastFor_12 hl (by decide) rfl (fun ls hl => ?_)
  exact F_X12_leastFor_14_ok X hr hlk a0 (0 : Int32) t3 t2 _ h hK H locs ls O (lv_sub hl [2, 1, 0] rfl)
def F_X12_least (a0 : Nat) (a1 : Int32) (a2 : Int32) (M : xM) : Option (Int32 × xM) :=
(xpI M a0 12 0 (0 : Int32)).bind fun t1 =>
(xck t1 a0 12).bind fun _ =>
(F_X12_isCell a0 a1.toInt64 t1).bind fun t3 =>
if t3.1 = 0 then (
some ((-2 : Int32), t3.2))
else (
(F_X12_within a2.toInt64 (0 : Int64) (10 : Int64) t3.2).bind fun t4 =>
if t4.1 = 0 then (
some ((-3 : Int32), t4.2))
else (
(xck t4.2 a0 12).bind fun _ =>
(F_X12_leastFor a0 a1 a2 t4.2).bind fun t6 =>
some (t6.1, t6.2)))
set_option maxRecDepth 100000 in
set_option maxHeartbeats 4000000 in
theorem T_X12_least (l : Launch) (κ : xQ) (a0 : Nat) (a1 : Int32) (a2 : Int32) (M : xM) (ro : Int32) (mo : xM) (h : F_X12_least a0 a1 a2 M = some (ro, mo)) : xC l yX12_least cX12_least 3 (some .int) 7 0 0 κ [.ref (κ.1 + a0), .int a1, .int a2] M (some (.int ro)) mo := by
  refine xC_of rfl (Nat.le_of_ble_eq_true rfl) fun p e s m args below meth c X hr hlk hnm H locs ls O hl => ?_
  have X : xX p s m args c cX12_least 3 RX12 κ := X
  have hl : lv_has ls 3 [(0, .ref (κ.1 + a0)), (1, .int a1), (2, .int a2)] := hl
  have hx := X.1
  have hb := X.2.1
  obtain ⟨x, hx0⟩ : ∃ x, (ro, mo) = x := ⟨_, rfl⟩
  rw [hx0] at h
  have hK : x = (ro, mo) := hx0.symm
  unfold F_X12_least at h
  refine lv_aload_n hx hb dX12_least_0 rfl (lv_at hl 0 rfl) ?_
  refine lv_iconst (v := (0 : Int32)) hx hb dX12_least_1 (by decide) ?_
  obtain ⟨t1, ht1, h⟩ := Option.bind_eq_some_iff.mp h
  refine xr_putI X O ht1 fl_X12_1 dX12_least_2 (fun H locs O => ?_)
  refine lv_aload_n hx hb dX12_least_5 rfl (lv_at hl 0 rfl) ?_
  refine lv_iload_n hx hb dX12_least_6 rfl (lv_at hl 1 rfl) ?_
  refine lv_i2l (v := a1.toInt64) hx hb dX12_least_7 rfl ?_
  obtain ⟨_, hut2, h⟩ := Option.bind_eq_some_iff.mp h
  obtain ⟨t3, ht3, h⟩ := Option.bind_eq_some_iff.mp h
  refine xr_callV (rest := []) X O (T_X12_isCell l κ a0 a1.toInt64 t1 _ _ ht3) lk_X12_230 hut2 (Nat.le_of_ble_eq_true rfl) rfl hl.1 rfl (Nat.le_of_ble_eq_true rfl) dX12_least_8 ⟨Nat.le_of_ble_eq_true rfl, Nat.le_of_ble_eq_true rfl⟩ (fun H locs O => ?_)
  refine W.eq (g2 := F0 m 11 ls [.int t3.1]) rfl ?_
  refine lv_if_ne (tgt := 17) hx hb dX12_least_11 (by decide) (fun hc11 => ?_) (fun hc11 => ?_)
  · rw [if_neg hc11] at h
    refine lv_iload_n hx hb dX12_least_17 rfl (lv_at hl 2 rfl) ?_
    refine lv_i2l (v := a2.toInt64) hx hb dX12_least_18 rfl ?_
    refine lv_lconst (v := (0 : Int64)) hx hb dX12_least_19 (by decide) ?_
    refine lv_ldc2 (v := (10 : Int64)) hx hb X.2.2.2.1 (X.2.2.2.2.1 _ ct_X12_285) dX12_least_20 ?_
    obtain ⟨t4, ht4, h⟩ := Option.bind_eq_some_iff.mp h
    refine xr_callS (rest := []) X O (T_X12_within l κ a2.toInt64 (0 : Int64) (10 : Int64) t3.2 _ _ ht4) lk_X12_145 (Nat.le_of_ble_eq_true rfl) rfl hl.1 rfl (Nat.le_of_ble_eq_true rfl) dX12_least_23 ⟨Nat.le_of_ble_eq_true rfl, Nat.le_of_ble_eq_true rfl⟩ (fun H locs O => ?_)
    refine W.eq (g2 := F0 m 26 ls [.int t4.1]) rfl ?_
    refine lv_if_eq (tgt := 38) hx hb dX12_least_26 (by decide) (fun hc26 => ?_) (fun hc26 => ?_)
    · rw [if_pos hc26] at h
      refine lv_bipush (v := (-3 : Int32)) hx hb dX12_least_38 (by decide) ?_
      rw [← Option.some.inj h] at hK
      have hK : ((-3 : Int32), t4.2) = (ro, mo) := hK
      obtain ⟨hK1, hK2⟩ := Prod.mk.inj hK
      rw [hK2] at O
      refine xr_top (w := .int ro) (by rw [hK1]) ?_
      exact xr_iret X hr hlk O dX12_least_40
    rw [if_neg hc26] at h
    refine lv_aload_n hx hb dX12_least_29 rfl (lv_at hl 0 rfl) ?_
    refine lv_iload_n hx hb dX12_least_30 rfl (lv_at hl 1 rfl) ?_
    refine lv_iload_n hx hb dX12_least_31 rfl (lv_at hl 2 rfl) ?_
    obtain ⟨_, hut5, h⟩ := Option.bind_eq_some_iff.mp h
    obtain ⟨t6, ht6, h⟩ := Option.bind_eq_some_iff.mp h
    refine xr_callV (rest := []) X O (T_X12_leastFor l κ a0 a1 a2 t4.2 _ _ ht6) lk_X12_392 hut5 (Nat.le_of_ble_eq_true rfl) rfl hl.1 rfl (Nat.le_of_ble_eq_true rfl) dX12_least_32 ⟨Nat.le_of_ble_eq_true rfl, Nat.le_of_ble_eq_true rfl⟩ (fun H locs O => ?_)
    refine W.eq (g2 := F0 m 35 ls [.int t6.1]) rfl ?_
    refine lv_goto (tgt := 40) hx hb dX12_least_35 (by decide) ?_
    rw [← Option.some.inj h] at hK
    have hK : (t6.1, t6.2) = (ro, mo) := hK
    obtain ⟨hK1, hK2⟩ := Prod.mk.inj hK
    rw [hK2] at O
    refine xr_top (w := .int ro) (by rw [hK1]) ?_
    exact xr_iret X hr hlk O dX12_least_40
  rw [if_pos hc11] at h
  refine lv_bipush (v := (-2 : Int32)) hx hb dX12_least_14 (by decide) ?_
  rw [← Option.some.inj h] at hK
  have hK : ((-2 : Int32), t3.2) = (ro, mo) := hK
  obtain ⟨hK1, hK2⟩ := Prod.mk.inj hK
  rw [hK2] at O
  refine xr_top (w := .int ro) (by rw [hK1]) ?_
  exact xr_iret X hr hlk O dX12_least_16
def F_X12_safe_43 (v2 : Int32) (M : xM) : Option (Int32 × xM) :=
some (v2, M)
def F_X12_safe_24b (v0 : Nat) (v1 : Int32) : (Int32 × xM) → Option ((Int32 × xM) ⊕ (Int32 × xM)) := fun ⟨v2, M⟩ =>
(xck M v0 12).bind fun _ =>
(F_X12_wetOf v0 v2 M).bind fun t7 =>
(F_X12_isIn t7.1.toInt64 v1 t7.2).bind fun t8 =>
if t8.1 = 0 then (
(F_X12_safe_43 v2 t8.2).map Sum.inr)
else (
some (.inl ((v2 + (-1)), t8.2)))
def F_X12_safe_24 (v0 : Nat) (v1 : Int32) (v2 : Int32) (M : xM) : Option (Int32 × xM) := xit (F_X12_safe_24b v0 v1) xFU (v2, M)
def F_X12_safe (a0 : Nat) (a1 : Int32) (M : xM) : Option (Int32 × xM) :=
(xpI M a0 12 0 (0 : Int32)).bind fun t1 =>
(xck t1 a0 12).bind fun _ =>
(F_X12_isCell a0 a1.toInt64 t1).bind fun t3 =>
if t3.1 = 0 then (
some ((-2 : Int32), t3.2))
else (
(xck t3.2 a0 12).bind fun _ =>
(F_X12_begins a0 t3.2).bind fun t5 =>
F_X12_safe_24 a0 a1 (10 : Int32) t5)
set_option maxRecDepth 100000 in
set_option maxHeartbeats 4000000 in
theorem F_X12_safe_43_ok (X : xX p s m args c cX12_safe 3 RX12 κ) (hr : meth.sig.returnType = (some .int)) (hlk : meth.locks = false) {ro : Int32} {mo : xM} (v2 : Int32) (M : xM) (x : Int32 × xM) (h : F_X12_safe_43 v2 M = some x) (hK : (fun o => o = (ro, mo)) x) (H : Heap) (locs : List Loc) (ls : Array Slot) (O : xO κ s M H locs) (hl : lv_has ls 3 [(2, .int v2)]) : W p l e (xRm 6 0 0) s m args below meth c H locs 0 0 (xQf below args s 0 0 κ (some (.int ro)) mo) (F0 m 43 ls []) := by
  unfold F_X12_safe_43 at h
  have hx := X.1
  have hb := X.2.1
  refine lv_iload_n hx hb dX12_safe_43 rfl (lv_at hl 0 rfl) ?_
  rw [← Option.some.inj h] at hK
  have hK : (v2, M) = (ro, mo) := hK
  obtain ⟨hK1, hK2⟩ := Prod.mk.inj hK
  rw [hK2] at O
  refine xr_top (w := .int ro) (by rw [hK1]) ?_
  exact xr_iret X hr hlk O dX12_safe_44
set_option maxRecDepth 100000 in
set_option maxHeartbeats 4000000 in
theorem F_X12_safe_24_bok (X : xX p s m args c cX12_safe 3 RX12 κ) (hr : meth.sig.returnType = (some .int)) (hlk : meth.locks = false) {ro : Int32} {mo : xM} (v0 : Nat) (v1 : Int32) (v2 : Int32) {W24 : Int32 × xM → Prop} (hW24 : ∀ (v2 : Int32) (M : xM), W24 (v2, M) → ∀ (H : Heap) (locs : List Loc) (ls : Array Slot), xO κ s M H locs → lv_has ls 3 [(0, .ref (κ.1 + v0)), (1, .int v1), (2, .int v2)] → W p l e (xRm 6 0 0) s m args below meth c H locs 0 0 (xQf below args s 0 0 κ (some (.int ro)) mo) (F0 m 24 ls [])) (M : xM) (x : (Int32 × xM) ⊕ (Int32 × xM)) (h : F_X12_safe_24b v0 v1 (v2, M) = some x) (hK : (xKl W24 (fun o => o = (ro, mo))) x) (H : Heap) (locs : List Loc) (ls : Array Slot) (O : xO κ s M H locs) (hl : lv_has ls 3 [(0, .ref (κ.1 + v0)), (1, .int v1), (2, .int v2)]) : W p l e (xRm 6 0 0) s m args below meth c H locs 0 0 (xQf below args s 0 0 κ (some (.int ro)) mo) (F0 m 24 ls []) := by
  unfold F_X12_safe_24b at h
  dsimp only at h
  have hx := X.1
  have hb := X.2.1
  refine lv_aload_n hx hb dX12_safe_24 rfl (lv_at hl 0 rfl) ?_
  refine lv_iload_n hx hb dX12_safe_25 rfl (lv_at hl 2 rfl) ?_
  obtain ⟨_, hut6, h⟩ := Option.bind_eq_some_iff.mp h
  obtain ⟨t7, ht7, h⟩ := Option.bind_eq_some_iff.mp h
  refine xr_callV (rest := []) X O (T_X12_wetOf l κ v0 v2 M _ _ ht7) lk_X12_266 hut6 (Nat.le_of_ble_eq_true rfl) rfl hl.1 rfl (Nat.le_of_ble_eq_true rfl) dX12_safe_26 ⟨Nat.le_of_ble_eq_true rfl, Nat.le_of_ble_eq_true rfl⟩ (fun H locs O => ?_)
  refine W.eq (g2 := F0 m 29 ls [.int t7.1]) rfl ?_
  refine lv_i2l (v := t7.1.toInt64) hx hb dX12_safe_29 rfl ?_
  refine lv_iload_n hx hb dX12_safe_30 rfl (lv_at hl 1 rfl) ?_
  obtain ⟨t8, ht8, h⟩ := Option.bind_eq_some_iff.mp h
  refine xr_callS (rest := []) X O (T_X12_isIn l κ t7.1.toInt64 v1 t7.2 _ _ ht8) lk_X12_253 (Nat.le_of_ble_eq_true rfl) rfl hl.1 rfl (Nat.le_of_ble_eq_true rfl) dX12_safe_31 ⟨Nat.le_of_ble_eq_true rfl, Nat.le_of_ble_eq_true rfl⟩ (fun H locs O => ?_)
  refine W.eq (g2 := F0 m 34 ls [.int t8.1]) rfl ?_
  refine lv_if_eq (tgt := 43) hx hb dX12_safe_34 (by decide) (fun hc34 => ?_) (fun hc34 => ?_)
  · rw [if_pos hc34] at h
    obtain ⟨_, hw0, ew0⟩ := Option.map_eq_some_iff.mp h
    rw [← ew0] at hK
    have h := hw0
    exact F_X12_safe_43_ok X hr hlk v2 t8.2 _ h hK H locs ls O (lv_sub hl [2] rfl)
  rw [if_neg hc34] at h
  refine lv_iinc (v := (v2 + (-1))) (lv' := [(2, .int (v2 + (-1))), (0, .ref (κ.1 + v0)), (1, .int v1)]) hx hb dX12_safe_37 hl (k := 2) rfl rfl (by decide) rfl (fun ls hl => ?_)
  refine lv_goto (tgt := 24) hx hb dX12_safe_40 (by decide) ?_
  rw [← Option.some.inj h] at hK
  exact hW24 (v2 + (-1)) t8.2 hK H locs ls O (lv_sub hl [1, 2, 0] rfl)
set_option maxRecDepth 100000 in
set_option maxHeartbeats 4000000 in
theorem F_X12_safe_24_ok (X : xX p s m args c cX12_safe 3 RX12 κ) (hr : meth.sig.returnType = (some .int)) (hlk : meth.locks = false) {ro : Int32} {mo : xM} (v0 : Nat) (v1 : Int32) (v2 : Int32) (M : xM) (x : Int32 × xM) (h : F_X12_safe_24 v0 v1 v2 M = some x) (hK : (fun o => o = (ro, mo)) x) (H : Heap) (locs : List Loc) (ls : Array Slot) (O : xO κ s M H locs) (hl : lv_has ls 3 [(0, .ref (κ.1 + v0)), (1, .int v1), (2, .int v2)]) : W p l e (xRm 6 0 0) s m args below meth c H locs 0 0 (xQf below args s 0 0 κ (some (.int ro)) mo) (F0 m 24 ls []) := by
  refine xit_K (Wh := fun x => ∀ (H : Heap) (locs : List Loc) (ls : Array Slot), xO κ s x.2 H locs → lv_has ls 3 [(0, .ref (κ.1 + v0)), (1, .int v1), (2, .int x.1)] → W p l e (xRm 6 0 0) s m args below meth c H locs 0 0 (xQf below args s 0 0 κ (some (.int ro)) mo) (F0 m 24 ls [])) (Kp := (fun o => o = (ro, mo))) ?_ xFU (v2, M) x h hK H locs ls O hl
  intro y x h hK H locs ls O hl
  exact F_X12_safe_24_bok X hr hlk v0 v1 y.1 (fun _ _ hw => hw) y.2 x h hK H locs ls O hl
set_option maxRecDepth 100000 in
set_option maxHeartbeats 4000000 in
theorem T_X12_safe (l : Launch) (κ : xQ) (a0 : Nat) (a1 : Int32) (M : xM) (ro : Int32) (mo : xM) (h : F_X12_safe a0 a1 M = some (ro, mo)) : xC l yX12_safe cX12_safe 3 (some .int) 6 0 0 κ [.ref (κ.1 + a0), .int a1] M (some (.int ro)) mo := by
  refine xC_of rfl (Nat.le_of_ble_eq_true rfl) fun p e s m args below meth c X hr hlk hnm H locs ls O hl => ?_
  have X : xX p s m args c cX12_safe 3 RX12 κ := X
  have hl : lv_has ls 3 [(0, .ref (κ.1 + a0)), (1, .int a1)] := hl
  have hx := X.1
  have hb := X.2.1
  obtain ⟨x, hx0⟩ : ∃ x, (ro, mo) = x := ⟨_, rfl⟩
  rw [hx0] at h
  have hK : x = (ro, mo) := hx0.symm
  unfold F_X12_safe at h
  refine lv_aload_n hx hb dX12_safe_0 rfl (lv_at hl 0 rfl) ?_
  refine lv_iconst (v := (0 : Int32)) hx hb dX12_safe_1 (by decide) ?_
  obtain ⟨t1, ht1, h⟩ := Option.bind_eq_some_iff.mp h
  refine xr_putI X O ht1 fl_X12_1 dX12_safe_2 (fun H locs O => ?_)
  refine lv_aload_n hx hb dX12_safe_5 rfl (lv_at hl 0 rfl) ?_
  refine lv_iload_n hx hb dX12_safe_6 rfl (lv_at hl 1 rfl) ?_
  refine lv_i2l (v := a1.toInt64) hx hb dX12_safe_7 rfl ?_
  obtain ⟨_, hut2, h⟩ := Option.bind_eq_some_iff.mp h
  obtain ⟨t3, ht3, h⟩ := Option.bind_eq_some_iff.mp h
  refine xr_callV (rest := []) X O (T_X12_isCell l κ a0 a1.toInt64 t1 _ _ ht3) lk_X12_230 hut2 (Nat.le_of_ble_eq_true rfl) rfl hl.1 rfl (Nat.le_of_ble_eq_true rfl) dX12_safe_8 ⟨Nat.le_of_ble_eq_true rfl, Nat.le_of_ble_eq_true rfl⟩ (fun H locs O => ?_)
  refine W.eq (g2 := F0 m 11 ls [.int t3.1]) rfl ?_
  refine lv_if_ne (tgt := 17) hx hb dX12_safe_11 (by decide) (fun hc11 => ?_) (fun hc11 => ?_)
  · rw [if_neg hc11] at h
    refine lv_aload_n hx hb dX12_safe_17 rfl (lv_at hl 0 rfl) ?_
    obtain ⟨_, hut4, h⟩ := Option.bind_eq_some_iff.mp h
    obtain ⟨t5, ht5, h⟩ := Option.bind_eq_some_iff.mp h
    refine xr_callV (rest := []) X O (T_X12_begins l κ a0 t3.2 _ ht5) lk_X12_272 hut4 (Nat.le_of_ble_eq_true rfl) rfl hl.1 rfl (Nat.le_of_ble_eq_true rfl) dX12_safe_18 ⟨Nat.le_of_ble_eq_true rfl, Nat.le_of_ble_eq_true rfl⟩ (fun H locs O => ?_)
    refine W.eq (g2 := F0 m 21 ls []) rfl ?_
    refine lv_bipush (v := (10 : Int32)) hx hb dX12_safe_21 (by decide) ?_
    refine lv_istore_n (lv' := [(2, .int (10 : Int32)), (0, .ref (κ.1 + a0)), (1, .int a1)]) hx hb dX12_safe_23 rfl hl (by decide) rfl (fun ls hl => ?_)
    exact F_X12_safe_24_ok X hr hlk a0 a1 (10 : Int32) t5 _ h hK H locs ls O (lv_sub hl [1, 2, 0] rfl)
  rw [if_pos hc11] at h
  refine lv_bipush (v := (-2 : Int32)) hx hb dX12_safe_14 (by decide) ?_
  rw [← Option.some.inj h] at hK
  have hK : ((-2 : Int32), t3.2) = (ro, mo) := hK
  obtain ⟨hK1, hK2⟩ := Prod.mk.inj hK
  rw [hK2] at O
  refine xr_top (w := .int ro) (by rw [hK1]) ?_
  exact xr_iret X hr hlk O dX12_safe_16
def F_X12_worst_56 (v0 : Nat) (v1 : Int32) (v2 : Int32) (v3 : Int32) (M : xM) : Option ((Int32 × Int32 × Int32 × xM) ⊕ (Int32 × xM)) :=
some (.inl (v1, v2, (v3 + 1), M))
def F_X12_worst_62 (v1 : Int32) (M : xM) : Option (Int32 × xM) :=
some (v1, M)
def F_X12_worst_15b (v0 : Nat) : (Int32 × Int32 × Int32 × xM) → Option ((Int32 × Int32 × Int32 × xM) ⊕ (Int32 × xM)) := fun ⟨v1, v2, v3, M⟩ =>
if (10 : Int32) < v3 then (
(F_X12_worst_62 v1 M).map Sum.inr)
else (
(xck M v0 12).bind fun _ =>
(F_X12_wetOf v0 v3 M).bind fun t5 =>
(F_X12_bitsOf t5.1 t5.2).bind fun t6 =>
(xck t6.2 v0 12).bind fun _ =>
(F_X12_wetOf v0 (v3 - (1 : Int32)) t6.2).bind fun t8 =>
(F_X12_bitsOf t8.1 t8.2).bind fun t9 =>
(some ((t6.1 - t9.1))).bind fun t10 =>
if v2 < t10 then (
F_X12_worst_56 v0 v3 t10 v3 t9.2)
else (
F_X12_worst_56 v0 v1 v2 v3 t9.2))
def F_X12_worst_15 (v0 : Nat) (v1 : Int32) (v2 : Int32) (v3 : Int32) (M : xM) : Option (Int32 × xM) := xit (F_X12_worst_15b v0) xFU (v1, v2, v3, M)
def F_X12_worst (a0 : Nat) (M : xM) : Option (Int32 × xM) :=
(xpI M a0 12 0 (0 : Int32)).bind fun t1 =>
(xck t1 a0 12).bind fun _ =>
(F_X12_begins a0 t1).bind fun t3 =>
F_X12_worst_15 a0 (1 : Int32) (-1 : Int32) (1 : Int32) t3
set_option maxRecDepth 100000 in
set_option maxHeartbeats 4000000 in
theorem F_X12_worst_56_ok (X : xX p s m args c cX12_worst 5 RX12 κ) (hr : meth.sig.returnType = (some .int)) (hlk : meth.locks = false) {ro : Int32} {mo : xM} (v0 : Nat) (v1 : Int32) (v2 : Int32) (v3 : Int32) {W15 : Int32 × Int32 × Int32 × xM → Prop} (hW15 : ∀ (v1 : Int32) (v2 : Int32) (v3 : Int32) (M : xM), W15 (v1, v2, v3, M) → ∀ (H : Heap) (locs : List Loc) (ls : Array Slot), xO κ s M H locs → lv_has ls 5 [(0, .ref (κ.1 + v0)), (1, .int v1), (2, .int v2), (3, .int v3)] → W p l e (xRm 6 0 0) s m args below meth c H locs 0 0 (xQf below args s 0 0 κ (some (.int ro)) mo) (F0 m 15 ls [])) (M : xM) (x : (Int32 × Int32 × Int32 × xM) ⊕ (Int32 × xM)) (h : F_X12_worst_56 v0 v1 v2 v3 M = some x) (hK : (xKl W15 (fun o => o = (ro, mo))) x) (H : Heap) (locs : List Loc) (ls : Array Slot) (O : xO κ s M H locs) (hl : lv_has ls 5 [(0, .ref (κ.1 + v0)), (1, .int v1), (2, .int v2), (3, .int v3)]) : W p l e (xRm 6 0 0) s m args below meth c H locs 0 0 (xQf below args s 0 0 κ (some (.int ro)) mo) (F0 m 56 ls []) := by
  unfold F_X12_worst_56 at h
  have hx := X.1
  have hb := X.2.1
  refine lv_iinc (v := (v3 + 1)) (lv' := [(3, .int (v3 + 1)), (0, .ref (κ.1 + v0)), (1, .int v1), (2, .int v2)]) hx hb dX12_worst_56 hl (k := 3) rfl rfl (by decide) rfl (fun ls hl => ?_)
  refine lv_goto (tgt := 15) hx hb dX12_worst_59 (by decide) ?_
  rw [← Option.some.inj h] at hK
  exact hW15 v1 v2 (v3 + 1) M hK H locs ls O (lv_sub hl [1, 2, 3, 0] rfl)
set_option maxRecDepth 100000 in
set_option maxHeartbeats 4000000 in
theorem F_X12_worst_62_ok (X : xX p s m args c cX12_worst 5 RX12 κ) (hr : meth.sig.returnType = (some .int)) (hlk : meth.locks = false) {ro : Int32} {mo : xM} (v1 : Int32) (M : xM) (x : Int32 × xM) (h : F_X12_worst_62 v1 M = some x) (hK : (fun o => o = (ro, mo)) x) (H : Heap) (locs : List Loc) (ls : Array Slot) (O : xO κ s M H locs) (hl : lv_has ls 5 [(1, .int v1)]) : W p l e (xRm 6 0 0) s m args below meth c H locs 0 0 (xQf below args s 0 0 κ (some (.int ro)) mo) (F0 m 62 ls []) := by
  unfold F_X12_worst_62 at h
  have hx := X.1
  have hb := X.2.1
  refine lv_iload_n hx hb dX12_worst_62 rfl (lv_at hl 0 rfl) ?_
  rw [← Option.some.inj h] at hK
  have hK : (v1, M) = (ro, mo) := hK
  obtain ⟨hK1, hK2⟩ := Prod.mk.inj hK
  rw [hK2] at O
  refine xr_top (w := .int ro) (by rw [hK1]) ?_
  exact xr_iret X hr hlk O dX12_worst_63
set_option maxRecDepth 100000 in
set_option maxHeartbeats 4000000 in
theorem F_X12_worst_15_bok (X : xX p s m args c cX12_worst 5 RX12 κ) (hr : meth.sig.returnType = (some .int)) (hlk : meth.locks = false) {ro : Int32} {mo : xM} (v0 : Nat) (v1 : Int32) (v2 : Int32) (v3 : Int32) {W15 : Int32 × Int32 × Int32 × xM → Prop} (hW15 : ∀ (v1 : Int32) (v2 : Int32) (v3 : Int32) (M : xM), W15 (v1, v2, v3, M) → ∀ (H : Heap) (locs : List Loc) (ls : Array Slot), xO κ s M H locs → lv_has ls 5 [(0, .ref (κ.1 + v0)), (1, .int v1), (2, .int v2), (3, .int v3)] → W p l e (xRm 6 0 0) s m args below meth c H locs 0 0 (xQf below args s 0 0 κ (some (.int ro)) mo) (F0 m 15 ls [])) (M : xM) (x : (Int32 × Int32 × Int32 × xM) ⊕ (Int32 × xM)) (h : F_X12_worst_15b v0 (v1, v2, v3, M) = some x) (hK : (xKl W15 (fun o => o = (ro, mo))) x) (H : Heap) (locs : List Loc) (ls : Array Slot) (O : xO κ s M H locs) (hl : lv_has ls 5 [(0, .ref (κ.1 + v0)), (1, .int v1), (2, .int v2), (3, .int v3)]) : W p l e (xRm 6 0 0) s m args below meth c H locs 0 0 (xQf below args s 0 0 κ (some (.int ro)) mo) (F0 m 15 ls []) := by
  unfold F_X12_worst_15b at h
  dsimp only at h
  have hx := X.1
  have hb := X.2.1
  refine lv_iload_n hx hb dX12_worst_15 rfl (lv_at hl 3 rfl) ?_
  refine lv_bipush (v := (10 : Int32)) hx hb dX12_worst_16 (by decide) ?_
  refine lv_icmp_gt (tgt := 62) hx hb dX12_worst_18 (by decide) (fun hc18 => ?_) (fun hc18 => ?_)
  · rw [if_pos hc18] at h
    obtain ⟨_, hw0, ew0⟩ := Option.map_eq_some_iff.mp h
    rw [← ew0] at hK
    have h := hw0
    exact F_X12_worst_62_ok X hr hlk v1 M _ h hK H locs ls O (lv_sub hl [1] rfl)
  rw [if_neg hc18] at h
  refine lv_aload_n hx hb dX12_worst_21 rfl (lv_at hl 0 rfl) ?_
  refine lv_iload_n hx hb dX12_worst_22 rfl (lv_at hl 3 rfl) ?_
  obtain ⟨_, hut4, h⟩ := Option.bind_eq_some_iff.mp h
  obtain ⟨t5, ht5, h⟩ := Option.bind_eq_some_iff.mp h
  refine xr_callV (rest := []) X O (T_X12_wetOf l κ v0 v3 M _ _ ht5) lk_X12_266 hut4 (Nat.le_of_ble_eq_true rfl) rfl hl.1 rfl (Nat.le_of_ble_eq_true rfl) dX12_worst_23 ⟨Nat.le_of_ble_eq_true rfl, Nat.le_of_ble_eq_true rfl⟩ (fun H locs O => ?_)
  refine W.eq (g2 := F0 m 26 ls [.int t5.1]) rfl ?_
  obtain ⟨t6, ht6, h⟩ := Option.bind_eq_some_iff.mp h
  refine xr_callS (rest := []) X O (T_X12_bitsOf l κ t5.1 t5.2 _ _ ht6) lk_X12_260 (Nat.le_of_ble_eq_true rfl) rfl hl.1 rfl (Nat.le_of_ble_eq_true rfl) dX12_worst_26 ⟨Nat.le_of_ble_eq_true rfl, Nat.le_of_ble_eq_true rfl⟩ (fun H locs O => ?_)
  refine W.eq (g2 := F0 m 29 ls [.int t6.1]) rfl ?_
  refine lv_aload_n hx hb dX12_worst_29 rfl (lv_at hl 0 rfl) ?_
  refine lv_iload_n hx hb dX12_worst_30 rfl (lv_at hl 3 rfl) ?_
  refine lv_iconst (v := (1 : Int32)) hx hb dX12_worst_31 (by decide) ?_
  refine lv_isub hx hb dX12_worst_32 ?_
  obtain ⟨_, hut7, h⟩ := Option.bind_eq_some_iff.mp h
  obtain ⟨t8, ht8, h⟩ := Option.bind_eq_some_iff.mp h
  refine xr_callV (rest := [.int t6.1]) X O (T_X12_wetOf l κ v0 (v3 - (1 : Int32)) t6.2 _ _ ht8) lk_X12_266 hut7 (Nat.le_of_ble_eq_true rfl) rfl hl.1 rfl (Nat.le_of_ble_eq_true rfl) dX12_worst_33 ⟨Nat.le_of_ble_eq_true rfl, Nat.le_of_ble_eq_true rfl⟩ (fun H locs O => ?_)
  refine W.eq (g2 := F0 m 36 ls [.int t8.1, .int t6.1]) rfl ?_
  obtain ⟨t9, ht9, h⟩ := Option.bind_eq_some_iff.mp h
  refine xr_callS (rest := [.int t6.1]) X O (T_X12_bitsOf l κ t8.1 t8.2 _ _ ht9) lk_X12_260 (Nat.le_of_ble_eq_true rfl) rfl hl.1 rfl (Nat.le_of_ble_eq_true rfl) dX12_worst_36 ⟨Nat.le_of_ble_eq_true rfl, Nat.le_of_ble_eq_true rfl⟩ (fun H locs O => ?_)
  refine W.eq (g2 := F0 m 39 ls [.int t9.1, .int t6.1]) rfl ?_
  refine lv_isub hx hb dX12_worst_39 ?_
  obtain ⟨t10, ht10, h⟩ := Option.bind_eq_some_iff.mp h
  refine xr_top (w := .int t10) (by rw [Option.some.inj ht10]) ?_
  refine lv_istore (lv' := [(4, .int t10), (0, .ref (κ.1 + v0)), (1, .int v1), (2, .int v2), (3, .int v3)]) hx hb dX12_worst_40 hl (by decide) rfl (fun ls hl => ?_)
  refine lv_iload hx hb dX12_worst_42 (lv_at hl 0 rfl) ?_
  refine lv_iload_n hx hb dX12_worst_44 rfl (lv_at hl 3 rfl) ?_
  refine lv_icmp_gt (tgt := 51) hx hb dX12_worst_45 (by decide) (fun hc45 => ?_) (fun hc45 => ?_)
  · rw [if_pos hc45] at h
    refine lv_iload_n hx hb dX12_worst_51 rfl (lv_at hl 4 rfl) ?_
    refine lv_istore_n (lv' := [(1, .int v3), (4, .int t10), (0, .ref (κ.1 + v0)), (2, .int v2), (3, .int v3)]) hx hb dX12_worst_52 rfl hl (by decide) rfl (fun ls hl => ?_)
    refine lv_iload hx hb dX12_worst_53 (lv_at hl 1 rfl) ?_
    refine lv_istore_n (lv' := [(2, .int t10), (1, .int v3), (4, .int t10), (0, .ref (κ.1 + v0)), (3, .int v3)]) hx hb dX12_worst_55 rfl hl (by decide) rfl (fun ls hl => ?_)
    exact F_X12_worst_56_ok X hr hlk v0 v3 t10 v3 hW15 t9.2 _ h hK H locs ls O (lv_sub hl [3, 1, 0, 4] rfl)
  rw [if_neg hc45] at h
  refine lv_goto (tgt := 56) hx hb dX12_worst_48 (by decide) ?_
  exact F_X12_worst_56_ok X hr hlk v0 v1 v2 v3 hW15 t9.2 _ h hK H locs ls O (lv_sub hl [1, 2, 3, 4] rfl)
set_option maxRecDepth 100000 in
set_option maxHeartbeats 4000000 in
theorem F_X12_worst_15_ok (X : xX p s m args c cX12_worst 5 RX12 κ) (hr : meth.sig.returnType = (some .int)) (hlk : meth.locks = false) {ro : Int32} {mo : xM} (v0 : Nat) (v1 : Int32) (v2 : Int32) (v3 : Int32) (M : xM) (x : Int32 × xM) (h : F_X12_worst_15 v0 v1 v2 v3 M = some x) (hK : (fun o => o = (ro, mo)) x) (H : Heap) (locs : List Loc) (ls : Array Slot) (O : xO κ s M H locs) (hl : lv_has ls 5 [(0, .ref (κ.1 + v0)), (1, .int v1), (2, .int v2), (3, .int v3)]) : W p l e (xRm 6 0 0) s m args below meth c H locs 0 0 (xQf below args s 0 0 κ (some (.int ro)) mo) (F0 m 15 ls []) := by
  refine xit_K (Wh := fun x => ∀ (H : Heap) (locs : List Loc) (ls : Array Slot), xO κ s x.2.2.2 H locs → lv_has ls 5 [(0, .ref (κ.1 + v0)), (1, .int x.1), (2, .int x.2.1), (3, .int x.2.2.1)] → W p l e (xRm 6 0 0) s m args below meth c H locs 0 0 (xQf below args s 0 0 κ (some (.int ro)) mo) (F0 m 15 ls [])) (Kp := (fun o => o = (ro, mo))) ?_ xFU (v1, v2, v3, M) x h hK H locs ls O hl
  intro y x h hK H locs ls O hl
  exact F_X12_worst_15_bok X hr hlk v0 y.1 y.2.1 y.2.2.1 (fun _ _ _ _ hw => hw) y.2.2.2 x h hK H locs ls O hl
set_option maxRecDepth 100000 in
set_option maxHeartbeats 4000000 in
theorem T_X12_worst (l : Launch) (κ : xQ) (a0 : Nat) (M : xM) (ro : Int32) (mo : xM) (h : F_X12_worst a0 M = some (ro, mo)) : xC l yX12_worst cX12_worst 5 (some .int) 6 0 0 κ [.ref (κ.1 + a0)] M (some (.int ro)) mo := by
  refine xC_of rfl (Nat.le_of_ble_eq_true rfl) fun p e s m args below meth c X hr hlk hnm H locs ls O hl => ?_
  have X : xX p s m args c cX12_worst 5 RX12 κ := X
  have hl : lv_has ls 5 [(0, .ref (κ.1 + a0))] := hl
  have hx := X.1
  have hb := X.2.1
  obtain ⟨x, hx0⟩ : ∃ x, (ro, mo) = x := ⟨_, rfl⟩
  rw [hx0] at h
  have hK : x = (ro, mo) := hx0.symm
  unfold F_X12_worst at h
  refine lv_aload_n hx hb dX12_worst_0 rfl (lv_at hl 0 rfl) ?_
  refine lv_iconst (v := (0 : Int32)) hx hb dX12_worst_1 (by decide) ?_
  obtain ⟨t1, ht1, h⟩ := Option.bind_eq_some_iff.mp h
  refine xr_putI X O ht1 fl_X12_1 dX12_worst_2 (fun H locs O => ?_)
  refine lv_aload_n hx hb dX12_worst_5 rfl (lv_at hl 0 rfl) ?_
  obtain ⟨_, hut2, h⟩ := Option.bind_eq_some_iff.mp h
  obtain ⟨t3, ht3, h⟩ := Option.bind_eq_some_iff.mp h
  refine xr_callV (rest := []) X O (T_X12_begins l κ a0 t1 _ ht3) lk_X12_272 hut2 (Nat.le_of_ble_eq_true rfl) rfl hl.1 rfl (Nat.le_of_ble_eq_true rfl) dX12_worst_6 ⟨Nat.le_of_ble_eq_true rfl, Nat.le_of_ble_eq_true rfl⟩ (fun H locs O => ?_)
  refine W.eq (g2 := F0 m 9 ls []) rfl ?_
  refine lv_iconst (v := (1 : Int32)) hx hb dX12_worst_9 (by decide) ?_
  refine lv_istore_n (lv' := [(1, .int (1 : Int32)), (0, .ref (κ.1 + a0))]) hx hb dX12_worst_10 rfl hl (by decide) rfl (fun ls hl => ?_)
  refine lv_iconst (v := (-1 : Int32)) hx hb dX12_worst_11 (by decide) ?_
  refine lv_istore_n (lv' := [(2, .int (-1 : Int32)), (1, .int (1 : Int32)), (0, .ref (κ.1 + a0))]) hx hb dX12_worst_12 rfl hl (by decide) rfl (fun ls hl => ?_)
  refine lv_iconst (v := (1 : Int32)) hx hb dX12_worst_13 (by decide) ?_
  refine lv_istore_n (lv' := [(3, .int (1 : Int32)), (2, .int (-1 : Int32)), (1, .int (1 : Int32)), (0, .ref (κ.1 + a0))]) hx hb dX12_worst_14 rfl hl (by decide) rfl (fun ls hl => ?_)
  exact F_X12_worst_15_ok X hr hlk a0 (1 : Int32) (-1 : Int32) (1 : Int32) t3 _ h hK H locs ls O (lv_sub hl [3, 2, 1, 0] rfl)
def F_X12_laysUntil_46 (v0 : Nat) (v1 : Int32) (s0 : Int32) (s1 : Int32) (s2 : Nat) (M : xM) : Option ((Int32 × xM) ⊕ (xM)) :=
(xsI M s2 s1 s0).bind fun t8 =>
some (.inl ((v1 + 1), t8))
def F_X12_laysUntil_53 (M : xM) : Option (xM) :=
some M
def F_X12_laysUntil_2b (v0 : Nat) : (Int32 × xM) → Option ((Int32 × xM) ⊕ (xM)) := fun ⟨v1, M⟩ =>
(xgP M v0 12 1).bind fun t1 =>
(xaI M 20 t1 (4 : Int32)).bind fun t2 =>
if t2 ≤ v1 then (
(F_X12_laysUntil_53 M).map Sum.inr)
else (
(xgP M v0 12 1).bind fun t3 =>
(xaI M 20 t3 ((13 : Int32) + ((3 : Int32) * v1))).bind fun t4 =>
(xck M v0 12).bind fun _ =>
(F_X12_wetIn v0 t4 M).bind fun t6 =>
(xgP t6.2 v0 12 28).bind fun t7 =>
if t6.1 = (-1 : Int32) then (
F_X12_laysUntil_46 v0 v1 (60 : Int32) v1 t7 t6.2)
else (
F_X12_laysUntil_46 v0 v1 (t6.1 - (1 : Int32)) v1 t7 t6.2))
def F_X12_laysUntil_2 (v0 : Nat) (v1 : Int32) (M : xM) : Option (xM) := xit (F_X12_laysUntil_2b v0) xFU (v1, M)
def F_X12_laysUntil (a0 : Nat) (M : xM) : Option (xM) :=
F_X12_laysUntil_2 a0 (0 : Int32) M
set_option maxRecDepth 100000 in
set_option maxHeartbeats 4000000 in
theorem F_X12_laysUntil_46_ok (X : xX p s m args c cX12_laysUntil 3 RX12 κ) (hr : meth.sig.returnType = none) (hlk : meth.locks = false) {mo : xM} (v0 : Nat) (v1 : Int32) (s0 : Int32) (s1 : Int32) (s2 : Nat) {W2 : Int32 × xM → Prop} (hW2 : ∀ (v1 : Int32) (M : xM), W2 (v1, M) → ∀ (H : Heap) (locs : List Loc) (ls : Array Slot), xO κ s M H locs → lv_has ls 3 [(0, .ref (κ.1 + v0)), (1, .int v1)] → W p l e (xRm 8 0 0) s m args below meth c H locs 0 0 (xQf below args s 0 0 κ none mo) (F0 m 2 ls [])) (M : xM) (x : (Int32 × xM) ⊕ (xM)) (h : F_X12_laysUntil_46 v0 v1 s0 s1 s2 M = some x) (hK : (xKl W2 (fun o => o = mo)) x) (H : Heap) (locs : List Loc) (ls : Array Slot) (O : xO κ s M H locs) (hl : lv_has ls 3 [(0, .ref (κ.1 + v0)), (1, .int v1)]) : W p l e (xRm 8 0 0) s m args below meth c H locs 0 0 (xQf below args s 0 0 κ none mo) (F0 m 46 ls [.int s0, .int s1, .ref (κ.1 + s2)]) := by
  unfold F_X12_laysUntil_46 at h
  have hx := X.1
  have hb := X.2.1
  obtain ⟨t8, ht8, h⟩ := Option.bind_eq_some_iff.mp h
  refine xr_stI X O ht8 dX12_laysUntil_46 (fun H locs O => ?_)
  refine lv_iinc (v := (v1 + 1)) (lv' := [(1, .int (v1 + 1)), (0, .ref (κ.1 + v0))]) hx hb dX12_laysUntil_47 hl (k := 1) rfl rfl (by decide) rfl (fun ls hl => ?_)
  refine lv_goto (tgt := 2) hx hb dX12_laysUntil_50 (by decide) ?_
  rw [← Option.some.inj h] at hK
  exact hW2 (v1 + 1) t8 hK H locs ls O (lv_sub hl [1, 0] rfl)
set_option maxRecDepth 100000 in
set_option maxHeartbeats 4000000 in
theorem F_X12_laysUntil_53_ok (X : xX p s m args c cX12_laysUntil 3 RX12 κ) (hr : meth.sig.returnType = none) (hlk : meth.locks = false) {mo : xM} (M : xM) (x : xM) (h : F_X12_laysUntil_53 M = some x) (hK : (fun o => o = mo) x) (H : Heap) (locs : List Loc) (ls : Array Slot) (O : xO κ s M H locs) (hl : lv_has ls 3 []) : W p l e (xRm 8 0 0) s m args below meth c H locs 0 0 (xQf below args s 0 0 κ none mo) (F0 m 53 ls []) := by
  unfold F_X12_laysUntil_53 at h
  have hx := X.1
  have hb := X.2.1
  rw [← Option.some.inj h] at hK
  have hK : M = mo := hK
  rw [hK] at O
  exact xr_vret X hr hlk O dX12_laysUntil_53
set_option maxRecDepth 100000 in
set_option maxHeartbeats 4000000 in
theorem F_X12_laysUntil_2_bok (X : xX p s m args c cX12_laysUntil 3 RX12 κ) (hr : meth.sig.returnType = none) (hlk : meth.locks = false) {mo : xM} (v0 : Nat) (v1 : Int32) {W2 : Int32 × xM → Prop} (hW2 : ∀ (v1 : Int32) (M : xM), W2 (v1, M) → ∀ (H : Heap) (locs : List Loc) (ls : Array Slot), xO κ s M H locs → lv_has ls 3 [(0, .ref (κ.1 + v0)), (1, .int v1)] → W p l e (xRm 8 0 0) s m args below meth c H locs 0 0 (xQf below args s 0 0 κ none mo) (F0 m 2 ls [])) (M : xM) (x : (Int32 × xM) ⊕ (xM)) (h : F_X12_laysUntil_2b v0 (v1, M) = some x) (hK : (xKl W2 (fun o => o = mo)) x) (H : Heap) (locs : List Loc) (ls : Array Slot) (O : xO κ s M H locs) (hl : lv_has ls 3 [(0, .ref (κ.1 + v0)), (1, .int v1)]) : W p l e (xRm 8 0 0) s m args below meth c H locs 0 0 (xQf below args s 0 0 κ none mo) (F0 m 2 ls []) := by
  unfold F_X12_laysUntil_2b at h
  dsimp only at h
  have hx := X.1
  have hb := X.2.1
  refine lv_iload_n hx hb dX12_laysUntil_2 rfl (lv_at hl 1 rfl) ?_
  refine lv_aload_n hx hb dX12_laysUntil_3 rfl (lv_at hl 0 rfl) ?_
  obtain ⟨t1, ht1, h⟩ := Option.bind_eq_some_iff.mp h
  refine xr_getP X O ht1 fl_X12_13 dX12_laysUntil_4 ?_
  refine lv_iconst (v := (4 : Int32)) hx hb dX12_laysUntil_7 (by decide) ?_
  obtain ⟨t2, ht2, h⟩ := Option.bind_eq_some_iff.mp h
  refine xr_aldI X O ht2 dX12_laysUntil_8 ?_
  refine lv_icmp_ge (tgt := 53) hx hb dX12_laysUntil_9 (by decide) (fun hc9 => ?_) (fun hc9 => ?_)
  · rw [if_pos hc9] at h
    obtain ⟨_, hw0, ew0⟩ := Option.map_eq_some_iff.mp h
    rw [← ew0] at hK
    have h := hw0
    exact F_X12_laysUntil_53_ok X hr hlk  M _ h hK H locs ls O (lv_sub hl [] rfl)
  rw [if_neg hc9] at h
  refine lv_aload_n hx hb dX12_laysUntil_12 rfl (lv_at hl 0 rfl) ?_
  refine lv_aload_n hx hb dX12_laysUntil_13 rfl (lv_at hl 0 rfl) ?_
  obtain ⟨t3, ht3, h⟩ := Option.bind_eq_some_iff.mp h
  refine xr_getP X O ht3 fl_X12_13 dX12_laysUntil_14 ?_
  refine lv_bipush (v := (13 : Int32)) hx hb dX12_laysUntil_17 (by decide) ?_
  refine lv_iconst (v := (3 : Int32)) hx hb dX12_laysUntil_19 (by decide) ?_
  refine lv_iload_n hx hb dX12_laysUntil_20 rfl (lv_at hl 1 rfl) ?_
  refine lv_imul hx hb dX12_laysUntil_21 ?_
  refine lv_iadd hx hb dX12_laysUntil_22 ?_
  obtain ⟨t4, ht4, h⟩ := Option.bind_eq_some_iff.mp h
  refine xr_aldI X O ht4 dX12_laysUntil_23 ?_
  obtain ⟨_, hut5, h⟩ := Option.bind_eq_some_iff.mp h
  obtain ⟨t6, ht6, h⟩ := Option.bind_eq_some_iff.mp h
  refine xr_callV (rest := []) X O (T_X12_wetIn l κ v0 t4 M _ _ ht6) lk_X12_382 hut5 (Nat.le_of_ble_eq_true rfl) rfl hl.1 rfl (Nat.le_of_ble_eq_true rfl) dX12_laysUntil_24 ⟨Nat.le_of_ble_eq_true rfl, Nat.le_of_ble_eq_true rfl⟩ (fun H locs O => ?_)
  refine W.eq (g2 := F0 m 27 ls [.int t6.1]) rfl ?_
  refine lv_istore_n (lv' := [(2, .int t6.1), (0, .ref (κ.1 + v0)), (1, .int v1)]) hx hb dX12_laysUntil_27 rfl hl (by decide) rfl (fun ls hl => ?_)
  refine lv_aload_n hx hb dX12_laysUntil_28 rfl (lv_at hl 1 rfl) ?_
  obtain ⟨t7, ht7, h⟩ := Option.bind_eq_some_iff.mp h
  refine xr_getP X O ht7 fl_X12_54 dX12_laysUntil_29 ?_
  refine lv_iload_n hx hb dX12_laysUntil_32 rfl (lv_at hl 2 rfl) ?_
  refine lv_iload_n hx hb dX12_laysUntil_33 rfl (lv_at hl 0 rfl) ?_
  refine lv_iconst (v := (-1 : Int32)) hx hb dX12_laysUntil_34 (by decide) ?_
  refine lv_icmp_ne (tgt := 43) hx hb dX12_laysUntil_35 (by decide) (fun hc35 => ?_) (fun hc35 => ?_)
  · rw [if_neg hc35] at h
    refine lv_iload_n hx hb dX12_laysUntil_43 rfl (lv_at hl 0 rfl) ?_
    refine lv_iconst (v := (1 : Int32)) hx hb dX12_laysUntil_44 (by decide) ?_
    refine lv_isub hx hb dX12_laysUntil_45 ?_
    exact F_X12_laysUntil_46_ok X hr hlk v0 v1 (t6.1 - (1 : Int32)) v1 t7 hW2 t6.2 _ h hK H locs ls O (lv_sub hl [1, 2] rfl)
  rw [if_pos hc35] at h
  refine lv_bipush (v := (60 : Int32)) hx hb dX12_laysUntil_38 (by decide) ?_
  refine lv_goto (tgt := 46) hx hb dX12_laysUntil_40 (by decide) ?_
  exact F_X12_laysUntil_46_ok X hr hlk v0 v1 (60 : Int32) v1 t7 hW2 t6.2 _ h hK H locs ls O (lv_sub hl [1, 2] rfl)
set_option maxRecDepth 100000 in
set_option maxHeartbeats 4000000 in
theorem F_X12_laysUntil_2_ok (X : xX p s m args c cX12_laysUntil 3 RX12 κ) (hr : meth.sig.returnType = none) (hlk : meth.locks = false) {mo : xM} (v0 : Nat) (v1 : Int32) (M : xM) (x : xM) (h : F_X12_laysUntil_2 v0 v1 M = some x) (hK : (fun o => o = mo) x) (H : Heap) (locs : List Loc) (ls : Array Slot) (O : xO κ s M H locs) (hl : lv_has ls 3 [(0, .ref (κ.1 + v0)), (1, .int v1)]) : W p l e (xRm 8 0 0) s m args below meth c H locs 0 0 (xQf below args s 0 0 κ none mo) (F0 m 2 ls []) := by
  refine xit_K (Wh := fun x => ∀ (H : Heap) (locs : List Loc) (ls : Array Slot), xO κ s x.2 H locs → lv_has ls 3 [(0, .ref (κ.1 + v0)), (1, .int x.1)] → W p l e (xRm 8 0 0) s m args below meth c H locs 0 0 (xQf below args s 0 0 κ none mo) (F0 m 2 ls [])) (Kp := (fun o => o = mo)) ?_ xFU (v1, M) x h hK H locs ls O hl
  intro y x h hK H locs ls O hl
  exact F_X12_laysUntil_2_bok X hr hlk v0 y.1 (fun _ _ hw => hw) y.2 x h hK H locs ls O hl
set_option maxRecDepth 100000 in
set_option maxHeartbeats 4000000 in
theorem T_X12_laysUntil (l : Launch) (κ : xQ) (a0 : Nat) (M : xM) (mo : xM) (h : F_X12_laysUntil a0 M = some mo) : xC l yX12_laysUntil cX12_laysUntil 3 none 8 0 0 κ [.ref (κ.1 + a0)] M none mo := by
  refine xC_of rfl (Nat.le_of_ble_eq_true rfl) fun p e s m args below meth c X hr hlk hnm H locs ls O hl => ?_
  have X : xX p s m args c cX12_laysUntil 3 RX12 κ := X
  have hl : lv_has ls 3 [(0, .ref (κ.1 + a0))] := hl
  have hx := X.1
  have hb := X.2.1
  obtain ⟨x, hx0⟩ : ∃ x, mo = x := ⟨_, rfl⟩
  rw [hx0] at h
  have hK : x = mo := hx0.symm
  unfold F_X12_laysUntil at h
  refine lv_iconst (v := (0 : Int32)) hx hb dX12_laysUntil_0 (by decide) ?_
  refine lv_istore_n (lv' := [(1, .int (0 : Int32)), (0, .ref (κ.1 + a0))]) hx hb dX12_laysUntil_1 rfl hl (by decide) rfl (fun ls hl => ?_)
  exact F_X12_laysUntil_2_ok X hr hlk a0 (0 : Int32) M _ h hK H locs ls O (lv_sub hl [1, 0] rfl)
def F_X12_canBuild_74 (M : xM) : Option (Int32 × xM) :=
(xz (0 : Int32)).bind fun t9 =>
some (t9, M)
def F_X12_canBuild_76 (v0 : Nat) (v1 : Int32) (v3 : Int32) (v4 : Int32) (v5 : Int32) (M : xM) : Option ((Int32 × Int32 × xM) ⊕ ((Int32 × Int32 × xM) ⊕ (Int32 × xM))) :=
some (.inl (v3, (v5 + 1), M))
def F_X12_canBuild_82 (v0 : Nat) (v1 : Int32) (v3 : Int32) (v4 : Int32) (M : xM) : Option ((Int32 × Int32 × xM) ⊕ (Int32 × xM)) :=
some (.inl (v3, (v4 + 1), M))
def F_X12_canBuild_15b (v0 : Nat) (v1 : Int32) (v4 : Int32) : (Int32 × Int32 × xM) → Option ((Int32 × Int32 × xM) ⊕ ((Int32 × Int32 × xM) ⊕ (Int32 × xM))) := fun ⟨v3, v5, M⟩ =>
(xgP M v0 12 1).bind fun t1 =>
(xaI M 20 t1 (4 : Int32)).bind fun t2 =>
if t2 ≤ v5 then (
(F_X12_canBuild_82 v0 v1 v3 v4 M).map Sum.inr)
else (
(F_X12_isIn v1.toInt64 v5 M).bind fun t3 =>
if t3.1 = 0 then (
F_X12_canBuild_76 v0 v1 v3 v4 v5 t3.2)
else (
(xgP t3.2 v0 12 28).bind fun t4 =>
(xaI t3.2 20 t4 v5).bind fun t5 =>
if t5 = v4 then (
(xgP t3.2 v0 12 1).bind fun t6 =>
(xaI t3.2 20 t6 (((13 : Int32) + ((3 : Int32) * v5)) + (1 : Int32))).bind fun t7 =>
(some ((v3 + t7))).bind fun t8 =>
if t8 ≤ v4 then (
F_X12_canBuild_76 v0 v1 t8 v4 v5 t3.2)
else (
((F_X12_canBuild_74 t3.2).map Sum.inr).map Sum.inr))
else (
F_X12_canBuild_76 v0 v1 v3 v4 v5 t3.2)))
def F_X12_canBuild_15 (v0 : Nat) (v1 : Int32) (v3 : Int32) (v4 : Int32) (v5 : Int32) (M : xM) : Option ((Int32 × Int32 × xM) ⊕ (Int32 × xM)) := xit (F_X12_canBuild_15b v0 v1 v4) xFU (v3, v5, M)
def F_X12_canBuild_88 (M : xM) : Option (Int32 × xM) :=
(xz (1 : Int32)).bind fun t10 =>
some (t10, M)
def F_X12_canBuild_5b (v0 : Nat) (v1 : Int32) : (Int32 × Int32 × xM) → Option ((Int32 × Int32 × xM) ⊕ (Int32 × xM)) := fun ⟨v3, v4, M⟩ =>
if (60 : Int32) < v4 then (
(F_X12_canBuild_88 M).map Sum.inr)
else (
F_X12_canBuild_15 v0 v1 v3 v4 (0 : Int32) M)
def F_X12_canBuild_5 (v0 : Nat) (v1 : Int32) (v3 : Int32) (v4 : Int32) (M : xM) : Option (Int32 × xM) := xit (F_X12_canBuild_5b v0 v1) xFU (v3, v4, M)
def F_X12_canBuild (a0 : Nat) (a1 : Int32) (a2 : Int32) (M : xM) : Option (Int32 × xM) :=
F_X12_canBuild_5 a0 a1 a2 (0 : Int32) M
set_option maxRecDepth 100000 in
set_option maxHeartbeats 4000000 in
theorem F_X12_canBuild_74_ok (X : xX p s m args c cX12_canBuild 6 RX12 κ) (hr : meth.sig.returnType = (some .boolean)) (hlk : meth.locks = false) {ro : Int32} {mo : xM} (M : xM) (x : Int32 × xM) (h : F_X12_canBuild_74 M = some x) (hK : (fun o => o = (ro, mo)) x) (H : Heap) (locs : List Loc) (ls : Array Slot) (O : xO κ s M H locs) (hl : lv_has ls 6 []) : W p l e (xRm 3 0 0) s m args below meth c H locs 0 0 (xQf below args s 0 0 κ (some (.int ro)) mo) (F0 m 74 ls []) := by
  unfold F_X12_canBuild_74 at h
  have hx := X.1
  have hb := X.2.1
  refine lv_iconst (v := (0 : Int32)) hx hb dX12_canBuild_74 (by decide) ?_
  obtain ⟨t9, ht9, h⟩ := Option.bind_eq_some_iff.mp h
  rw [← Option.some.inj h] at hK
  have hK : (t9, M) = (ro, mo) := hK
  obtain ⟨hK1, hK2⟩ := Prod.mk.inj hK
  rw [hK1] at ht9
  rw [hK2] at O
  exact xr_zret X hr hlk O ht9 dX12_canBuild_75
set_option maxRecDepth 100000 in
set_option maxHeartbeats 4000000 in
theorem F_X12_canBuild_76_ok (X : xX p s m args c cX12_canBuild 6 RX12 κ) (hr : meth.sig.returnType = (some .boolean)) (hlk : meth.locks = false) {ro : Int32} {mo : xM} (v0 : Nat) (v1 : Int32) (v3 : Int32) (v4 : Int32) (v5 : Int32) {W5 : Int32 × Int32 × xM → Prop} (hW5 : ∀ (v3 : Int32) (v4 : Int32) (M : xM), W5 (v3, v4, M) → ∀ (H : Heap) (locs : List Loc) (ls : Array Slot), xO κ s M H locs → lv_has ls 6 [(0, .ref (κ.1 + v0)), (1, .int v1), (3, .int v3), (4, .int v4)] → W p l e (xRm 3 0 0) s m args below meth c H locs 0 0 (xQf below args s 0 0 κ (some (.int ro)) mo) (F0 m 5 ls [])) {W15 : Int32 × Int32 × xM → Prop} (hW15 : ∀ (v3 : Int32) (v5 : Int32) (M : xM), W15 (v3, v5, M) → ∀ (H : Heap) (locs : List Loc) (ls : Array Slot), xO κ s M H locs → lv_has ls 6 [(0, .ref (κ.1 + v0)), (1, .int v1), (3, .int v3), (4, .int v4), (5, .int v5)] → W p l e (xRm 3 0 0) s m args below meth c H locs 0 0 (xQf below args s 0 0 κ (some (.int ro)) mo) (F0 m 15 ls [])) (M : xM) (x : (Int32 × Int32 × xM) ⊕ ((Int32 × Int32 × xM) ⊕ (Int32 × xM))) (h : F_X12_canBuild_76 v0 v1 v3 v4 v5 M = some x) (hK : (xKl W15 (xKl W5 (fun o => o = (ro, mo)))) x) (H : Heap) (locs : List Loc) (ls : Array Slot) (O : xO κ s M H locs) (hl : lv_has ls 6 [(0, .ref (κ.1 + v0)), (1, .int v1), (3, .int v3), (4, .int v4), (5, .int v5)]) : W p l e (xRm 3 0 0) s m args below meth c H locs 0 0 (xQf below args s 0 0 κ (some (.int ro)) mo) (F0 m 76 ls []) := by
  unfold F_X12_canBuild_76 at h
  have hx := X.1
  have hb := X.2.1
  refine lv_iinc (v := (v5 + 1)) (lv' := [(5, .int (v5 + 1)), (0, .ref (κ.1 + v0)), (1, .int v1), (3, .int v3), (4, .int v4)]) hx hb dX12_canBuild_76 hl (k := 4) rfl rfl (by decide) rfl (fun ls hl => ?_)
  refine lv_goto (tgt := 15) hx hb dX12_canBuild_79 (by decide) ?_
  rw [← Option.some.inj h] at hK
  exact hW15 v3 (v5 + 1) M hK H locs ls O (lv_sub hl [1, 2, 3, 4, 0] rfl)
set_option maxRecDepth 100000 in
set_option maxHeartbeats 4000000 in
theorem F_X12_canBuild_82_ok (X : xX p s m args c cX12_canBuild 6 RX12 κ) (hr : meth.sig.returnType = (some .boolean)) (hlk : meth.locks = false) {ro : Int32} {mo : xM} (v0 : Nat) (v1 : Int32) (v3 : Int32) (v4 : Int32) {W5 : Int32 × Int32 × xM → Prop} (hW5 : ∀ (v3 : Int32) (v4 : Int32) (M : xM), W5 (v3, v4, M) → ∀ (H : Heap) (locs : List Loc) (ls : Array Slot), xO κ s M H locs → lv_has ls 6 [(0, .ref (κ.1 + v0)), (1, .int v1), (3, .int v3), (4, .int v4)] → W p l e (xRm 3 0 0) s m args below meth c H locs 0 0 (xQf below args s 0 0 κ (some (.int ro)) mo) (F0 m 5 ls [])) (M : xM) (x : (Int32 × Int32 × xM) ⊕ (Int32 × xM)) (h : F_X12_canBuild_82 v0 v1 v3 v4 M = some x) (hK : (xKl W5 (fun o => o = (ro, mo))) x) (H : Heap) (locs : List Loc) (ls : Array Slot) (O : xO κ s M H locs) (hl : lv_has ls 6 [(0, .ref (κ.1 + v0)), (1, .int v1), (3, .int v3), (4, .int v4)]) : W p l e (xRm 3 0 0) s m args below meth c H locs 0 0 (xQf below args s 0 0 κ (some (.int ro)) mo) (F0 m 82 ls []) := by
  unfold F_X12_canBuild_82 at h
  have hx := X.1
  have hb := X.2.1
  refine lv_iinc (v := (v4 + 1)) (lv' := [(4, .int (v4 + 1)), (0, .ref (κ.1 + v0)), (1, .int v1), (3, .int v3)]) hx hb dX12_canBuild_82 hl (k := 3) rfl rfl (by decide) rfl (fun ls hl => ?_)
  refine lv_goto (tgt := 5) hx hb dX12_canBuild_85 (by decide) ?_
  rw [← Option.some.inj h] at hK
  exact hW5 v3 (v4 + 1) M hK H locs ls O (lv_sub hl [1, 2, 3, 0] rfl)
set_option maxRecDepth 100000 in
set_option maxHeartbeats 4000000 in
theorem F_X12_canBuild_15_bok (X : xX p s m args c cX12_canBuild 6 RX12 κ) (hr : meth.sig.returnType = (some .boolean)) (hlk : meth.locks = false) {ro : Int32} {mo : xM} (v0 : Nat) (v1 : Int32) (v3 : Int32) (v4 : Int32) (v5 : Int32) {W5 : Int32 × Int32 × xM → Prop} (hW5 : ∀ (v3 : Int32) (v4 : Int32) (M : xM), W5 (v3, v4, M) → ∀ (H : Heap) (locs : List Loc) (ls : Array Slot), xO κ s M H locs → lv_has ls 6 [(0, .ref (κ.1 + v0)), (1, .int v1), (3, .int v3), (4, .int v4)] → W p l e (xRm 3 0 0) s m args below meth c H locs 0 0 (xQf below args s 0 0 κ (some (.int ro)) mo) (F0 m 5 ls [])) {W15 : Int32 × Int32 × xM → Prop} (hW15 : ∀ (v3 : Int32) (v5 : Int32) (M : xM), W15 (v3, v5, M) → ∀ (H : Heap) (locs : List Loc) (ls : Array Slot), xO κ s M H locs → lv_has ls 6 [(0, .ref (κ.1 + v0)), (1, .int v1), (3, .int v3), (4, .int v4), (5, .int v5)] → W p l e (xRm 3 0 0) s m args below meth c H locs 0 0 (xQf below args s 0 0 κ (some (.int ro)) mo) (F0 m 15 ls [])) (M : xM) (x : (Int32 × Int32 × xM) ⊕ ((Int32 × Int32 × xM) ⊕ (Int32 × xM))) (h : F_X12_canBuild_15b v0 v1 v4 (v3, v5, M) = some x) (hK : (xKl W15 (xKl W5 (fun o => o = (ro, mo)))) x) (H : Heap) (locs : List Loc) (ls : Array Slot) (O : xO κ s M H locs) (hl : lv_has ls 6 [(0, .ref (κ.1 + v0)), (1, .int v1), (3, .int v3), (4, .int v4), (5, .int v5)]) : W p l e (xRm 3 0 0) s m args below meth c H locs 0 0 (xQf below args s 0 0 κ (some (.int ro)) mo) (F0 m 15 ls []) := by
  unfold F_X12_canBuild_15b at h
  dsimp only at h
  have hx := X.1
  have hb := X.2.1
  refine lv_iload hx hb dX12_canBuild_15 (lv_at hl 4 rfl) ?_
  refine lv_aload_n hx hb dX12_canBuild_17 rfl (lv_at hl 0 rfl) ?_
  obtain ⟨t1, ht1, h⟩ := Option.bind_eq_some_iff.mp h
  refine xr_getP X O ht1 fl_X12_13 dX12_canBuild_18 ?_
  refine lv_iconst (v := (4 : Int32)) hx hb dX12_canBuild_21 (by decide) ?_
  obtain ⟨t2, ht2, h⟩ := Option.bind_eq_some_iff.mp h
  refine xr_aldI X O ht2 dX12_canBuild_22 ?_
  refine lv_icmp_ge (tgt := 82) hx hb dX12_canBuild_23 (by decide) (fun hc23 => ?_) (fun hc23 => ?_)
  · rw [if_pos hc23] at h
    obtain ⟨_, hw0, ew0⟩ := Option.map_eq_some_iff.mp h
    rw [← ew0] at hK
    have h := hw0
    exact F_X12_canBuild_82_ok X hr hlk v0 v1 v3 v4 hW5 M _ h hK H locs ls O (lv_sub hl [0, 1, 2, 3] rfl)
  rw [if_neg hc23] at h
  refine lv_iload_n hx hb dX12_canBuild_26 rfl (lv_at hl 1 rfl) ?_
  refine lv_i2l (v := v1.toInt64) hx hb dX12_canBuild_27 rfl ?_
  refine lv_iload hx hb dX12_canBuild_28 (lv_at hl 4 rfl) ?_
  obtain ⟨t3, ht3, h⟩ := Option.bind_eq_some_iff.mp h
  refine xr_callS (rest := []) X O (T_X12_isIn l κ v1.toInt64 v5 M _ _ ht3) lk_X12_253 (Nat.le_of_ble_eq_true rfl) rfl hl.1 rfl (Nat.le_of_ble_eq_true rfl) dX12_canBuild_30 ⟨Nat.le_of_ble_eq_true rfl, Nat.le_of_ble_eq_true rfl⟩ (fun H locs O => ?_)
  refine W.eq (g2 := F0 m 33 ls [.int t3.1]) rfl ?_
  refine lv_if_eq (tgt := 76) hx hb dX12_canBuild_33 (by decide) (fun hc33 => ?_) (fun hc33 => ?_)
  · rw [if_pos hc33] at h
    exact F_X12_canBuild_76_ok X hr hlk v0 v1 v3 v4 v5 hW5 hW15 t3.2 _ h hK H locs ls O (lv_sub hl [0, 1, 2, 3, 4] rfl)
  rw [if_neg hc33] at h
  refine lv_aload_n hx hb dX12_canBuild_36 rfl (lv_at hl 0 rfl) ?_
  obtain ⟨t4, ht4, h⟩ := Option.bind_eq_some_iff.mp h
  refine xr_getP X O ht4 fl_X12_54 dX12_canBuild_37 ?_
  refine lv_iload hx hb dX12_canBuild_40 (lv_at hl 4 rfl) ?_
  obtain ⟨t5, ht5, h⟩ := Option.bind_eq_some_iff.mp h
  refine xr_aldI X O ht5 dX12_canBuild_42 ?_
  refine lv_iload hx hb dX12_canBuild_43 (lv_at hl 3 rfl) ?_
  refine lv_icmp_eq (tgt := 51) hx hb dX12_canBuild_45 (by decide) (fun hc45 => ?_) (fun hc45 => ?_)
  · rw [if_pos hc45] at h
    refine lv_iload_n hx hb dX12_canBuild_51 rfl (lv_at hl 2 rfl) ?_
    refine lv_aload_n hx hb dX12_canBuild_52 rfl (lv_at hl 0 rfl) ?_
    obtain ⟨t6, ht6, h⟩ := Option.bind_eq_some_iff.mp h
    refine xr_getP X O ht6 fl_X12_13 dX12_canBuild_53 ?_
    refine lv_bipush (v := (13 : Int32)) hx hb dX12_canBuild_56 (by decide) ?_
    refine lv_iconst (v := (3 : Int32)) hx hb dX12_canBuild_58 (by decide) ?_
    refine lv_iload hx hb dX12_canBuild_59 (lv_at hl 4 rfl) ?_
    refine lv_imul hx hb dX12_canBuild_61 ?_
    refine lv_iadd hx hb dX12_canBuild_62 ?_
    refine lv_iconst (v := (1 : Int32)) hx hb dX12_canBuild_63 (by decide) ?_
    refine lv_iadd hx hb dX12_canBuild_64 ?_
    obtain ⟨t7, ht7, h⟩ := Option.bind_eq_some_iff.mp h
    refine xr_aldI X O ht7 dX12_canBuild_65 ?_
    refine lv_iadd hx hb dX12_canBuild_66 ?_
    obtain ⟨t8, ht8, h⟩ := Option.bind_eq_some_iff.mp h
    refine xr_top (w := .int t8) (by rw [Option.some.inj ht8]) ?_
    refine lv_istore_n (lv' := [(3, .int t8), (0, .ref (κ.1 + v0)), (1, .int v1), (4, .int v4), (5, .int v5)]) hx hb dX12_canBuild_67 rfl hl (by decide) rfl (fun ls hl => ?_)
    refine lv_iload_n hx hb dX12_canBuild_68 rfl (lv_at hl 0 rfl) ?_
    refine lv_iload hx hb dX12_canBuild_69 (lv_at hl 3 rfl) ?_
    refine lv_icmp_le (tgt := 76) hx hb dX12_canBuild_71 (by decide) (fun hc71 => ?_) (fun hc71 => ?_)
    · rw [if_pos hc71] at h
      exact F_X12_canBuild_76_ok X hr hlk v0 v1 t8 v4 v5 hW5 hW15 t3.2 _ h hK H locs ls O (lv_sub hl [1, 2, 0, 3, 4] rfl)
    rw [if_neg hc71] at h
    obtain ⟨_, hw0, ew0⟩ := Option.map_eq_some_iff.mp h
    rw [← ew0] at hK
    have h := hw0
    obtain ⟨_, hw1, ew1⟩ := Option.map_eq_some_iff.mp h
    rw [← ew1] at hK
    have h := hw1
    exact F_X12_canBuild_74_ok X hr hlk  t3.2 _ h hK H locs ls O (lv_sub hl [] rfl)
  rw [if_neg hc45] at h
  refine lv_goto (tgt := 76) hx hb dX12_canBuild_48 (by decide) ?_
  exact F_X12_canBuild_76_ok X hr hlk v0 v1 v3 v4 v5 hW5 hW15 t3.2 _ h hK H locs ls O (lv_sub hl [0, 1, 2, 3, 4] rfl)
set_option maxRecDepth 100000 in
set_option maxHeartbeats 4000000 in
theorem F_X12_canBuild_15_ok (X : xX p s m args c cX12_canBuild 6 RX12 κ) (hr : meth.sig.returnType = (some .boolean)) (hlk : meth.locks = false) {ro : Int32} {mo : xM} (v0 : Nat) (v1 : Int32) (v3 : Int32) (v4 : Int32) (v5 : Int32) {W5 : Int32 × Int32 × xM → Prop} (hW5 : ∀ (v3 : Int32) (v4 : Int32) (M : xM), W5 (v3, v4, M) → ∀ (H : Heap) (locs : List Loc) (ls : Array Slot), xO κ s M H locs → lv_has ls 6 [(0, .ref (κ.1 + v0)), (1, .int v1), (3, .int v3), (4, .int v4)] → W p l e (xRm 3 0 0) s m args below meth c H locs 0 0 (xQf below args s 0 0 κ (some (.int ro)) mo) (F0 m 5 ls [])) (M : xM) (x : (Int32 × Int32 × xM) ⊕ (Int32 × xM)) (h : F_X12_canBuild_15 v0 v1 v3 v4 v5 M = some x) (hK : (xKl W5 (fun o => o = (ro, mo))) x) (H : Heap) (locs : List Loc) (ls : Array Slot) (O : xO κ s M H locs) (hl : lv_has ls 6 [(0, .ref (κ.1 + v0)), (1, .int v1), (3, .int v3), (4, .int v4), (5, .int v5)]) : W p l e (xRm 3 0 0) s m args below meth c H locs 0 0 (xQf below args s 0 0 κ (some (.int ro)) mo) (F0 m 15 ls []) := by
  refine xit_K (Wh := fun x => ∀ (H : Heap) (locs : List Loc) (ls : Array Slot), xO κ s x.2.2 H locs → lv_has ls 6 [(0, .ref (κ.1 + v0)), (1, .int v1), (3, .int x.1), (4, .int v4), (5, .int x.2.1)] → W p l e (xRm 3 0 0) s m args below meth c H locs 0 0 (xQf below args s 0 0 κ (some (.int ro)) mo) (F0 m 15 ls [])) (Kp := (xKl W5 (fun o => o = (ro, mo)))) ?_ xFU (v3, v5, M) x h hK H locs ls O hl
  intro y x h hK H locs ls O hl
  exact F_X12_canBuild_15_bok X hr hlk v0 v1 y.1 v4 y.2.1 hW5 (fun _ _ _ hw => hw) y.2.2 x h hK H locs ls O hl
set_option maxRecDepth 100000 in
set_option maxHeartbeats 4000000 in
theorem F_X12_canBuild_88_ok (X : xX p s m args c cX12_canBuild 6 RX12 κ) (hr : meth.sig.returnType = (some .boolean)) (hlk : meth.locks = false) {ro : Int32} {mo : xM} (M : xM) (x : Int32 × xM) (h : F_X12_canBuild_88 M = some x) (hK : (fun o => o = (ro, mo)) x) (H : Heap) (locs : List Loc) (ls : Array Slot) (O : xO κ s M H locs) (hl : lv_has ls 6 []) : W p l e (xRm 3 0 0) s m args below meth c H locs 0 0 (xQf below args s 0 0 κ (some (.int ro)) mo) (F0 m 88 ls []) := by
  unfold F_X12_canBuild_88 at h
  have hx := X.1
  have hb := X.2.1
  refine lv_iconst (v := (1 : Int32)) hx hb dX12_canBuild_88 (by decide) ?_
  obtain ⟨t10, ht10, h⟩ := Option.bind_eq_some_iff.mp h
  rw [← Option.some.inj h] at hK
  have hK : (t10, M) = (ro, mo) := hK
  obtain ⟨hK1, hK2⟩ := Prod.mk.inj hK
  rw [hK1] at ht10
  rw [hK2] at O
  exact xr_zret X hr hlk O ht10 dX12_canBuild_89
set_option maxRecDepth 100000 in
set_option maxHeartbeats 4000000 in
theorem F_X12_canBuild_5_bok (X : xX p s m args c cX12_canBuild 6 RX12 κ) (hr : meth.sig.returnType = (some .boolean)) (hlk : meth.locks = false) {ro : Int32} {mo : xM} (v0 : Nat) (v1 : Int32) (v3 : Int32) (v4 : Int32) {W5 : Int32 × Int32 × xM → Prop} (hW5 : ∀ (v3 : Int32) (v4 : Int32) (M : xM), W5 (v3, v4, M) → ∀ (H : Heap) (locs : List Loc) (ls : Array Slot), xO κ s M H locs → lv_has ls 6 [(0, .ref (κ.1 + v0)), (1, .int v1), (3, .int v3), (4, .int v4)] → W p l e (xRm 3 0 0) s m args below meth c H locs 0 0 (xQf below args s 0 0 κ (some (.int ro)) mo) (F0 m 5 ls [])) (M : xM) (x : (Int32 × Int32 × xM) ⊕ (Int32 × xM)) (h : F_X12_canBuild_5b v0 v1 (v3, v4, M) = some x) (hK : (xKl W5 (fun o => o = (ro, mo))) x) (H : Heap) (locs : List Loc) (ls : Array Slot) (O : xO κ s M H locs) (hl : lv_has ls 6 [(0, .ref (κ.1 + v0)), (1, .int v1), (3, .int v3), (4, .int v4)]) : W p l e (xRm 3 0 0) s m args below meth c H locs 0 0 (xQf below args s 0 0 κ (some (.int ro)) mo) (F0 m 5 ls []) := by
  unfold F_X12_canBuild_5b at h
  dsimp only at h
  have hx := X.1
  have hb := X.2.1
  refine lv_iload hx hb dX12_canBuild_5 (lv_at hl 3 rfl) ?_
  refine lv_bipush (v := (60 : Int32)) hx hb dX12_canBuild_7 (by decide) ?_
  refine lv_icmp_gt (tgt := 88) hx hb dX12_canBuild_9 (by decide) (fun hc9 => ?_) (fun hc9 => ?_)
  · rw [if_pos hc9] at h
    obtain ⟨_, hw0, ew0⟩ := Option.map_eq_some_iff.mp h
    rw [← ew0] at hK
    have h := hw0
    exact F_X12_canBuild_88_ok X hr hlk  M _ h hK H locs ls O (lv_sub hl [] rfl)
  rw [if_neg hc9] at h
  refine lv_iconst (v := (0 : Int32)) hx hb dX12_canBuild_12 (by decide) ?_
  refine lv_istore (lv' := [(5, .int (0 : Int32)), (0, .ref (κ.1 + v0)), (1, .int v1), (3, .int v3), (4, .int v4)]) hx hb dX12_canBuild_13 hl (by decide) rfl (fun ls hl => ?_)
  exact F_X12_canBuild_15_ok X hr hlk v0 v1 v3 v4 (0 : Int32) hW5 M _ h hK H locs ls O (lv_sub hl [1, 2, 3, 4, 0] rfl)
set_option maxRecDepth 100000 in
set_option maxHeartbeats 4000000 in
theorem F_X12_canBuild_5_ok (X : xX p s m args c cX12_canBuild 6 RX12 κ) (hr : meth.sig.returnType = (some .boolean)) (hlk : meth.locks = false) {ro : Int32} {mo : xM} (v0 : Nat) (v1 : Int32) (v3 : Int32) (v4 : Int32) (M : xM) (x : Int32 × xM) (h : F_X12_canBuild_5 v0 v1 v3 v4 M = some x) (hK : (fun o => o = (ro, mo)) x) (H : Heap) (locs : List Loc) (ls : Array Slot) (O : xO κ s M H locs) (hl : lv_has ls 6 [(0, .ref (κ.1 + v0)), (1, .int v1), (3, .int v3), (4, .int v4)]) : W p l e (xRm 3 0 0) s m args below meth c H locs 0 0 (xQf below args s 0 0 κ (some (.int ro)) mo) (F0 m 5 ls []) := by
  refine xit_K (Wh := fun x => ∀ (H : Heap) (locs : List Loc) (ls : Array Slot), xO κ s x.2.2 H locs → lv_has ls 6 [(0, .ref (κ.1 + v0)), (1, .int v1), (3, .int x.1), (4, .int x.2.1)] → W p l e (xRm 3 0 0) s m args below meth c H locs 0 0 (xQf below args s 0 0 κ (some (.int ro)) mo) (F0 m 5 ls [])) (Kp := (fun o => o = (ro, mo))) ?_ xFU (v3, v4, M) x h hK H locs ls O hl
  intro y x h hK H locs ls O hl
  exact F_X12_canBuild_5_bok X hr hlk v0 v1 y.1 y.2.1 (fun _ _ _ hw => hw) y.2.2 x h hK H locs ls O hl
set_option maxRecDepth 100000 in
set_option maxHeartbeats 4000000 in
theorem T_X12_canBuild (l : Launch) (κ : xQ) (a0 : Nat) (a1 : Int32) (a2 : Int32) (M : xM) (ro : Int32) (mo : xM) (h : F_X12_canBuild a0 a1 a2 M = some (ro, mo)) : xC l yX12_canBuild cX12_canBuild 6 (some .boolean) 3 0 0 κ [.ref (κ.1 + a0), .int a1, .int a2] M (some (.int ro)) mo := by
  refine xC_of rfl (Nat.le_of_ble_eq_true rfl) fun p e s m args below meth c X hr hlk hnm H locs ls O hl => ?_
  have X : xX p s m args c cX12_canBuild 6 RX12 κ := X
  have hl : lv_has ls 6 [(0, .ref (κ.1 + a0)), (1, .int a1), (2, .int a2)] := hl
  have hx := X.1
  have hb := X.2.1
  obtain ⟨x, hx0⟩ : ∃ x, (ro, mo) = x := ⟨_, rfl⟩
  rw [hx0] at h
  have hK : x = (ro, mo) := hx0.symm
  unfold F_X12_canBuild at h
  refine lv_iload_n hx hb dX12_canBuild_0 rfl (lv_at hl 2 rfl) ?_
  refine lv_istore_n (lv' := [(3, .int a2), (0, .ref (κ.1 + a0)), (1, .int a1), (2, .int a2)]) hx hb dX12_canBuild_1 rfl hl (by decide) rfl (fun ls hl => ?_)
  refine lv_iconst (v := (0 : Int32)) hx hb dX12_canBuild_2 (by decide) ?_
  refine lv_istore (lv' := [(4, .int (0 : Int32)), (3, .int a2), (0, .ref (κ.1 + a0)), (1, .int a1), (2, .int a2)]) hx hb dX12_canBuild_3 hl (by decide) rfl (fun ls hl => ?_)
  exact F_X12_canBuild_5_ok X hr hlk a0 a1 a2 (0 : Int32) M _ h hK H locs ls O (lv_sub hl [2, 3, 1, 0] rfl)
def F_X12_worthOf_41 (v0 : Nat) (v1 : Int32) (v3 : Int32) (s0 : Int32) (s1 : Int32) (M : xM) : Option ((Int32 × Int32 × xM) ⊕ (Int32 × xM)) :=
(some ((s1 + s0))).bind fun t6 =>
some (.inl (t6, (v3 + 1), M))
def F_X12_worthOf_49 (v2 : Int32) (M : xM) : Option (Int32 × xM) :=
some (v2, M)
def F_X12_worthOf_4b (v0 : Nat) (v1 : Int32) : (Int32 × Int32 × xM) → Option ((Int32 × Int32 × xM) ⊕ (Int32 × xM)) := fun ⟨v2, v3, M⟩ =>
(xgP M v0 12 1).bind fun t1 =>
(xaI M 20 t1 (4 : Int32)).bind fun t2 =>
if t2 ≤ v3 then (
(F_X12_worthOf_49 v2 M).map Sum.inr)
else (
(F_X12_isIn v1.toInt64 v3 M).bind fun t3 =>
if t3.1 = 0 then (
F_X12_worthOf_41 v0 v1 v3 (0 : Int32) v2 t3.2)
else (
(xgP t3.2 v0 12 1).bind fun t4 =>
(xaI t3.2 20 t4 (((13 : Int32) + ((3 : Int32) * v3)) + (2 : Int32))).bind fun t5 =>
F_X12_worthOf_41 v0 v1 v3 t5 v2 t3.2))
def F_X12_worthOf_4 (v0 : Nat) (v1 : Int32) (v2 : Int32) (v3 : Int32) (M : xM) : Option (Int32 × xM) := xit (F_X12_worthOf_4b v0 v1) xFU (v2, v3, M)
def F_X12_worthOf (a0 : Nat) (a1 : Int32) (M : xM) : Option (Int32 × xM) :=
F_X12_worthOf_4 a0 a1 (0 : Int32) (0 : Int32) M
set_option maxRecDepth 100000 in
set_option maxHeartbeats 4000000 in
theorem F_X12_worthOf_41_ok (X : xX p s m args c cX12_worthOf 4 RX12 κ) (hr : meth.sig.returnType = (some .int)) (hlk : meth.locks = false) {ro : Int32} {mo : xM} (v0 : Nat) (v1 : Int32) (v3 : Int32) (s0 : Int32) (s1 : Int32) {W4 : Int32 × Int32 × xM → Prop} (hW4 : ∀ (v2 : Int32) (v3 : Int32) (M : xM), W4 (v2, v3, M) → ∀ (H : Heap) (locs : List Loc) (ls : Array Slot), xO κ s M H locs → lv_has ls 4 [(0, .ref (κ.1 + v0)), (1, .int v1), (2, .int v2), (3, .int v3)] → W p l e (xRm 3 0 0) s m args below meth c H locs 0 0 (xQf below args s 0 0 κ (some (.int ro)) mo) (F0 m 4 ls [])) (M : xM) (x : (Int32 × Int32 × xM) ⊕ (Int32 × xM)) (h : F_X12_worthOf_41 v0 v1 v3 s0 s1 M = some x) (hK : (xKl W4 (fun o => o = (ro, mo))) x) (H : Heap) (locs : List Loc) (ls : Array Slot) (O : xO κ s M H locs) (hl : lv_has ls 4 [(0, .ref (κ.1 + v0)), (1, .int v1), (3, .int v3)]) : W p l e (xRm 3 0 0) s m args below meth c H locs 0 0 (xQf below args s 0 0 κ (some (.int ro)) mo) (F0 m 41 ls [.int s0, .int s1]) := by
  unfold F_X12_worthOf_41 at h
  have hx := X.1
  have hb := X.2.1
  refine lv_iadd hx hb dX12_worthOf_41 ?_
  obtain ⟨t6, ht6, h⟩ := Option.bind_eq_some_iff.mp h
  refine xr_top (w := .int t6) (by rw [Option.some.inj ht6]) ?_
  refine lv_istore_n (lv' := [(2, .int t6), (0, .ref (κ.1 + v0)), (1, .int v1), (3, .int v3)]) hx hb dX12_worthOf_42 rfl hl (by decide) rfl (fun ls hl => ?_)
  refine lv_iinc (v := (v3 + 1)) (lv' := [(3, .int (v3 + 1)), (2, .int t6), (0, .ref (κ.1 + v0)), (1, .int v1)]) hx hb dX12_worthOf_43 hl (k := 3) rfl rfl (by decide) rfl (fun ls hl => ?_)
  refine lv_goto (tgt := 4) hx hb dX12_worthOf_46 (by decide) ?_
  rw [← Option.some.inj h] at hK
  exact hW4 t6 (v3 + 1) M hK H locs ls O (lv_sub hl [2, 3, 1, 0] rfl)
set_option maxRecDepth 100000 in
set_option maxHeartbeats 4000000 in
theorem F_X12_worthOf_49_ok (X : xX p s m args c cX12_worthOf 4 RX12 κ) (hr : meth.sig.returnType = (some .int)) (hlk : meth.locks = false) {ro : Int32} {mo : xM} (v2 : Int32) (M : xM) (x : Int32 × xM) (h : F_X12_worthOf_49 v2 M = some x) (hK : (fun o => o = (ro, mo)) x) (H : Heap) (locs : List Loc) (ls : Array Slot) (O : xO κ s M H locs) (hl : lv_has ls 4 [(2, .int v2)]) : W p l e (xRm 3 0 0) s m args below meth c H locs 0 0 (xQf below args s 0 0 κ (some (.int ro)) mo) (F0 m 49 ls []) := by
  unfold F_X12_worthOf_49 at h
  have hx := X.1
  have hb := X.2.1
  refine lv_iload_n hx hb dX12_worthOf_49 rfl (lv_at hl 0 rfl) ?_
  rw [← Option.some.inj h] at hK
  have hK : (v2, M) = (ro, mo) := hK
  obtain ⟨hK1, hK2⟩ := Prod.mk.inj hK
  rw [hK2] at O
  refine xr_top (w := .int ro) (by rw [hK1]) ?_
  exact xr_iret X hr hlk O dX12_worthOf_50
set_option maxRecDepth 100000 in
set_option maxHeartbeats 4000000 in
theorem F_X12_worthOf_4_bok (X : xX p s m args c cX12_worthOf 4 RX12 κ) (hr : meth.sig.returnType = (some .int)) (hlk : meth.locks = false) {ro : Int32} {mo : xM} (v0 : Nat) (v1 : Int32) (v2 : Int32) (v3 : Int32) {W4 : Int32 × Int32 × xM → Prop} (hW4 : ∀ (v2 : Int32) (v3 : Int32) (M : xM), W4 (v2, v3, M) → ∀ (H : Heap) (locs : List Loc) (ls : Array Slot), xO κ s M H locs → lv_has ls 4 [(0, .ref (κ.1 + v0)), (1, .int v1), (2, .int v2), (3, .int v3)] → W p l e (xRm 3 0 0) s m args below meth c H locs 0 0 (xQf below args s 0 0 κ (some (.int ro)) mo) (F0 m 4 ls [])) (M : xM) (x : (Int32 × Int32 × xM) ⊕ (Int32 × xM)) (h : F_X12_worthOf_4b v0 v1 (v2, v3, M) = some x) (hK : (xKl W4 (fun o => o = (ro, mo))) x) (H : Heap) (locs : List Loc) (ls : Array Slot) (O : xO κ s M H locs) (hl : lv_has ls 4 [(0, .ref (κ.1 + v0)), (1, .int v1), (2, .int v2), (3, .int v3)]) : W p l e (xRm 3 0 0) s m args below meth c H locs 0 0 (xQf below args s 0 0 κ (some (.int ro)) mo) (F0 m 4 ls []) := by
  unfold F_X12_worthOf_4b at h
  dsimp only at h
  have hx := X.1
  have hb := X.2.1
  refine lv_iload_n hx hb dX12_worthOf_4 rfl (lv_at hl 3 rfl) ?_
  refine lv_aload_n hx hb dX12_worthOf_5 rfl (lv_at hl 0 rfl) ?_
  obtain ⟨t1, ht1, h⟩ := Option.bind_eq_some_iff.mp h
  refine xr_getP X O ht1 fl_X12_13 dX12_worthOf_6 ?_
  refine lv_iconst (v := (4 : Int32)) hx hb dX12_worthOf_9 (by decide) ?_
  obtain ⟨t2, ht2, h⟩ := Option.bind_eq_some_iff.mp h
  refine xr_aldI X O ht2 dX12_worthOf_10 ?_
  refine lv_icmp_ge (tgt := 49) hx hb dX12_worthOf_11 (by decide) (fun hc11 => ?_) (fun hc11 => ?_)
  · rw [if_pos hc11] at h
    obtain ⟨_, hw0, ew0⟩ := Option.map_eq_some_iff.mp h
    rw [← ew0] at hK
    have h := hw0
    exact F_X12_worthOf_49_ok X hr hlk v2 M _ h hK H locs ls O (lv_sub hl [2] rfl)
  rw [if_neg hc11] at h
  refine lv_iload_n hx hb dX12_worthOf_14 rfl (lv_at hl 2 rfl) ?_
  refine lv_iload_n hx hb dX12_worthOf_15 rfl (lv_at hl 1 rfl) ?_
  refine lv_i2l (v := v1.toInt64) hx hb dX12_worthOf_16 rfl ?_
  refine lv_iload_n hx hb dX12_worthOf_17 rfl (lv_at hl 3 rfl) ?_
  obtain ⟨t3, ht3, h⟩ := Option.bind_eq_some_iff.mp h
  refine xr_callS (rest := [.int v2]) X O (T_X12_isIn l κ v1.toInt64 v3 M _ _ ht3) lk_X12_253 (Nat.le_of_ble_eq_true rfl) rfl hl.1 rfl (Nat.le_of_ble_eq_true rfl) dX12_worthOf_18 ⟨Nat.le_of_ble_eq_true rfl, Nat.le_of_ble_eq_true rfl⟩ (fun H locs O => ?_)
  refine W.eq (g2 := F0 m 21 ls [.int t3.1, .int v2]) rfl ?_
  refine lv_if_eq (tgt := 40) hx hb dX12_worthOf_21 (by decide) (fun hc21 => ?_) (fun hc21 => ?_)
  · rw [if_pos hc21] at h
    refine lv_iconst (v := (0 : Int32)) hx hb dX12_worthOf_40 (by decide) ?_
    exact F_X12_worthOf_41_ok X hr hlk v0 v1 v3 (0 : Int32) v2 hW4 t3.2 _ h hK H locs ls O (lv_sub hl [0, 1, 3] rfl)
  rw [if_neg hc21] at h
  refine lv_aload_n hx hb dX12_worthOf_24 rfl (lv_at hl 0 rfl) ?_
  obtain ⟨t4, ht4, h⟩ := Option.bind_eq_some_iff.mp h
  refine xr_getP X O ht4 fl_X12_13 dX12_worthOf_25 ?_
  refine lv_bipush (v := (13 : Int32)) hx hb dX12_worthOf_28 (by decide) ?_
  refine lv_iconst (v := (3 : Int32)) hx hb dX12_worthOf_30 (by decide) ?_
  refine lv_iload_n hx hb dX12_worthOf_31 rfl (lv_at hl 3 rfl) ?_
  refine lv_imul hx hb dX12_worthOf_32 ?_
  refine lv_iadd hx hb dX12_worthOf_33 ?_
  refine lv_iconst (v := (2 : Int32)) hx hb dX12_worthOf_34 (by decide) ?_
  refine lv_iadd hx hb dX12_worthOf_35 ?_
  obtain ⟨t5, ht5, h⟩ := Option.bind_eq_some_iff.mp h
  refine xr_aldI X O ht5 dX12_worthOf_36 ?_
  refine lv_goto (tgt := 41) hx hb dX12_worthOf_37 (by decide) ?_
  exact F_X12_worthOf_41_ok X hr hlk v0 v1 v3 t5 v2 hW4 t3.2 _ h hK H locs ls O (lv_sub hl [0, 1, 3] rfl)
set_option maxRecDepth 100000 in
set_option maxHeartbeats 4000000 in
theorem F_X12_worthOf_4_ok (X : xX p s m args c cX12_worthOf 4 RX12 κ) (hr : meth.sig.returnType = (some .int)) (hlk : meth.locks = false) {ro : Int32} {mo : xM} (v0 : Nat) (v1 : Int32) (v2 : Int32) (v3 : Int32) (M : xM) (x : Int32 × xM) (h : F_X12_worthOf_4 v0 v1 v2 v3 M = some x) (hK : (fun o => o = (ro, mo)) x) (H : Heap) (locs : List Loc) (ls : Array Slot) (O : xO κ s M H locs) (hl : lv_has ls 4 [(0, .ref (κ.1 + v0)), (1, .int v1), (2, .int v2), (3, .int v3)]) : W p l e (xRm 3 0 0) s m args below meth c H locs 0 0 (xQf below args s 0 0 κ (some (.int ro)) mo) (F0 m 4 ls []) := by
  refine xit_K (Wh := fun x => ∀ (H : Heap) (locs : List Loc) (ls : Array Slot), xO κ s x.2.2 H locs → lv_has ls 4 [(0, .ref (κ.1 + v0)), (1, .int v1), (2, .int x.1), (3, .int x.2.1)] → W p l e (xRm 3 0 0) s m args below meth c H locs 0 0 (xQf below args s 0 0 κ (some (.int ro)) mo) (F0 m 4 ls [])) (Kp := (fun o => o = (ro, mo))) ?_ xFU (v2, v3, M) x h hK H locs ls O hl
  intro y x h hK H locs ls O hl
  exact F_X12_worthOf_4_bok X hr hlk v0 v1 y.1 y.2.1 (fun _ _ _ hw => hw) y.2.2 x h hK H locs ls O hl
set_option maxRecDepth 100000 in
set_option maxHeartbeats 4000000 in
theorem T_X12_worthOf (l : Launch) (κ : xQ) (a0 : Nat) (a1 : Int32) (M : xM) (ro : Int32) (mo : xM) (h : F_X12_worthOf a0 a1 M = some (ro, mo)) : xC l yX12_worthOf cX12_worthOf 4 (some .int) 3 0 0 κ [.ref (κ.1 + a0), .int a1] M (some (.int ro)) mo := by
  refine xC_of rfl (Nat.le_of_ble_eq_true rfl) fun p e s m args below meth c X hr hlk hnm H locs ls O hl => ?_
  have X : xX p s m args c cX12_worthOf 4 RX12 κ := X
  have hl : lv_has ls 4 [(0, .ref (κ.1 + a0)), (1, .int a1)] := hl
  have hx := X.1
  have hb := X.2.1
  obtain ⟨x, hx0⟩ : ∃ x, (ro, mo) = x := ⟨_, rfl⟩
  rw [hx0] at h
  have hK : x = (ro, mo) := hx0.symm
  unfold F_X12_worthOf at h
  refine lv_iconst (v := (0 : Int32)) hx hb dX12_worthOf_0 (by decide) ?_
  refine lv_istore_n (lv' := [(2, .int (0 : Int32)), (0, .ref (κ.1 + a0)), (1, .int a1)]) hx hb dX12_worthOf_1 rfl hl (by decide) rfl (fun ls hl => ?_)
  refine lv_iconst (v := (0 : Int32)) hx hb dX12_worthOf_2 (by decide) ?_
  refine lv_istore_n (lv' := [(3, .int (0 : Int32)), (2, .int (0 : Int32)), (0, .ref (κ.1 + a0)), (1, .int a1)]) hx hb dX12_worthOf_3 rfl hl (by decide) rfl (fun ls hl => ?_)
  exact F_X12_worthOf_4_ok X hr hlk a0 a1 (0 : Int32) (0 : Int32) M _ h hK H locs ls O (lv_sub hl [2, 3, 1, 0] rfl)
def F_X12_bestPlots_44 (v0 : Nat) (v1 : Int32) (v2 : Int32) (M : xM) : Option ((Int32 × Int32 × xM) ⊕ (Int32 × xM)) :=
some (.inl (v1, (v2 + 1), M))
def F_X12_bestPlots_50 (v1 : Int32) (M : xM) : Option (Int32 × xM) :=
some (v1, M)
def F_X12_bestPlots_8b (v0 : Nat) : (Int32 × Int32 × xM) → Option ((Int32 × Int32 × xM) ⊕ (Int32 × xM)) := fun ⟨v1, v2, M⟩ =>
(xgP M v0 12 1).bind fun t3 =>
(xaI M 20 t3 (4 : Int32)).bind fun t4 =>
if ((1 : Int32) <<< (t4 &&& 31)) ≤ v2 then (
(F_X12_bestPlots_50 v1 M).map Sum.inr)
else (
(xck M v0 12).bind fun _ =>
(F_X12_worthOf v0 v2 M).bind fun t6 =>
(xck t6.2 v0 12).bind fun _ =>
(F_X12_worthOf v0 v1 t6.2).bind fun t8 =>
if t6.1 ≤ t8.1 then (
F_X12_bestPlots_44 v0 v1 v2 t8.2)
else (
(xck t8.2 v0 12).bind fun _ =>
(F_X12_canBuild v0 v2 (0 : Int32) t8.2).bind fun t10 =>
if t10.1 = 0 then (
F_X12_bestPlots_44 v0 v1 v2 t10.2)
else (
F_X12_bestPlots_44 v0 v2 v2 t10.2)))
def F_X12_bestPlots_8 (v0 : Nat) (v1 : Int32) (v2 : Int32) (M : xM) : Option (Int32 × xM) := xit (F_X12_bestPlots_8b v0) xFU (v1, v2, M)
def F_X12_bestPlots (a0 : Nat) (M : xM) : Option (Int32 × xM) :=
(xck M a0 12).bind fun _ =>
(F_X12_laysUntil a0 M).bind fun t2 =>
F_X12_bestPlots_8 a0 (0 : Int32) (1 : Int32) t2
set_option maxRecDepth 100000 in
set_option maxHeartbeats 4000000 in
theorem F_X12_bestPlots_44_ok (X : xX p s m args c cX12_bestPlots 3 RX12 κ) (hr : meth.sig.returnType = (some .int)) (hlk : meth.locks = false) {ro : Int32} {mo : xM} (v0 : Nat) (v1 : Int32) (v2 : Int32) {W8 : Int32 × Int32 × xM → Prop} (hW8 : ∀ (v1 : Int32) (v2 : Int32) (M : xM), W8 (v1, v2, M) → ∀ (H : Heap) (locs : List Loc) (ls : Array Slot), xO κ s M H locs → lv_has ls 3 [(0, .ref (κ.1 + v0)), (1, .int v1), (2, .int v2)] → W p l e (xRm 9 0 0) s m args below meth c H locs 0 0 (xQf below args s 0 0 κ (some (.int ro)) mo) (F0 m 8 ls [])) (M : xM) (x : (Int32 × Int32 × xM) ⊕ (Int32 × xM)) (h : F_X12_bestPlots_44 v0 v1 v2 M = some x) (hK : (xKl W8 (fun o => o = (ro, mo))) x) (H : Heap) (locs : List Loc) (ls : Array Slot) (O : xO κ s M H locs) (hl : lv_has ls 3 [(0, .ref (κ.1 + v0)), (1, .int v1), (2, .int v2)]) : W p l e (xRm 9 0 0) s m args below meth c H locs 0 0 (xQf below args s 0 0 κ (some (.int ro)) mo) (F0 m 44 ls []) := by
  unfold F_X12_bestPlots_44 at h
  have hx := X.1
  have hb := X.2.1
  refine lv_iinc (v := (v2 + 1)) (lv' := [(2, .int (v2 + 1)), (0, .ref (κ.1 + v0)), (1, .int v1)]) hx hb dX12_bestPlots_44 hl (k := 2) rfl rfl (by decide) rfl (fun ls hl => ?_)
  refine lv_goto (tgt := 8) hx hb dX12_bestPlots_47 (by decide) ?_
  rw [← Option.some.inj h] at hK
  exact hW8 v1 (v2 + 1) M hK H locs ls O (lv_sub hl [1, 2, 0] rfl)
set_option maxRecDepth 100000 in
set_option maxHeartbeats 4000000 in
theorem F_X12_bestPlots_50_ok (X : xX p s m args c cX12_bestPlots 3 RX12 κ) (hr : meth.sig.returnType = (some .int)) (hlk : meth.locks = false) {ro : Int32} {mo : xM} (v1 : Int32) (M : xM) (x : Int32 × xM) (h : F_X12_bestPlots_50 v1 M = some x) (hK : (fun o => o = (ro, mo)) x) (H : Heap) (locs : List Loc) (ls : Array Slot) (O : xO κ s M H locs) (hl : lv_has ls 3 [(1, .int v1)]) : W p l e (xRm 9 0 0) s m args below meth c H locs 0 0 (xQf below args s 0 0 κ (some (.int ro)) mo) (F0 m 50 ls []) := by
  unfold F_X12_bestPlots_50 at h
  have hx := X.1
  have hb := X.2.1
  refine lv_iload_n hx hb dX12_bestPlots_50 rfl (lv_at hl 0 rfl) ?_
  rw [← Option.some.inj h] at hK
  have hK : (v1, M) = (ro, mo) := hK
  obtain ⟨hK1, hK2⟩ := Prod.mk.inj hK
  rw [hK2] at O
  refine xr_top (w := .int ro) (by rw [hK1]) ?_
  exact xr_iret X hr hlk O dX12_bestPlots_51
set_option maxRecDepth 100000 in
set_option maxHeartbeats 4000000 in
theorem F_X12_bestPlots_8_bok (X : xX p s m args c cX12_bestPlots 3 RX12 κ) (hr : meth.sig.returnType = (some .int)) (hlk : meth.locks = false) {ro : Int32} {mo : xM} (v0 : Nat) (v1 : Int32) (v2 : Int32) {W8 : Int32 × Int32 × xM → Prop} (hW8 : ∀ (v1 : Int32) (v2 : Int32) (M : xM), W8 (v1, v2, M) → ∀ (H : Heap) (locs : List Loc) (ls : Array Slot), xO κ s M H locs → lv_has ls 3 [(0, .ref (κ.1 + v0)), (1, .int v1), (2, .int v2)] → W p l e (xRm 9 0 0) s m args below meth c H locs 0 0 (xQf below args s 0 0 κ (some (.int ro)) mo) (F0 m 8 ls [])) (M : xM) (x : (Int32 × Int32 × xM) ⊕ (Int32 × xM)) (h : F_X12_bestPlots_8b v0 (v1, v2, M) = some x) (hK : (xKl W8 (fun o => o = (ro, mo))) x) (H : Heap) (locs : List Loc) (ls : Array Slot) (O : xO κ s M H locs) (hl : lv_has ls 3 [(0, .ref (κ.1 + v0)), (1, .int v1), (2, .int v2)]) : W p l e (xRm 9 0 0) s m args below meth c H locs 0 0 (xQf below args s 0 0 κ (some (.int ro)) mo) (F0 m 8 ls []) := by
  unfold F_X12_bestPlots_8b at h
  dsimp only at h
  have hx := X.1
  have hb := X.2.1
  refine lv_iload_n hx hb dX12_bestPlots_8 rfl (lv_at hl 2 rfl) ?_
  refine lv_iconst (v := (1 : Int32)) hx hb dX12_bestPlots_9 (by decide) ?_
  refine lv_aload_n hx hb dX12_bestPlots_10 rfl (lv_at hl 0 rfl) ?_
  obtain ⟨t3, ht3, h⟩ := Option.bind_eq_some_iff.mp h
  refine xr_getP X O ht3 fl_X12_13 dX12_bestPlots_11 ?_
  refine lv_iconst (v := (4 : Int32)) hx hb dX12_bestPlots_14 (by decide) ?_
  obtain ⟨t4, ht4, h⟩ := Option.bind_eq_some_iff.mp h
  refine xr_aldI X O ht4 dX12_bestPlots_15 ?_
  refine lv_ishl hx hb dX12_bestPlots_16 ?_
  refine lv_icmp_ge (tgt := 50) hx hb dX12_bestPlots_17 (by decide) (fun hc17 => ?_) (fun hc17 => ?_)
  · rw [if_pos hc17] at h
    obtain ⟨_, hw0, ew0⟩ := Option.map_eq_some_iff.mp h
    rw [← ew0] at hK
    have h := hw0
    exact F_X12_bestPlots_50_ok X hr hlk v1 M _ h hK H locs ls O (lv_sub hl [1] rfl)
  rw [if_neg hc17] at h
  refine lv_aload_n hx hb dX12_bestPlots_20 rfl (lv_at hl 0 rfl) ?_
  refine lv_iload_n hx hb dX12_bestPlots_21 rfl (lv_at hl 2 rfl) ?_
  obtain ⟨_, hut5, h⟩ := Option.bind_eq_some_iff.mp h
  obtain ⟨t6, ht6, h⟩ := Option.bind_eq_some_iff.mp h
  refine xr_callV (rest := []) X O (T_X12_worthOf l κ v0 v2 M _ _ ht6) lk_X12_398 hut5 (Nat.le_of_ble_eq_true rfl) rfl hl.1 rfl (Nat.le_of_ble_eq_true rfl) dX12_bestPlots_22 ⟨Nat.le_of_ble_eq_true rfl, Nat.le_of_ble_eq_true rfl⟩ (fun H locs O => ?_)
  refine W.eq (g2 := F0 m 25 ls [.int t6.1]) rfl ?_
  refine lv_aload_n hx hb dX12_bestPlots_25 rfl (lv_at hl 0 rfl) ?_
  refine lv_iload_n hx hb dX12_bestPlots_26 rfl (lv_at hl 1 rfl) ?_
  obtain ⟨_, hut7, h⟩ := Option.bind_eq_some_iff.mp h
  obtain ⟨t8, ht8, h⟩ := Option.bind_eq_some_iff.mp h
  refine xr_callV (rest := [.int t6.1]) X O (T_X12_worthOf l κ v0 v1 t6.2 _ _ ht8) lk_X12_398 hut7 (Nat.le_of_ble_eq_true rfl) rfl hl.1 rfl (Nat.le_of_ble_eq_true rfl) dX12_bestPlots_27 ⟨Nat.le_of_ble_eq_true rfl, Nat.le_of_ble_eq_true rfl⟩ (fun H locs O => ?_)
  refine W.eq (g2 := F0 m 30 ls [.int t8.1, .int t6.1]) rfl ?_
  refine lv_icmp_le (tgt := 44) hx hb dX12_bestPlots_30 (by decide) (fun hc30 => ?_) (fun hc30 => ?_)
  · rw [if_pos hc30] at h
    exact F_X12_bestPlots_44_ok X hr hlk v0 v1 v2 hW8 t8.2 _ h hK H locs ls O (lv_sub hl [0, 1, 2] rfl)
  rw [if_neg hc30] at h
  refine lv_aload_n hx hb dX12_bestPlots_33 rfl (lv_at hl 0 rfl) ?_
  refine lv_iload_n hx hb dX12_bestPlots_34 rfl (lv_at hl 2 rfl) ?_
  refine lv_iconst (v := (0 : Int32)) hx hb dX12_bestPlots_35 (by decide) ?_
  obtain ⟨_, hut9, h⟩ := Option.bind_eq_some_iff.mp h
  obtain ⟨t10, ht10, h⟩ := Option.bind_eq_some_iff.mp h
  refine xr_callV (rest := []) X O (T_X12_canBuild l κ v0 v2 (0 : Int32) t8.2 _ _ ht10) lk_X12_401 hut9 (Nat.le_of_ble_eq_true rfl) rfl hl.1 rfl (Nat.le_of_ble_eq_true rfl) dX12_bestPlots_36 ⟨Nat.le_of_ble_eq_true rfl, Nat.le_of_ble_eq_true rfl⟩ (fun H locs O => ?_)
  refine W.eq (g2 := F0 m 39 ls [.int t10.1]) rfl ?_
  refine lv_if_eq (tgt := 44) hx hb dX12_bestPlots_39 (by decide) (fun hc39 => ?_) (fun hc39 => ?_)
  · rw [if_pos hc39] at h
    exact F_X12_bestPlots_44_ok X hr hlk v0 v1 v2 hW8 t10.2 _ h hK H locs ls O (lv_sub hl [0, 1, 2] rfl)
  rw [if_neg hc39] at h
  refine lv_iload_n hx hb dX12_bestPlots_42 rfl (lv_at hl 2 rfl) ?_
  refine lv_istore_n (lv' := [(1, .int v2), (0, .ref (κ.1 + v0)), (2, .int v2)]) hx hb dX12_bestPlots_43 rfl hl (by decide) rfl (fun ls hl => ?_)
  exact F_X12_bestPlots_44_ok X hr hlk v0 v2 v2 hW8 t10.2 _ h hK H locs ls O (lv_sub hl [1, 0, 2] rfl)
set_option maxRecDepth 100000 in
set_option maxHeartbeats 4000000 in
theorem F_X12_bestPlots_8_ok (X : xX p s m args c cX12_bestPlots 3 RX12 κ) (hr : meth.sig.returnType = (some .int)) (hlk : meth.locks = false) {ro : Int32} {mo : xM} (v0 : Nat) (v1 : Int32) (v2 : Int32) (M : xM) (x : Int32 × xM) (h : F_X12_bestPlots_8 v0 v1 v2 M = some x) (hK : (fun o => o = (ro, mo)) x) (H : Heap) (locs : List Loc) (ls : Array Slot) (O : xO κ s M H locs) (hl : lv_has ls 3 [(0, .ref (κ.1 + v0)), (1, .int v1), (2, .int v2)]) : W p l e (xRm 9 0 0) s m args below meth c H locs 0 0 (xQf below args s 0 0 κ (some (.int ro)) mo) (F0 m 8 ls []) := by
  refine xit_K (Wh := fun x => ∀ (H : Heap) (locs : List Loc) (ls : Array Slot), xO κ s x.2.2 H locs → lv_has ls 3 [(0, .ref (κ.1 + v0)), (1, .int x.1), (2, .int x.2.1)] → W p l e (xRm 9 0 0) s m args below meth c H locs 0 0 (xQf below args s 0 0 κ (some (.int ro)) mo) (F0 m 8 ls [])) (Kp := (fun o => o = (ro, mo))) ?_ xFU (v1, v2, M) x h hK H locs ls O hl
  intro y x h hK H locs ls O hl
  exact F_X12_bestPlots_8_bok X hr hlk v0 y.1 y.2.1 (fun _ _ _ hw => hw) y.2.2 x h hK H locs ls O hl
set_option maxRecDepth 100000 in
set_option maxHeartbeats 4000000 in
theorem T_X12_bestPlots (l : Launch) (κ : xQ) (a0 : Nat) (M : xM) (ro : Int32) (mo : xM) (h : F_X12_bestPlots a0 M = some (ro, mo)) : xC l yX12_bestPlots cX12_bestPlots 3 (some .int) 9 0 0 κ [.ref (κ.1 + a0)] M (some (.int ro)) mo := by
  refine xC_of rfl (Nat.le_of_ble_eq_true rfl) fun p e s m args below meth c X hr hlk hnm H locs ls O hl => ?_
  have X : xX p s m args c cX12_bestPlots 3 RX12 κ := X
  have hl : lv_has ls 3 [(0, .ref (κ.1 + a0))] := hl
  have hx := X.1
  have hb := X.2.1
  obtain ⟨x, hx0⟩ : ∃ x, (ro, mo) = x := ⟨_, rfl⟩
  rw [hx0] at h
  have hK : x = (ro, mo) := hx0.symm
  unfold F_X12_bestPlots at h
  refine lv_aload_n hx hb dX12_bestPlots_0 rfl (lv_at hl 0 rfl) ?_
  obtain ⟨_, hut1, h⟩ := Option.bind_eq_some_iff.mp h
  obtain ⟨t2, ht2, h⟩ := Option.bind_eq_some_iff.mp h
  refine xr_callV (rest := []) X O (T_X12_laysUntil l κ a0 M _ ht2) lk_X12_395 hut1 (Nat.le_of_ble_eq_true rfl) rfl hl.1 rfl (Nat.le_of_ble_eq_true rfl) dX12_bestPlots_1 ⟨Nat.le_of_ble_eq_true rfl, Nat.le_of_ble_eq_true rfl⟩ (fun H locs O => ?_)
  refine W.eq (g2 := F0 m 4 ls []) rfl ?_
  refine lv_iconst (v := (0 : Int32)) hx hb dX12_bestPlots_4 (by decide) ?_
  refine lv_istore_n (lv' := [(1, .int (0 : Int32)), (0, .ref (κ.1 + a0))]) hx hb dX12_bestPlots_5 rfl hl (by decide) rfl (fun ls hl => ?_)
  refine lv_iconst (v := (1 : Int32)) hx hb dX12_bestPlots_6 (by decide) ?_
  refine lv_istore_n (lv' := [(2, .int (1 : Int32)), (1, .int (0 : Int32)), (0, .ref (κ.1 + a0))]) hx hb dX12_bestPlots_7 rfl hl (by decide) rfl (fun ls hl => ?_)
  exact F_X12_bestPlots_8_ok X hr hlk a0 (0 : Int32) (1 : Int32) t2 _ h hK H locs ls O (lv_sub hl [2, 1, 0] rfl)
def F_X12_plan (a0 : Nat) (a1 : Int32) (M : xM) : Option (Int32 × xM) :=
(xpI M a0 12 0 (0 : Int32)).bind fun t1 =>
(F_X12_within a1.toInt64 (0 : Int64) (1 : Int64) t1).bind fun t2 =>
if t2.1 = 0 then (
some ((-2 : Int32), t2.2))
else (
(xck t2.2 a0 12).bind fun _ =>
(F_X12_bestPlots a0 t2.2).bind fun t4 =>
if a1 = 0 then (
(xck t4.2 a0 12).bind fun _ =>
(F_X12_worthOf a0 t4.1 t4.2).bind fun t6 =>
some (t6.1, t6.2))
else (
some (t4.1, t4.2)))
set_option maxRecDepth 100000 in
set_option maxHeartbeats 4000000 in
theorem T_X12_plan (l : Launch) (κ : xQ) (a0 : Nat) (a1 : Int32) (M : xM) (ro : Int32) (mo : xM) (h : F_X12_plan a0 a1 M = some (ro, mo)) : xC l yX12_plan cX12_plan 3 (some .int) 10 0 0 κ [.ref (κ.1 + a0), .int a1] M (some (.int ro)) mo := by
  refine xC_of rfl (Nat.le_of_ble_eq_true rfl) fun p e s m args below meth c X hr hlk hnm H locs ls O hl => ?_
  have X : xX p s m args c cX12_plan 3 RX12 κ := X
  have hl : lv_has ls 3 [(0, .ref (κ.1 + a0)), (1, .int a1)] := hl
  have hx := X.1
  have hb := X.2.1
  obtain ⟨x, hx0⟩ : ∃ x, (ro, mo) = x := ⟨_, rfl⟩
  rw [hx0] at h
  have hK : x = (ro, mo) := hx0.symm
  unfold F_X12_plan at h
  refine lv_aload_n hx hb dX12_plan_0 rfl (lv_at hl 0 rfl) ?_
  refine lv_iconst (v := (0 : Int32)) hx hb dX12_plan_1 (by decide) ?_
  obtain ⟨t1, ht1, h⟩ := Option.bind_eq_some_iff.mp h
  refine xr_putI X O ht1 fl_X12_1 dX12_plan_2 (fun H locs O => ?_)
  refine lv_iload_n hx hb dX12_plan_5 rfl (lv_at hl 1 rfl) ?_
  refine lv_i2l (v := a1.toInt64) hx hb dX12_plan_6 rfl ?_
  refine lv_lconst (v := (0 : Int64)) hx hb dX12_plan_7 (by decide) ?_
  refine lv_lconst (v := (1 : Int64)) hx hb dX12_plan_8 (by decide) ?_
  obtain ⟨t2, ht2, h⟩ := Option.bind_eq_some_iff.mp h
  refine xr_callS (rest := []) X O (T_X12_within l κ a1.toInt64 (0 : Int64) (1 : Int64) t1 _ _ ht2) lk_X12_145 (Nat.le_of_ble_eq_true rfl) rfl hl.1 rfl (Nat.le_of_ble_eq_true rfl) dX12_plan_9 ⟨Nat.le_of_ble_eq_true rfl, Nat.le_of_ble_eq_true rfl⟩ (fun H locs O => ?_)
  refine W.eq (g2 := F0 m 12 ls [.int t2.1]) rfl ?_
  refine lv_if_ne (tgt := 18) hx hb dX12_plan_12 (by decide) (fun hc12 => ?_) (fun hc12 => ?_)
  · rw [if_neg hc12] at h
    refine lv_aload_n hx hb dX12_plan_18 rfl (lv_at hl 0 rfl) ?_
    obtain ⟨_, hut3, h⟩ := Option.bind_eq_some_iff.mp h
    obtain ⟨t4, ht4, h⟩ := Option.bind_eq_some_iff.mp h
    refine xr_callV (rest := []) X O (T_X12_bestPlots l κ a0 t2.2 _ _ ht4) lk_X12_405 hut3 (Nat.le_of_ble_eq_true rfl) rfl hl.1 rfl (Nat.le_of_ble_eq_true rfl) dX12_plan_19 ⟨Nat.le_of_ble_eq_true rfl, Nat.le_of_ble_eq_true rfl⟩ (fun H locs O => ?_)
    refine W.eq (g2 := F0 m 22 ls [.int t4.1]) rfl ?_
    refine lv_istore_n (lv' := [(2, .int t4.1), (0, .ref (κ.1 + a0)), (1, .int a1)]) hx hb dX12_plan_22 rfl hl (by decide) rfl (fun ls hl => ?_)
    refine lv_iload_n hx hb dX12_plan_23 rfl (lv_at hl 2 rfl) ?_
    refine lv_if_ne (tgt := 35) hx hb dX12_plan_24 (by decide) (fun hc24 => ?_) (fun hc24 => ?_)
    · rw [if_neg hc24] at h
      refine lv_iload_n hx hb dX12_plan_35 rfl (lv_at hl 0 rfl) ?_
      rw [← Option.some.inj h] at hK
      have hK : (t4.1, t4.2) = (ro, mo) := hK
      obtain ⟨hK1, hK2⟩ := Prod.mk.inj hK
      rw [hK2] at O
      refine xr_top (w := .int ro) (by rw [hK1]) ?_
      exact xr_iret X hr hlk O dX12_plan_36
    rw [if_pos hc24] at h
    refine lv_aload_n hx hb dX12_plan_27 rfl (lv_at hl 1 rfl) ?_
    refine lv_iload_n hx hb dX12_plan_28 rfl (lv_at hl 0 rfl) ?_
    obtain ⟨_, hut5, h⟩ := Option.bind_eq_some_iff.mp h
    obtain ⟨t6, ht6, h⟩ := Option.bind_eq_some_iff.mp h
    refine xr_callV (rest := []) X O (T_X12_worthOf l κ a0 t4.1 t4.2 _ _ ht6) lk_X12_398 hut5 (Nat.le_of_ble_eq_true rfl) rfl hl.1 rfl (Nat.le_of_ble_eq_true rfl) dX12_plan_29 ⟨Nat.le_of_ble_eq_true rfl, Nat.le_of_ble_eq_true rfl⟩ (fun H locs O => ?_)
    refine W.eq (g2 := F0 m 32 ls [.int t6.1]) rfl ?_
    refine lv_goto (tgt := 36) hx hb dX12_plan_32 (by decide) ?_
    rw [← Option.some.inj h] at hK
    have hK : (t6.1, t6.2) = (ro, mo) := hK
    obtain ⟨hK1, hK2⟩ := Prod.mk.inj hK
    rw [hK2] at O
    refine xr_top (w := .int ro) (by rw [hK1]) ?_
    exact xr_iret X hr hlk O dX12_plan_36
  rw [if_pos hc12] at h
  refine lv_bipush (v := (-2 : Int32)) hx hb dX12_plan_15 (by decide) ?_
  rw [← Option.some.inj h] at hK
  have hK : ((-2 : Int32), t2.2) = (ro, mo) := hK
  obtain ⟨hK1, hK2⟩ := Prod.mk.inj hK
  rw [hK2] at O
  refine xr_top (w := .int ro) (by rw [hK1]) ?_
  exact xr_iret X hr hlk O dX12_plan_17
def F_X12_order_96 (v0 : Nat) (v1 : Int32) (v2 : Int32) (v3 : Int32) (v4 : Int32) (v5 : Int32) (M : xM) : Option ((Int32 × xM) ⊕ ((Int32 × Int32 × Int32 × xM) ⊕ (Int32 × xM))) :=
some (.inl ((v5 + 1), M))
def F_X12_order_108 (v5 : Int32) (M : xM) : Option (Int32 × xM) :=
some (v5, M)
def F_X12_order_102 (v0 : Nat) (v1 : Int32) (v2 : Int32) (v3 : Int32) (v4 : Int32) (v5 : Int32) (M : xM) : Option ((Int32 × Int32 × Int32 × xM) ⊕ (Int32 × xM)) :=
if v4 = v1 then (
(F_X12_order_108 v5 M).map Sum.inr)
else (
(some ((v2 &&& (((1 : Int32) <<< (v5 &&& 31)) ^^^ (-1 : Int32))))).bind fun t13 =>
(xgP M v0 12 1).bind fun t14 =>
(xaI M 20 t14 (((13 : Int32) + ((3 : Int32) * v5)) + (1 : Int32))).bind fun t15 =>
(some ((v3 + t15))).bind fun t16 =>
some (.inl (t13, t16, (v4 + 1), M)))
def F_X12_order_29b (v0 : Nat) (v1 : Int32) (v2 : Int32) (v3 : Int32) (v4 : Int32) : (Int32 × xM) → Option ((Int32 × xM) ⊕ ((Int32 × Int32 × Int32 × xM) ⊕ (Int32 × xM))) := fun ⟨v5, M⟩ =>
(F_X12_isIn v2.toInt64 v5 M).bind fun t4 =>
if t4.1 = 0 then (
F_X12_order_96 v0 v1 v2 v3 v4 v5 t4.2)
else (
(xgP t4.2 v0 12 1).bind fun t5 =>
(xaI t4.2 20 t5 (((13 : Int32) + ((3 : Int32) * v5)) + (1 : Int32))).bind fun t6 =>
(xgP t4.2 v0 12 28).bind fun t7 =>
(xaI t4.2 20 t7 v5).bind fun t8 =>
if t8 < (v3 + t6) then (
F_X12_order_96 v0 v1 v2 v3 v4 v5 t4.2)
else (
(xgP t4.2 v0 12 1).bind fun t9 =>
(xaI t4.2 20 t9 (((13 : Int32) + ((3 : Int32) * v5)) + (1 : Int32))).bind fun t10 =>
(xck t4.2 v0 12).bind fun _ =>
(F_X12_canBuild v0 (v2 &&& (((1 : Int32) <<< (v5 &&& 31)) ^^^ (-1 : Int32))) (v3 + t10) t4.2).bind fun t12 =>
if t12.1 = 0 then (
F_X12_order_96 v0 v1 v2 v3 v4 v5 t12.2)
else (
(F_X12_order_102 v0 v1 v2 v3 v4 v5 t12.2).map Sum.inr)))
def F_X12_order_29 (v0 : Nat) (v1 : Int32) (v2 : Int32) (v3 : Int32) (v4 : Int32) (v5 : Int32) (M : xM) : Option ((Int32 × Int32 × Int32 × xM) ⊕ (Int32 × xM)) := xit (F_X12_order_29b v0 v1 v2 v3 v4) xFU (v5, M)
def F_X12_order_143 (M : xM) : Option (Int32 × xM) :=
some ((-1 : Int32), M)
def F_X12_order_22b (v0 : Nat) (v1 : Int32) : (Int32 × Int32 × Int32 × xM) → Option ((Int32 × Int32 × Int32 × xM) ⊕ (Int32 × xM)) := fun ⟨v2, v3, v4, M⟩ =>
if v2 = 0 then (
(F_X12_order_143 M).map Sum.inr)
else (
F_X12_order_29 v0 v1 v2 v3 v4 (0 : Int32) M)
def F_X12_order_22 (v0 : Nat) (v1 : Int32) (v2 : Int32) (v3 : Int32) (v4 : Int32) (M : xM) : Option (Int32 × xM) := xit (F_X12_order_22b v0 v1) xFU (v2, v3, v4, M)
def F_X12_order (a0 : Nat) (a1 : Int32) (M : xM) : Option (Int32 × xM) :=
(xpI M a0 12 0 (0 : Int32)).bind fun t1 =>
if 0 ≤ a1 then (
(xck t1 a0 12).bind fun _ =>
(F_X12_bestPlots a0 t1).bind fun t3 =>
F_X12_order_22 a0 a1 t3.1 (0 : Int32) (0 : Int32) t3.2)
else (
some ((-3 : Int32), t1))
set_option maxRecDepth 100000 in
set_option maxHeartbeats 4000000 in
theorem F_X12_order_96_ok (X : xX p s m args c cX12_order 6 RX12 κ) (hr : meth.sig.returnType = (some .int)) (hlk : meth.locks = false) {ro : Int32} {mo : xM} (v0 : Nat) (v1 : Int32) (v2 : Int32) (v3 : Int32) (v4 : Int32) (v5 : Int32) {W22 : Int32 × Int32 × Int32 × xM → Prop} (hW22 : ∀ (v2 : Int32) (v3 : Int32) (v4 : Int32) (M : xM), W22 (v2, v3, v4, M) → ∀ (H : Heap) (locs : List Loc) (ls : Array Slot), xO κ s M H locs → lv_has ls 6 [(0, .ref (κ.1 + v0)), (1, .int v1), (2, .int v2), (3, .int v3), (4, .int v4)] → W p l e (xRm 10 0 0) s m args below meth c H locs 0 0 (xQf below args s 0 0 κ (some (.int ro)) mo) (F0 m 22 ls [])) {W29 : Int32 × xM → Prop} (hW29 : ∀ (v5 : Int32) (M : xM), W29 (v5, M) → ∀ (H : Heap) (locs : List Loc) (ls : Array Slot), xO κ s M H locs → lv_has ls 6 [(0, .ref (κ.1 + v0)), (1, .int v1), (2, .int v2), (3, .int v3), (4, .int v4), (5, .int v5)] → W p l e (xRm 10 0 0) s m args below meth c H locs 0 0 (xQf below args s 0 0 κ (some (.int ro)) mo) (F0 m 29 ls [])) (M : xM) (x : (Int32 × xM) ⊕ ((Int32 × Int32 × Int32 × xM) ⊕ (Int32 × xM))) (h : F_X12_order_96 v0 v1 v2 v3 v4 v5 M = some x) (hK : (xKl W29 (xKl W22 (fun o => o = (ro, mo)))) x) (H : Heap) (locs : List Loc) (ls : Array Slot) (O : xO κ s M H locs) (hl : lv_has ls 6 [(0, .ref (κ.1 + v0)), (1, .int v1), (2, .int v2), (3, .int v3), (4, .int v4), (5, .int v5)]) : W p l e (xRm 10 0 0) s m args below meth c H locs 0 0 (xQf below args s 0 0 κ (some (.int ro)) mo) (F0 m 96 ls []) := by
  unfold F_X12_order_96 at h
  have hx := X.1
  have hb := X.2.1
  refine lv_iinc (v := (v5 + 1)) (lv' := [(5, .int (v5 + 1)), (0, .ref (κ.1 + v0)), (1, .int v1), (2, .int v2), (3, .int v3), (4, .int v4)]) hx hb dX12_order_96 hl (k := 5) rfl rfl (by decide) rfl (fun ls hl => ?_)
  refine lv_goto (tgt := 29) hx hb dX12_order_99 (by decide) ?_
  rw [← Option.some.inj h] at hK
  exact hW29 (v5 + 1) M hK H locs ls O (lv_sub hl [1, 2, 3, 4, 5, 0] rfl)
set_option maxRecDepth 100000 in
set_option maxHeartbeats 4000000 in
theorem F_X12_order_108_ok (X : xX p s m args c cX12_order 6 RX12 κ) (hr : meth.sig.returnType = (some .int)) (hlk : meth.locks = false) {ro : Int32} {mo : xM} (v5 : Int32) (M : xM) (x : Int32 × xM) (h : F_X12_order_108 v5 M = some x) (hK : (fun o => o = (ro, mo)) x) (H : Heap) (locs : List Loc) (ls : Array Slot) (O : xO κ s M H locs) (hl : lv_has ls 6 [(5, .int v5)]) : W p l e (xRm 10 0 0) s m args below meth c H locs 0 0 (xQf below args s 0 0 κ (some (.int ro)) mo) (F0 m 108 ls []) := by
  unfold F_X12_order_108 at h
  have hx := X.1
  have hb := X.2.1
  refine lv_iload hx hb dX12_order_108 (lv_at hl 0 rfl) ?_
  rw [← Option.some.inj h] at hK
  have hK : (v5, M) = (ro, mo) := hK
  obtain ⟨hK1, hK2⟩ := Prod.mk.inj hK
  rw [hK2] at O
  refine xr_top (w := .int ro) (by rw [hK1]) ?_
  exact xr_iret X hr hlk O dX12_order_110
set_option maxRecDepth 100000 in
set_option maxHeartbeats 4000000 in
theorem F_X12_order_102_ok (X : xX p s m args c cX12_order 6 RX12 κ) (hr : meth.sig.returnType = (some .int)) (hlk : meth.locks = false) {ro : Int32} {mo : xM} (v0 : Nat) (v1 : Int32) (v2 : Int32) (v3 : Int32) (v4 : Int32) (v5 : Int32) {W22 : Int32 × Int32 × Int32 × xM → Prop} (hW22 : ∀ (v2 : Int32) (v3 : Int32) (v4 : Int32) (M : xM), W22 (v2, v3, v4, M) → ∀ (H : Heap) (locs : List Loc) (ls : Array Slot), xO κ s M H locs → lv_has ls 6 [(0, .ref (κ.1 + v0)), (1, .int v1), (2, .int v2), (3, .int v3), (4, .int v4)] → W p l e (xRm 10 0 0) s m args below meth c H locs 0 0 (xQf below args s 0 0 κ (some (.int ro)) mo) (F0 m 22 ls [])) (M : xM) (x : (Int32 × Int32 × Int32 × xM) ⊕ (Int32 × xM)) (h : F_X12_order_102 v0 v1 v2 v3 v4 v5 M = some x) (hK : (xKl W22 (fun o => o = (ro, mo))) x) (H : Heap) (locs : List Loc) (ls : Array Slot) (O : xO κ s M H locs) (hl : lv_has ls 6 [(0, .ref (κ.1 + v0)), (1, .int v1), (2, .int v2), (3, .int v3), (4, .int v4), (5, .int v5)]) : W p l e (xRm 10 0 0) s m args below meth c H locs 0 0 (xQf below args s 0 0 κ (some (.int ro)) mo) (F0 m 102 ls []) := by
  unfold F_X12_order_102 at h
  have hx := X.1
  have hb := X.2.1
  refine lv_iload hx hb dX12_order_102 (lv_at hl 4 rfl) ?_
  refine lv_iload_n hx hb dX12_order_104 rfl (lv_at hl 1 rfl) ?_
  refine lv_icmp_ne (tgt := 111) hx hb dX12_order_105 (by decide) (fun hc105 => ?_) (fun hc105 => ?_)
  · rw [if_neg hc105] at h
    refine lv_iload_n hx hb dX12_order_111 rfl (lv_at hl 2 rfl) ?_
    refine lv_iconst (v := (1 : Int32)) hx hb dX12_order_112 (by decide) ?_
    refine lv_iload hx hb dX12_order_113 (lv_at hl 5 rfl) ?_
    refine lv_ishl hx hb dX12_order_115 ?_
    refine lv_iconst (v := (-1 : Int32)) hx hb dX12_order_116 (by decide) ?_
    refine lv_ixor hx hb dX12_order_117 ?_
    refine lv_iand hx hb dX12_order_118 ?_
    obtain ⟨t13, ht13, h⟩ := Option.bind_eq_some_iff.mp h
    refine xr_top (w := .int t13) (by rw [Option.some.inj ht13]) ?_
    refine lv_istore_n (lv' := [(2, .int t13), (0, .ref (κ.1 + v0)), (1, .int v1), (3, .int v3), (4, .int v4), (5, .int v5)]) hx hb dX12_order_119 rfl hl (by decide) rfl (fun ls hl => ?_)
    refine lv_iload_n hx hb dX12_order_120 rfl (lv_at hl 3 rfl) ?_
    refine lv_aload_n hx hb dX12_order_121 rfl (lv_at hl 1 rfl) ?_
    obtain ⟨t14, ht14, h⟩ := Option.bind_eq_some_iff.mp h
    refine xr_getP X O ht14 fl_X12_13 dX12_order_122 ?_
    refine lv_bipush (v := (13 : Int32)) hx hb dX12_order_125 (by decide) ?_
    refine lv_iconst (v := (3 : Int32)) hx hb dX12_order_127 (by decide) ?_
    refine lv_iload hx hb dX12_order_128 (lv_at hl 5 rfl) ?_
    refine lv_imul hx hb dX12_order_130 ?_
    refine lv_iadd hx hb dX12_order_131 ?_
    refine lv_iconst (v := (1 : Int32)) hx hb dX12_order_132 (by decide) ?_
    refine lv_iadd hx hb dX12_order_133 ?_
    obtain ⟨t15, ht15, h⟩ := Option.bind_eq_some_iff.mp h
    refine xr_aldI X O ht15 dX12_order_134 ?_
    refine lv_iadd hx hb dX12_order_135 ?_
    obtain ⟨t16, ht16, h⟩ := Option.bind_eq_some_iff.mp h
    refine xr_top (w := .int t16) (by rw [Option.some.inj ht16]) ?_
    refine lv_istore_n (lv' := [(3, .int t16), (2, .int t13), (0, .ref (κ.1 + v0)), (1, .int v1), (4, .int v4), (5, .int v5)]) hx hb dX12_order_136 rfl hl (by decide) rfl (fun ls hl => ?_)
    refine lv_iinc (v := (v4 + 1)) (lv' := [(4, .int (v4 + 1)), (3, .int t16), (2, .int t13), (0, .ref (κ.1 + v0)), (1, .int v1), (5, .int v5)]) hx hb dX12_order_137 hl (k := 4) rfl rfl (by decide) rfl (fun ls hl => ?_)
    refine lv_goto (tgt := 22) hx hb dX12_order_140 (by decide) ?_
    rw [← Option.some.inj h] at hK
    exact hW22 t13 t16 (v4 + 1) M hK H locs ls O (lv_sub hl [3, 4, 2, 1, 0] rfl)
  rw [if_pos hc105] at h
  obtain ⟨_, hw0, ew0⟩ := Option.map_eq_some_iff.mp h
  rw [← ew0] at hK
  have h := hw0
  exact F_X12_order_108_ok X hr hlk v5 M _ h hK H locs ls O (lv_sub hl [5] rfl)
set_option maxRecDepth 100000 in
set_option maxHeartbeats 4000000 in
theorem F_X12_order_29_bok (X : xX p s m args c cX12_order 6 RX12 κ) (hr : meth.sig.returnType = (some .int)) (hlk : meth.locks = false) {ro : Int32} {mo : xM} (v0 : Nat) (v1 : Int32) (v2 : Int32) (v3 : Int32) (v4 : Int32) (v5 : Int32) {W22 : Int32 × Int32 × Int32 × xM → Prop} (hW22 : ∀ (v2 : Int32) (v3 : Int32) (v4 : Int32) (M : xM), W22 (v2, v3, v4, M) → ∀ (H : Heap) (locs : List Loc) (ls : Array Slot), xO κ s M H locs → lv_has ls 6 [(0, .ref (κ.1 + v0)), (1, .int v1), (2, .int v2), (3, .int v3), (4, .int v4)] → W p l e (xRm 10 0 0) s m args below meth c H locs 0 0 (xQf below args s 0 0 κ (some (.int ro)) mo) (F0 m 22 ls [])) {W29 : Int32 × xM → Prop} (hW29 : ∀ (v5 : Int32) (M : xM), W29 (v5, M) → ∀ (H : Heap) (locs : List Loc) (ls : Array Slot), xO κ s M H locs → lv_has ls 6 [(0, .ref (κ.1 + v0)), (1, .int v1), (2, .int v2), (3, .int v3), (4, .int v4), (5, .int v5)] → W p l e (xRm 10 0 0) s m args below meth c H locs 0 0 (xQf below args s 0 0 κ (some (.int ro)) mo) (F0 m 29 ls [])) (M : xM) (x : (Int32 × xM) ⊕ ((Int32 × Int32 × Int32 × xM) ⊕ (Int32 × xM))) (h : F_X12_order_29b v0 v1 v2 v3 v4 (v5, M) = some x) (hK : (xKl W29 (xKl W22 (fun o => o = (ro, mo)))) x) (H : Heap) (locs : List Loc) (ls : Array Slot) (O : xO κ s M H locs) (hl : lv_has ls 6 [(0, .ref (κ.1 + v0)), (1, .int v1), (2, .int v2), (3, .int v3), (4, .int v4), (5, .int v5)]) : W p l e (xRm 10 0 0) s m args below meth c H locs 0 0 (xQf below args s 0 0 κ (some (.int ro)) mo) (F0 m 29 ls []) := by
  unfold F_X12_order_29b at h
  dsimp only at h
  have hx := X.1
  have hb := X.2.1
  refine lv_iload_n hx hb dX12_order_29 rfl (lv_at hl 2 rfl) ?_
  refine lv_i2l (v := v2.toInt64) hx hb dX12_order_30 rfl ?_
  refine lv_iload hx hb dX12_order_31 (lv_at hl 5 rfl) ?_
  obtain ⟨t4, ht4, h⟩ := Option.bind_eq_some_iff.mp h
  refine xr_callS (rest := []) X O (T_X12_isIn l κ v2.toInt64 v5 M _ _ ht4) lk_X12_253 (Nat.le_of_ble_eq_true rfl) rfl hl.1 rfl (Nat.le_of_ble_eq_true rfl) dX12_order_33 ⟨Nat.le_of_ble_eq_true rfl, Nat.le_of_ble_eq_true rfl⟩ (fun H locs O => ?_)
  refine W.eq (g2 := F0 m 36 ls [.int t4.1]) rfl ?_
  refine lv_if_eq (tgt := 96) hx hb dX12_order_36 (by decide) (fun hc36 => ?_) (fun hc36 => ?_)
  · rw [if_pos hc36] at h
    exact F_X12_order_96_ok X hr hlk v0 v1 v2 v3 v4 v5 hW22 hW29 t4.2 _ h hK H locs ls O (lv_sub hl [0, 1, 2, 3, 4, 5] rfl)
  rw [if_neg hc36] at h
  refine lv_iload_n hx hb dX12_order_39 rfl (lv_at hl 3 rfl) ?_
  refine lv_aload_n hx hb dX12_order_40 rfl (lv_at hl 0 rfl) ?_
  obtain ⟨t5, ht5, h⟩ := Option.bind_eq_some_iff.mp h
  refine xr_getP X O ht5 fl_X12_13 dX12_order_41 ?_
  refine lv_bipush (v := (13 : Int32)) hx hb dX12_order_44 (by decide) ?_
  refine lv_iconst (v := (3 : Int32)) hx hb dX12_order_46 (by decide) ?_
  refine lv_iload hx hb dX12_order_47 (lv_at hl 5 rfl) ?_
  refine lv_imul hx hb dX12_order_49 ?_
  refine lv_iadd hx hb dX12_order_50 ?_
  refine lv_iconst (v := (1 : Int32)) hx hb dX12_order_51 (by decide) ?_
  refine lv_iadd hx hb dX12_order_52 ?_
  obtain ⟨t6, ht6, h⟩ := Option.bind_eq_some_iff.mp h
  refine xr_aldI X O ht6 dX12_order_53 ?_
  refine lv_iadd hx hb dX12_order_54 ?_
  refine lv_aload_n hx hb dX12_order_55 rfl (lv_at hl 0 rfl) ?_
  obtain ⟨t7, ht7, h⟩ := Option.bind_eq_some_iff.mp h
  refine xr_getP X O ht7 fl_X12_54 dX12_order_56 ?_
  refine lv_iload hx hb dX12_order_59 (lv_at hl 5 rfl) ?_
  obtain ⟨t8, ht8, h⟩ := Option.bind_eq_some_iff.mp h
  refine xr_aldI X O ht8 dX12_order_61 ?_
  refine lv_icmp_gt (tgt := 96) hx hb dX12_order_62 (by decide) (fun hc62 => ?_) (fun hc62 => ?_)
  · rw [if_pos hc62] at h
    exact F_X12_order_96_ok X hr hlk v0 v1 v2 v3 v4 v5 hW22 hW29 t4.2 _ h hK H locs ls O (lv_sub hl [0, 1, 2, 3, 4, 5] rfl)
  rw [if_neg hc62] at h
  refine lv_aload_n hx hb dX12_order_65 rfl (lv_at hl 0 rfl) ?_
  refine lv_iload_n hx hb dX12_order_66 rfl (lv_at hl 2 rfl) ?_
  refine lv_iconst (v := (1 : Int32)) hx hb dX12_order_67 (by decide) ?_
  refine lv_iload hx hb dX12_order_68 (lv_at hl 5 rfl) ?_
  refine lv_ishl hx hb dX12_order_70 ?_
  refine lv_iconst (v := (-1 : Int32)) hx hb dX12_order_71 (by decide) ?_
  refine lv_ixor hx hb dX12_order_72 ?_
  refine lv_iand hx hb dX12_order_73 ?_
  refine lv_iload_n hx hb dX12_order_74 rfl (lv_at hl 3 rfl) ?_
  refine lv_aload_n hx hb dX12_order_75 rfl (lv_at hl 0 rfl) ?_
  obtain ⟨t9, ht9, h⟩ := Option.bind_eq_some_iff.mp h
  refine xr_getP X O ht9 fl_X12_13 dX12_order_76 ?_
  refine lv_bipush (v := (13 : Int32)) hx hb dX12_order_79 (by decide) ?_
  refine lv_iconst (v := (3 : Int32)) hx hb dX12_order_81 (by decide) ?_
  refine lv_iload hx hb dX12_order_82 (lv_at hl 5 rfl) ?_
  refine lv_imul hx hb dX12_order_84 ?_
  refine lv_iadd hx hb dX12_order_85 ?_
  refine lv_iconst (v := (1 : Int32)) hx hb dX12_order_86 (by decide) ?_
  refine lv_iadd hx hb dX12_order_87 ?_
  obtain ⟨t10, ht10, h⟩ := Option.bind_eq_some_iff.mp h
  refine xr_aldI X O ht10 dX12_order_88 ?_
  refine lv_iadd hx hb dX12_order_89 ?_
  obtain ⟨_, hut11, h⟩ := Option.bind_eq_some_iff.mp h
  obtain ⟨t12, ht12, h⟩ := Option.bind_eq_some_iff.mp h
  refine xr_callV (rest := []) X O (T_X12_canBuild l κ v0 (v2 &&& (((1 : Int32) <<< (v5 &&& 31)) ^^^ (-1 : Int32))) (v3 + t10) t4.2 _ _ ht12) lk_X12_401 hut11 (Nat.le_of_ble_eq_true rfl) rfl hl.1 rfl (Nat.le_of_ble_eq_true rfl) dX12_order_90 ⟨Nat.le_of_ble_eq_true rfl, Nat.le_of_ble_eq_true rfl⟩ (fun H locs O => ?_)
  refine W.eq (g2 := F0 m 93 ls [.int t12.1]) rfl ?_
  refine lv_if_ne (tgt := 102) hx hb dX12_order_93 (by decide) (fun hc93 => ?_) (fun hc93 => ?_)
  · rw [if_neg hc93] at h
    obtain ⟨_, hw0, ew0⟩ := Option.map_eq_some_iff.mp h
    rw [← ew0] at hK
    have h := hw0
    exact F_X12_order_102_ok X hr hlk v0 v1 v2 v3 v4 v5 hW22 t12.2 _ h hK H locs ls O (lv_sub hl [0, 1, 2, 3, 4, 5] rfl)
  rw [if_pos hc93] at h
  exact F_X12_order_96_ok X hr hlk v0 v1 v2 v3 v4 v5 hW22 hW29 t12.2 _ h hK H locs ls O (lv_sub hl [0, 1, 2, 3, 4, 5] rfl)
set_option maxRecDepth 100000 in
set_option maxHeartbeats 4000000 in
theorem F_X12_order_29_ok (X : xX p s m args c cX12_order 6 RX12 κ) (hr : meth.sig.returnType = (some .int)) (hlk : meth.locks = false) {ro : Int32} {mo : xM} (v0 : Nat) (v1 : Int32) (v2 : Int32) (v3 : Int32) (v4 : Int32) (v5 : Int32) {W22 : Int32 × Int32 × Int32 × xM → Prop} (hW22 : ∀ (v2 : Int32) (v3 : Int32) (v4 : Int32) (M : xM), W22 (v2, v3, v4, M) → ∀ (H : Heap) (locs : List Loc) (ls : Array Slot), xO κ s M H locs → lv_has ls 6 [(0, .ref (κ.1 + v0)), (1, .int v1), (2, .int v2), (3, .int v3), (4, .int v4)] → W p l e (xRm 10 0 0) s m args below meth c H locs 0 0 (xQf below args s 0 0 κ (some (.int ro)) mo) (F0 m 22 ls [])) (M : xM) (x : (Int32 × Int32 × Int32 × xM) ⊕ (Int32 × xM)) (h : F_X12_order_29 v0 v1 v2 v3 v4 v5 M = some x) (hK : (xKl W22 (fun o => o = (ro, mo))) x) (H : Heap) (locs : List Loc) (ls : Array Slot) (O : xO κ s M H locs) (hl : lv_has ls 6 [(0, .ref (κ.1 + v0)), (1, .int v1), (2, .int v2), (3, .int v3), (4, .int v4), (5, .int v5)]) : W p l e (xRm 10 0 0) s m args below meth c H locs 0 0 (xQf below args s 0 0 κ (some (.int ro)) mo) (F0 m 29 ls []) := by
  refine xit_K (Wh := fun x => ∀ (H : Heap) (locs : List Loc) (ls : Array Slot), xO κ s x.2 H locs → lv_has ls 6 [(0, .ref (κ.1 + v0)), (1, .int v1), (2, .int v2), (3, .int v3), (4, .int v4), (5, .int x.1)] → W p l e (xRm 10 0 0) s m args below meth c H locs 0 0 (xQf below args s 0 0 κ (some (.int ro)) mo) (F0 m 29 ls [])) (Kp := (xKl W22 (fun o => o = (ro, mo)))) ?_ xFU (v5, M) x h hK H locs ls O hl
  intro y x h hK H locs ls O hl
  exact F_X12_order_29_bok X hr hlk v0 v1 v2 v3 v4 y.1 hW22 (fun _ _ hw => hw) y.2 x h hK H locs ls O hl
set_option maxRecDepth 100000 in
set_option maxHeartbeats 4000000 in
theorem F_X12_order_143_ok (X : xX p s m args c cX12_order 6 RX12 κ) (hr : meth.sig.returnType = (some .int)) (hlk : meth.locks = false) {ro : Int32} {mo : xM} (M : xM) (x : Int32 × xM) (h : F_X12_order_143 M = some x) (hK : (fun o => o = (ro, mo)) x) (H : Heap) (locs : List Loc) (ls : Array Slot) (O : xO κ s M H locs) (hl : lv_has ls 6 []) : W p l e (xRm 10 0 0) s m args below meth c H locs 0 0 (xQf below args s 0 0 κ (some (.int ro)) mo) (F0 m 143 ls []) := by
  unfold F_X12_order_143 at h
  have hx := X.1
  have hb := X.2.1
  refine lv_iconst (v := (-1 : Int32)) hx hb dX12_order_143 (by decide) ?_
  rw [← Option.some.inj h] at hK
  have hK : ((-1 : Int32), M) = (ro, mo) := hK
  obtain ⟨hK1, hK2⟩ := Prod.mk.inj hK
  rw [hK2] at O
  refine xr_top (w := .int ro) (by rw [hK1]) ?_
  exact xr_iret X hr hlk O dX12_order_144
set_option maxRecDepth 100000 in
set_option maxHeartbeats 4000000 in
theorem F_X12_order_22_bok (X : xX p s m args c cX12_order 6 RX12 κ) (hr : meth.sig.returnType = (some .int)) (hlk : meth.locks = false) {ro : Int32} {mo : xM} (v0 : Nat) (v1 : Int32) (v2 : Int32) (v3 : Int32) (v4 : Int32) {W22 : Int32 × Int32 × Int32 × xM → Prop} (hW22 : ∀ (v2 : Int32) (v3 : Int32) (v4 : Int32) (M : xM), W22 (v2, v3, v4, M) → ∀ (H : Heap) (locs : List Loc) (ls : Array Slot), xO κ s M H locs → lv_has ls 6 [(0, .ref (κ.1 + v0)), (1, .int v1), (2, .int v2), (3, .int v3), (4, .int v4)] → W p l e (xRm 10 0 0) s m args below meth c H locs 0 0 (xQf below args s 0 0 κ (some (.int ro)) mo) (F0 m 22 ls [])) (M : xM) (x : (Int32 × Int32 × Int32 × xM) ⊕ (Int32 × xM)) (h : F_X12_order_22b v0 v1 (v2, v3, v4, M) = some x) (hK : (xKl W22 (fun o => o = (ro, mo))) x) (H : Heap) (locs : List Loc) (ls : Array Slot) (O : xO κ s M H locs) (hl : lv_has ls 6 [(0, .ref (κ.1 + v0)), (1, .int v1), (2, .int v2), (3, .int v3), (4, .int v4)]) : W p l e (xRm 10 0 0) s m args below meth c H locs 0 0 (xQf below args s 0 0 κ (some (.int ro)) mo) (F0 m 22 ls []) := by
  unfold F_X12_order_22b at h
  dsimp only at h
  have hx := X.1
  have hb := X.2.1
  refine lv_iload_n hx hb dX12_order_22 rfl (lv_at hl 2 rfl) ?_
  refine lv_if_eq (tgt := 143) hx hb dX12_order_23 (by decide) (fun hc23 => ?_) (fun hc23 => ?_)
  · rw [if_pos hc23] at h
    obtain ⟨_, hw0, ew0⟩ := Option.map_eq_some_iff.mp h
    rw [← ew0] at hK
    have h := hw0
    exact F_X12_order_143_ok X hr hlk  M _ h hK H locs ls O (lv_sub hl [] rfl)
  rw [if_neg hc23] at h
  refine lv_iconst (v := (0 : Int32)) hx hb dX12_order_26 (by decide) ?_
  refine lv_istore (lv' := [(5, .int (0 : Int32)), (0, .ref (κ.1 + v0)), (1, .int v1), (2, .int v2), (3, .int v3), (4, .int v4)]) hx hb dX12_order_27 hl (by decide) rfl (fun ls hl => ?_)
  exact F_X12_order_29_ok X hr hlk v0 v1 v2 v3 v4 (0 : Int32) hW22 M _ h hK H locs ls O (lv_sub hl [1, 2, 3, 4, 5, 0] rfl)
set_option maxRecDepth 100000 in
set_option maxHeartbeats 4000000 in
theorem F_X12_order_22_ok (X : xX p s m args c cX12_order 6 RX12 κ) (hr : meth.sig.returnType = (some .int)) (hlk : meth.locks = false) {ro : Int32} {mo : xM} (v0 : Nat) (v1 : Int32) (v2 : Int32) (v3 : Int32) (v4 : Int32) (M : xM) (x : Int32 × xM) (h : F_X12_order_22 v0 v1 v2 v3 v4 M = some x) (hK : (fun o => o = (ro, mo)) x) (H : Heap) (locs : List Loc) (ls : Array Slot) (O : xO κ s M H locs) (hl : lv_has ls 6 [(0, .ref (κ.1 + v0)), (1, .int v1), (2, .int v2), (3, .int v3), (4, .int v4)]) : W p l e (xRm 10 0 0) s m args below meth c H locs 0 0 (xQf below args s 0 0 κ (some (.int ro)) mo) (F0 m 22 ls []) := by
  refine xit_K (Wh := fun x => ∀ (H : Heap) (locs : List Loc) (ls : Array Slot), xO κ s x.2.2.2 H locs → lv_has ls 6 [(0, .ref (κ.1 + v0)), (1, .int v1), (2, .int x.1), (3, .int x.2.1), (4, .int x.2.2.1)] → W p l e (xRm 10 0 0) s m args below meth c H locs 0 0 (xQf below args s 0 0 κ (some (.int ro)) mo) (F0 m 22 ls [])) (Kp := (fun o => o = (ro, mo))) ?_ xFU (v2, v3, v4, M) x h hK H locs ls O hl
  intro y x h hK H locs ls O hl
  exact F_X12_order_22_bok X hr hlk v0 v1 y.1 y.2.1 y.2.2.1 (fun _ _ _ _ hw => hw) y.2.2.2 x h hK H locs ls O hl
set_option maxRecDepth 100000 in
set_option maxHeartbeats 4000000 in
theorem T_X12_order (l : Launch) (κ : xQ) (a0 : Nat) (a1 : Int32) (M : xM) (ro : Int32) (mo : xM) (h : F_X12_order a0 a1 M = some (ro, mo)) : xC l yX12_order cX12_order 6 (some .int) 10 0 0 κ [.ref (κ.1 + a0), .int a1] M (some (.int ro)) mo := by
  refine xC_of rfl (Nat.le_of_ble_eq_true rfl) fun p e s m args below meth c X hr hlk hnm H locs ls O hl => ?_
  have X : xX p s m args c cX12_order 6 RX12 κ := X
  have hl : lv_has ls 6 [(0, .ref (κ.1 + a0)), (1, .int a1)] := hl
  have hx := X.1
  have hb := X.2.1
  obtain ⟨x, hx0⟩ : ∃ x, (ro, mo) = x := ⟨_, rfl⟩
  rw [hx0] at h
  have hK : x = (ro, mo) := hx0.symm
  unfold F_X12_order at h
  refine lv_aload_n hx hb dX12_order_0 rfl (lv_at hl 0 rfl) ?_
  refine lv_iconst (v := (0 : Int32)) hx hb dX12_order_1 (by decide) ?_
  obtain ⟨t1, ht1, h⟩ := Option.bind_eq_some_iff.mp h
  refine xr_putI X O ht1 fl_X12_1 dX12_order_2 (fun H locs O => ?_)
  refine lv_iload_n hx hb dX12_order_5 rfl (lv_at hl 1 rfl) ?_
  refine lv_if_ge (tgt := 12) hx hb dX12_order_6 (by decide) (fun hc6 => ?_) (fun hc6 => ?_)
  · rw [if_pos hc6] at h
    refine lv_aload_n hx hb dX12_order_12 rfl (lv_at hl 0 rfl) ?_
    obtain ⟨_, hut2, h⟩ := Option.bind_eq_some_iff.mp h
    obtain ⟨t3, ht3, h⟩ := Option.bind_eq_some_iff.mp h
    refine xr_callV (rest := []) X O (T_X12_bestPlots l κ a0 t1 _ _ ht3) lk_X12_405 hut2 (Nat.le_of_ble_eq_true rfl) rfl hl.1 rfl (Nat.le_of_ble_eq_true rfl) dX12_order_13 ⟨Nat.le_of_ble_eq_true rfl, Nat.le_of_ble_eq_true rfl⟩ (fun H locs O => ?_)
    refine W.eq (g2 := F0 m 16 ls [.int t3.1]) rfl ?_
    refine lv_istore_n (lv' := [(2, .int t3.1), (0, .ref (κ.1 + a0)), (1, .int a1)]) hx hb dX12_order_16 rfl hl (by decide) rfl (fun ls hl => ?_)
    refine lv_iconst (v := (0 : Int32)) hx hb dX12_order_17 (by decide) ?_
    refine lv_istore_n (lv' := [(3, .int (0 : Int32)), (2, .int t3.1), (0, .ref (κ.1 + a0)), (1, .int a1)]) hx hb dX12_order_18 rfl hl (by decide) rfl (fun ls hl => ?_)
    refine lv_iconst (v := (0 : Int32)) hx hb dX12_order_19 (by decide) ?_
    refine lv_istore (lv' := [(4, .int (0 : Int32)), (3, .int (0 : Int32)), (2, .int t3.1), (0, .ref (κ.1 + a0)), (1, .int a1)]) hx hb dX12_order_20 hl (by decide) rfl (fun ls hl => ?_)
    exact F_X12_order_22_ok X hr hlk a0 a1 t3.1 (0 : Int32) (0 : Int32) t3.2 _ h hK H locs ls O (lv_sub hl [3, 4, 2, 1, 0] rfl)
  rw [if_neg hc6] at h
  refine lv_bipush (v := (-3 : Int32)) hx hb dX12_order_9 (by decide) ?_
  rw [← Option.some.inj h] at hK
  have hK : ((-3 : Int32), t1) = (ro, mo) := hK
  obtain ⟨hK1, hK2⟩ := Prod.mk.inj hK
  rw [hK2] at O
  refine xr_top (w := .int ro) (by rw [hK1]) ?_
  exact xr_iret X hr hlk O dX12_order_11
def F_X12_isAmid_26 (s0 : Int64) (s1 : Int64) (s2 : Int64) (M : xM) : Option (Int32 × xM) :=
(F_X12_within s2 s1 s0 M).bind fun t1 =>
(xz t1.1).bind fun t2 =>
some (t2, t1.2)
def F_X12_isAmid_14 (v1 : Int32) (v2 : Int32) (s0 : Int64) (s1 : Int64) (M : xM) : Option (Int32 × xM) :=
if v2 ≤ v1 then (
F_X12_isAmid_26 v1.toInt64 s0 s1 M)
else (
F_X12_isAmid_26 v2.toInt64 s0 s1 M)
def F_X12_isAmid (a0 : Int32) (a1 : Int32) (a2 : Int32) (M : xM) : Option (Int32 × xM) :=
if a2 ≤ a1 then (
F_X12_isAmid_14 a1 a2 a2.toInt64 a0.toInt64 M)
else (
F_X12_isAmid_14 a1 a2 a1.toInt64 a0.toInt64 M)
set_option maxRecDepth 100000 in
set_option maxHeartbeats 4000000 in
theorem F_X12_isAmid_26_ok (X : xX p s m args c cX12_isAmid 3 RX12 κ) (hr : meth.sig.returnType = (some .boolean)) (hlk : meth.locks = false) {ro : Int32} {mo : xM} (s0 : Int64) (s1 : Int64) (s2 : Int64) (M : xM) (x : Int32 × xM) (h : F_X12_isAmid_26 s0 s1 s2 M = some x) (hK : (fun o => o = (ro, mo)) x) (H : Heap) (locs : List Loc) (ls : Array Slot) (O : xO κ s M H locs) (hl : lv_has ls 3 []) : W p l e (xRm 3 0 0) s m args below meth c H locs 0 0 (xQf below args s 0 0 κ (some (.int ro)) mo) (F0 m 26 ls [.long s0, .long s1, .long s2]) := by
  unfold F_X12_isAmid_26 at h
  have hx := X.1
  have hb := X.2.1
  obtain ⟨t1, ht1, h⟩ := Option.bind_eq_some_iff.mp h
  refine xr_callS (rest := []) X O (T_X12_within l κ s2 s1 s0 M _ _ ht1) lk_X12_145 (Nat.le_of_ble_eq_true rfl) rfl hl.1 rfl (Nat.le_of_ble_eq_true rfl) dX12_isAmid_26 ⟨Nat.le_of_ble_eq_true rfl, Nat.le_of_ble_eq_true rfl⟩ (fun H locs O => ?_)
  refine W.eq (g2 := F0 m 29 ls [.int t1.1]) rfl ?_
  obtain ⟨t2, ht2, h⟩ := Option.bind_eq_some_iff.mp h
  rw [← Option.some.inj h] at hK
  have hK : (t2, t1.2) = (ro, mo) := hK
  obtain ⟨hK1, hK2⟩ := Prod.mk.inj hK
  rw [hK1] at ht2
  rw [hK2] at O
  exact xr_zret X hr hlk O ht2 dX12_isAmid_29
set_option maxRecDepth 100000 in
set_option maxHeartbeats 4000000 in
theorem F_X12_isAmid_14_ok (X : xX p s m args c cX12_isAmid 3 RX12 κ) (hr : meth.sig.returnType = (some .boolean)) (hlk : meth.locks = false) {ro : Int32} {mo : xM} (v1 : Int32) (v2 : Int32) (s0 : Int64) (s1 : Int64) (M : xM) (x : Int32 × xM) (h : F_X12_isAmid_14 v1 v2 s0 s1 M = some x) (hK : (fun o => o = (ro, mo)) x) (H : Heap) (locs : List Loc) (ls : Array Slot) (O : xO κ s M H locs) (hl : lv_has ls 3 [(1, .int v1), (2, .int v2)]) : W p l e (xRm 3 0 0) s m args below meth c H locs 0 0 (xQf below args s 0 0 κ (some (.int ro)) mo) (F0 m 14 ls [.long s0, .long s1]) := by
  unfold F_X12_isAmid_14 at h
  have hx := X.1
  have hb := X.2.1
  refine lv_iload_n hx hb dX12_isAmid_14 rfl (lv_at hl 0 rfl) ?_
  refine lv_iload_n hx hb dX12_isAmid_15 rfl (lv_at hl 1 rfl) ?_
  refine lv_icmp_ge (tgt := 24) hx hb dX12_isAmid_16 (by decide) (fun hc16 => ?_) (fun hc16 => ?_)
  · rw [if_pos hc16] at h
    refine lv_iload_n hx hb dX12_isAmid_24 rfl (lv_at hl 0 rfl) ?_
    refine lv_i2l (v := v1.toInt64) hx hb dX12_isAmid_25 rfl ?_
    exact F_X12_isAmid_26_ok X hr hlk v1.toInt64 s0 s1 M _ h hK H locs ls O (lv_sub hl [] rfl)
  rw [if_neg hc16] at h
  refine lv_iload_n hx hb dX12_isAmid_19 rfl (lv_at hl 1 rfl) ?_
  refine lv_i2l (v := v2.toInt64) hx hb dX12_isAmid_20 rfl ?_
  refine lv_goto (tgt := 26) hx hb dX12_isAmid_21 (by decide) ?_
  exact F_X12_isAmid_26_ok X hr hlk v2.toInt64 s0 s1 M _ h hK H locs ls O (lv_sub hl [] rfl)
set_option maxRecDepth 100000 in
set_option maxHeartbeats 4000000 in
theorem T_X12_isAmid (l : Launch) (κ : xQ) (a0 : Int32) (a1 : Int32) (a2 : Int32) (M : xM) (ro : Int32) (mo : xM) (h : F_X12_isAmid a0 a1 a2 M = some (ro, mo)) : xC l yX12_isAmid cX12_isAmid 3 (some .boolean) 3 0 0 κ [.int a0, .int a1, .int a2] M (some (.int ro)) mo := by
  refine xC_of rfl (Nat.le_of_ble_eq_true rfl) fun p e s m args below meth c X hr hlk hnm H locs ls O hl => ?_
  have X : xX p s m args c cX12_isAmid 3 RX12 κ := X
  have hl : lv_has ls 3 [(0, .int a0), (1, .int a1), (2, .int a2)] := hl
  have hx := X.1
  have hb := X.2.1
  obtain ⟨x, hx0⟩ : ∃ x, (ro, mo) = x := ⟨_, rfl⟩
  rw [hx0] at h
  have hK : x = (ro, mo) := hx0.symm
  unfold F_X12_isAmid at h
  refine lv_iload_n hx hb dX12_isAmid_0 rfl (lv_at hl 0 rfl) ?_
  refine lv_i2l (v := a0.toInt64) hx hb dX12_isAmid_1 rfl ?_
  refine lv_iload_n hx hb dX12_isAmid_2 rfl (lv_at hl 1 rfl) ?_
  refine lv_iload_n hx hb dX12_isAmid_3 rfl (lv_at hl 2 rfl) ?_
  refine lv_icmp_ge (tgt := 12) hx hb dX12_isAmid_4 (by decide) (fun hc4 => ?_) (fun hc4 => ?_)
  · rw [if_pos hc4] at h
    refine lv_iload_n hx hb dX12_isAmid_12 rfl (lv_at hl 2 rfl) ?_
    refine lv_i2l (v := a2.toInt64) hx hb dX12_isAmid_13 rfl ?_
    exact F_X12_isAmid_14_ok X hr hlk a1 a2 a2.toInt64 a0.toInt64 M _ h hK H locs ls O (lv_sub hl [1, 2] rfl)
  rw [if_neg hc4] at h
  refine lv_iload_n hx hb dX12_isAmid_7 rfl (lv_at hl 1 rfl) ?_
  refine lv_i2l (v := a1.toInt64) hx hb dX12_isAmid_8 rfl ?_
  refine lv_goto (tgt := 14) hx hb dX12_isAmid_9 (by decide) ?_
  exact F_X12_isAmid_14_ok X hr hlk a1 a2 a1.toInt64 a0.toInt64 M _ h hK H locs ls O (lv_sub hl [1, 2] rfl)
def F_X12_isOver_93 (M : xM) : Option (Int32 × xM) :=
(xz (0 : Int32)).bind fun t20 =>
some (t20, M)
def F_X12_isOver (a0 : Nat) (a1 : Int32) (a2 : Int32) (M : xM) : Option (Int32 × xM) :=
(xgP M a0 12 1).bind fun t1 =>
(xaI M 20 t1 ((31 : Int32) + ((2 : Int32) * a1))).bind fun t2 =>
(xgP M a0 12 1).bind fun t3 =>
(xaI M 20 t3 (((31 : Int32) + ((2 : Int32) * a1)) + (1 : Int32))).bind fun t4 =>
(xgP M a0 12 1).bind fun t5 =>
(xaI M 20 t5 (2 : Int32)).bind fun t6 =>
if t6 = 0 then none else
(xgP M a0 12 1).bind fun t7 =>
(xaI M 20 t7 (2 : Int32)).bind fun t8 =>
if t8 = 0 then none else
(xgP M a0 12 1).bind fun t9 =>
(xaI M 20 t9 (2 : Int32)).bind fun t10 =>
if t10 = 0 then none else
(F_X12_isAmid (a2 / t6) (t2 / t8) (t4 / t10) M).bind fun t11 =>
if t11.1 = 0 then (
F_X12_isOver_93 t11.2)
else (
(xgP t11.2 a0 12 1).bind fun t12 =>
(xaI t11.2 20 t12 (2 : Int32)).bind fun t13 =>
if t13 = 0 then none else
(xgP t11.2 a0 12 1).bind fun t14 =>
(xaI t11.2 20 t14 (2 : Int32)).bind fun t15 =>
if t15 = 0 then none else
(xgP t11.2 a0 12 1).bind fun t16 =>
(xaI t11.2 20 t16 (2 : Int32)).bind fun t17 =>
if t17 = 0 then none else
(F_X12_isAmid (a2 - a2 / t13 * t13) (t2 - t2 / t15 * t15) (t4 - t4 / t17 * t17) t11.2).bind fun t18 =>
if t18.1 = 0 then (
F_X12_isOver_93 t18.2)
else (
(xz (1 : Int32)).bind fun t19 =>
some (t19, t18.2)))
set_option maxRecDepth 100000 in
set_option maxHeartbeats 4000000 in
theorem F_X12_isOver_93_ok (X : xX p s m args c cX12_isOver 5 RX12 κ) (hr : meth.sig.returnType = (some .boolean)) (hlk : meth.locks = false) {ro : Int32} {mo : xM} (M : xM) (x : Int32 × xM) (h : F_X12_isOver_93 M = some x) (hK : (fun o => o = (ro, mo)) x) (H : Heap) (locs : List Loc) (ls : Array Slot) (O : xO κ s M H locs) (hl : lv_has ls 5 []) : W p l e (xRm 4 0 0) s m args below meth c H locs 0 0 (xQf below args s 0 0 κ (some (.int ro)) mo) (F0 m 93 ls []) := by
  unfold F_X12_isOver_93 at h
  have hx := X.1
  have hb := X.2.1
  refine lv_iconst (v := (0 : Int32)) hx hb dX12_isOver_93 (by decide) ?_
  obtain ⟨t20, ht20, h⟩ := Option.bind_eq_some_iff.mp h
  rw [← Option.some.inj h] at hK
  have hK : (t20, M) = (ro, mo) := hK
  obtain ⟨hK1, hK2⟩ := Prod.mk.inj hK
  rw [hK1] at ht20
  rw [hK2] at O
  exact xr_zret X hr hlk O ht20 dX12_isOver_94
set_option maxRecDepth 100000 in
set_option maxHeartbeats 4000000 in
theorem T_X12_isOver (l : Launch) (κ : xQ) (a0 : Nat) (a1 : Int32) (a2 : Int32) (M : xM) (ro : Int32) (mo : xM) (h : F_X12_isOver a0 a1 a2 M = some (ro, mo)) : xC l yX12_isOver cX12_isOver 5 (some .boolean) 4 0 0 κ [.ref (κ.1 + a0), .int a1, .int a2] M (some (.int ro)) mo := by
  refine xC_of rfl (Nat.le_of_ble_eq_true rfl) fun p e s m args below meth c X hr hlk hnm H locs ls O hl => ?_
  have X : xX p s m args c cX12_isOver 5 RX12 κ := X
  have hl : lv_has ls 5 [(0, .ref (κ.1 + a0)), (1, .int a1), (2, .int a2)] := hl
  have hx := X.1
  have hb := X.2.1
  obtain ⟨x, hx0⟩ : ∃ x, (ro, mo) = x := ⟨_, rfl⟩
  rw [hx0] at h
  have hK : x = (ro, mo) := hx0.symm
  unfold F_X12_isOver at h
  refine lv_aload_n hx hb dX12_isOver_0 rfl (lv_at hl 0 rfl) ?_
  obtain ⟨t1, ht1, h⟩ := Option.bind_eq_some_iff.mp h
  refine xr_getP X O ht1 fl_X12_13 dX12_isOver_1 ?_
  refine lv_bipush (v := (31 : Int32)) hx hb dX12_isOver_4 (by decide) ?_
  refine lv_iconst (v := (2 : Int32)) hx hb dX12_isOver_6 (by decide) ?_
  refine lv_iload_n hx hb dX12_isOver_7 rfl (lv_at hl 1 rfl) ?_
  refine lv_imul hx hb dX12_isOver_8 ?_
  refine lv_iadd hx hb dX12_isOver_9 ?_
  obtain ⟨t2, ht2, h⟩ := Option.bind_eq_some_iff.mp h
  refine xr_aldI X O ht2 dX12_isOver_10 ?_
  refine lv_istore_n (lv' := [(3, .int t2), (0, .ref (κ.1 + a0)), (1, .int a1), (2, .int a2)]) hx hb dX12_isOver_11 rfl hl (by decide) rfl (fun ls hl => ?_)
  refine lv_aload_n hx hb dX12_isOver_12 rfl (lv_at hl 1 rfl) ?_
  obtain ⟨t3, ht3, h⟩ := Option.bind_eq_some_iff.mp h
  refine xr_getP X O ht3 fl_X12_13 dX12_isOver_13 ?_
  refine lv_bipush (v := (31 : Int32)) hx hb dX12_isOver_16 (by decide) ?_
  refine lv_iconst (v := (2 : Int32)) hx hb dX12_isOver_18 (by decide) ?_
  refine lv_iload_n hx hb dX12_isOver_19 rfl (lv_at hl 2 rfl) ?_
  refine lv_imul hx hb dX12_isOver_20 ?_
  refine lv_iadd hx hb dX12_isOver_21 ?_
  refine lv_iconst (v := (1 : Int32)) hx hb dX12_isOver_22 (by decide) ?_
  refine lv_iadd hx hb dX12_isOver_23 ?_
  obtain ⟨t4, ht4, h⟩ := Option.bind_eq_some_iff.mp h
  refine xr_aldI X O ht4 dX12_isOver_24 ?_
  refine lv_istore (lv' := [(4, .int t4), (3, .int t2), (0, .ref (κ.1 + a0)), (1, .int a1), (2, .int a2)]) hx hb dX12_isOver_25 hl (by decide) rfl (fun ls hl => ?_)
  refine lv_iload_n hx hb dX12_isOver_27 rfl (lv_at hl 4 rfl) ?_
  refine lv_aload_n hx hb dX12_isOver_28 rfl (lv_at hl 2 rfl) ?_
  obtain ⟨t5, ht5, h⟩ := Option.bind_eq_some_iff.mp h
  refine xr_getP X O ht5 fl_X12_13 dX12_isOver_29 ?_
  refine lv_iconst (v := (2 : Int32)) hx hb dX12_isOver_32 (by decide) ?_
  obtain ⟨t6, ht6, h⟩ := Option.bind_eq_some_iff.mp h
  refine xr_aldI X O ht6 dX12_isOver_33 ?_
  by_cases hz34 : t6 = 0
  · rw [if_pos hz34] at h; cases h
  rw [if_neg hz34] at h
  refine lv_idiv hx hb dX12_isOver_34 hz34 ?_
  refine lv_iload_n hx hb dX12_isOver_35 rfl (lv_at hl 1 rfl) ?_
  refine lv_aload_n hx hb dX12_isOver_36 rfl (lv_at hl 2 rfl) ?_
  obtain ⟨t7, ht7, h⟩ := Option.bind_eq_some_iff.mp h
  refine xr_getP X O ht7 fl_X12_13 dX12_isOver_37 ?_
  refine lv_iconst (v := (2 : Int32)) hx hb dX12_isOver_40 (by decide) ?_
  obtain ⟨t8, ht8, h⟩ := Option.bind_eq_some_iff.mp h
  refine xr_aldI X O ht8 dX12_isOver_41 ?_
  by_cases hz42 : t8 = 0
  · rw [if_pos hz42] at h; cases h
  rw [if_neg hz42] at h
  refine lv_idiv hx hb dX12_isOver_42 hz42 ?_
  refine lv_iload hx hb dX12_isOver_43 (lv_at hl 0 rfl) ?_
  refine lv_aload_n hx hb dX12_isOver_45 rfl (lv_at hl 2 rfl) ?_
  obtain ⟨t9, ht9, h⟩ := Option.bind_eq_some_iff.mp h
  refine xr_getP X O ht9 fl_X12_13 dX12_isOver_46 ?_
  refine lv_iconst (v := (2 : Int32)) hx hb dX12_isOver_49 (by decide) ?_
  obtain ⟨t10, ht10, h⟩ := Option.bind_eq_some_iff.mp h
  refine xr_aldI X O ht10 dX12_isOver_50 ?_
  by_cases hz51 : t10 = 0
  · rw [if_pos hz51] at h; cases h
  rw [if_neg hz51] at h
  refine lv_idiv hx hb dX12_isOver_51 hz51 ?_
  obtain ⟨t11, ht11, h⟩ := Option.bind_eq_some_iff.mp h
  refine xr_callS (rest := []) X O (T_X12_isAmid l κ (a2 / t6) (t2 / t8) (t4 / t10) M _ _ ht11) lk_X12_408 (Nat.le_of_ble_eq_true rfl) rfl hl.1 rfl (Nat.le_of_ble_eq_true rfl) dX12_isOver_52 ⟨Nat.le_of_ble_eq_true rfl, Nat.le_of_ble_eq_true rfl⟩ (fun H locs O => ?_)
  refine W.eq (g2 := F0 m 55 ls [.int t11.1]) rfl ?_
  refine lv_if_eq (tgt := 93) hx hb dX12_isOver_55 (by decide) (fun hc55 => ?_) (fun hc55 => ?_)
  · rw [if_pos hc55] at h
    exact F_X12_isOver_93_ok X hr hlk  t11.2 _ h hK H locs ls O (lv_sub hl [] rfl)
  rw [if_neg hc55] at h
  refine lv_iload_n hx hb dX12_isOver_58 rfl (lv_at hl 4 rfl) ?_
  refine lv_aload_n hx hb dX12_isOver_59 rfl (lv_at hl 2 rfl) ?_
  obtain ⟨t12, ht12, h⟩ := Option.bind_eq_some_iff.mp h
  refine xr_getP X O ht12 fl_X12_13 dX12_isOver_60 ?_
  refine lv_iconst (v := (2 : Int32)) hx hb dX12_isOver_63 (by decide) ?_
  obtain ⟨t13, ht13, h⟩ := Option.bind_eq_some_iff.mp h
  refine xr_aldI X O ht13 dX12_isOver_64 ?_
  by_cases hz65 : t13 = 0
  · rw [if_pos hz65] at h; cases h
  rw [if_neg hz65] at h
  refine lv_irem hx hb dX12_isOver_65 hz65 ?_
  refine lv_iload_n hx hb dX12_isOver_66 rfl (lv_at hl 1 rfl) ?_
  refine lv_aload_n hx hb dX12_isOver_67 rfl (lv_at hl 2 rfl) ?_
  obtain ⟨t14, ht14, h⟩ := Option.bind_eq_some_iff.mp h
  refine xr_getP X O ht14 fl_X12_13 dX12_isOver_68 ?_
  refine lv_iconst (v := (2 : Int32)) hx hb dX12_isOver_71 (by decide) ?_
  obtain ⟨t15, ht15, h⟩ := Option.bind_eq_some_iff.mp h
  refine xr_aldI X O ht15 dX12_isOver_72 ?_
  by_cases hz73 : t15 = 0
  · rw [if_pos hz73] at h; cases h
  rw [if_neg hz73] at h
  refine lv_irem hx hb dX12_isOver_73 hz73 ?_
  refine lv_iload hx hb dX12_isOver_74 (lv_at hl 0 rfl) ?_
  refine lv_aload_n hx hb dX12_isOver_76 rfl (lv_at hl 2 rfl) ?_
  obtain ⟨t16, ht16, h⟩ := Option.bind_eq_some_iff.mp h
  refine xr_getP X O ht16 fl_X12_13 dX12_isOver_77 ?_
  refine lv_iconst (v := (2 : Int32)) hx hb dX12_isOver_80 (by decide) ?_
  obtain ⟨t17, ht17, h⟩ := Option.bind_eq_some_iff.mp h
  refine xr_aldI X O ht17 dX12_isOver_81 ?_
  by_cases hz82 : t17 = 0
  · rw [if_pos hz82] at h; cases h
  rw [if_neg hz82] at h
  refine lv_irem hx hb dX12_isOver_82 hz82 ?_
  obtain ⟨t18, ht18, h⟩ := Option.bind_eq_some_iff.mp h
  refine xr_callS (rest := []) X O (T_X12_isAmid l κ (a2 - a2 / t13 * t13) (t2 - t2 / t15 * t15) (t4 - t4 / t17 * t17) t11.2 _ _ ht18) lk_X12_408 (Nat.le_of_ble_eq_true rfl) rfl hl.1 rfl (Nat.le_of_ble_eq_true rfl) dX12_isOver_83 ⟨Nat.le_of_ble_eq_true rfl, Nat.le_of_ble_eq_true rfl⟩ (fun H locs O => ?_)
  refine W.eq (g2 := F0 m 86 ls [.int t18.1]) rfl ?_
  refine lv_if_eq (tgt := 93) hx hb dX12_isOver_86 (by decide) (fun hc86 => ?_) (fun hc86 => ?_)
  · rw [if_pos hc86] at h
    exact F_X12_isOver_93_ok X hr hlk  t18.2 _ h hK H locs ls O (lv_sub hl [] rfl)
  rw [if_neg hc86] at h
  refine lv_iconst (v := (1 : Int32)) hx hb dX12_isOver_89 (by decide) ?_
  refine lv_goto (tgt := 94) hx hb dX12_isOver_90 (by decide) ?_
  obtain ⟨t19, ht19, h⟩ := Option.bind_eq_some_iff.mp h
  rw [← Option.some.inj h] at hK
  have hK : (t19, t18.2) = (ro, mo) := hK
  obtain ⟨hK1, hK2⟩ := Prod.mk.inj hK
  rw [hK1] at ht19
  rw [hK2] at O
  exact xr_zret X hr hlk O ht19 dX12_isOver_94
def F_X12_overlap_29 (M : xM) : Option (Int32 × xM) :=
(xz (1 : Int32)).bind fun t8 =>
some (t8, M)
def F_X12_overlap_31 (v0 : Nat) (v1 : Int32) (v2 : Int32) (v3 : Int32) (M : xM) : Option ((Int32 × xM) ⊕ (Int32 × xM)) :=
some (.inl ((v3 + 1), M))
def F_X12_overlap_37 (M : xM) : Option (Int32 × xM) :=
(xz (0 : Int32)).bind fun t7 =>
some (t7, M)
def F_X12_overlap_2b (v0 : Nat) (v1 : Int32) (v2 : Int32) : (Int32 × xM) → Option ((Int32 × xM) ⊕ (Int32 × xM)) := fun ⟨v3, M⟩ =>
(xck M v0 12).bind fun _ =>
(F_X12_isCell v0 v3.toInt64 M).bind fun t2 =>
if t2.1 = 0 then (
(F_X12_overlap_37 t2.2).map Sum.inr)
else (
(xck t2.2 v0 12).bind fun _ =>
(F_X12_isOver v0 v1 v3 t2.2).bind fun t4 =>
if t4.1 = 0 then (
F_X12_overlap_31 v0 v1 v2 v3 t4.2)
else (
(xck t4.2 v0 12).bind fun _ =>
(F_X12_isOver v0 v2 v3 t4.2).bind fun t6 =>
if t6.1 = 0 then (
F_X12_overlap_31 v0 v1 v2 v3 t6.2)
else (
(F_X12_overlap_29 t6.2).map Sum.inr)))
def F_X12_overlap_2 (v0 : Nat) (v1 : Int32) (v2 : Int32) (v3 : Int32) (M : xM) : Option (Int32 × xM) := xit (F_X12_overlap_2b v0 v1 v2) xFU (v3, M)
def F_X12_overlap (a0 : Nat) (a1 : Int32) (a2 : Int32) (M : xM) : Option (Int32 × xM) :=
F_X12_overlap_2 a0 a1 a2 (0 : Int32) M
set_option maxRecDepth 100000 in
set_option maxHeartbeats 4000000 in
theorem F_X12_overlap_29_ok (X : xX p s m args c cX12_overlap 4 RX12 κ) (hr : meth.sig.returnType = (some .boolean)) (hlk : meth.locks = false) {ro : Int32} {mo : xM} (M : xM) (x : Int32 × xM) (h : F_X12_overlap_29 M = some x) (hK : (fun o => o = (ro, mo)) x) (H : Heap) (locs : List Loc) (ls : Array Slot) (O : xO κ s M H locs) (hl : lv_has ls 4 []) : W p l e (xRm 5 0 0) s m args below meth c H locs 0 0 (xQf below args s 0 0 κ (some (.int ro)) mo) (F0 m 29 ls []) := by
  unfold F_X12_overlap_29 at h
  have hx := X.1
  have hb := X.2.1
  refine lv_iconst (v := (1 : Int32)) hx hb dX12_overlap_29 (by decide) ?_
  obtain ⟨t8, ht8, h⟩ := Option.bind_eq_some_iff.mp h
  rw [← Option.some.inj h] at hK
  have hK : (t8, M) = (ro, mo) := hK
  obtain ⟨hK1, hK2⟩ := Prod.mk.inj hK
  rw [hK1] at ht8
  rw [hK2] at O
  exact xr_zret X hr hlk O ht8 dX12_overlap_30
set_option maxRecDepth 100000 in
set_option maxHeartbeats 4000000 in
theorem F_X12_overlap_31_ok (X : xX p s m args c cX12_overlap 4 RX12 κ) (hr : meth.sig.returnType = (some .boolean)) (hlk : meth.locks = false) {ro : Int32} {mo : xM} (v0 : Nat) (v1 : Int32) (v2 : Int32) (v3 : Int32) {W2 : Int32 × xM → Prop} (hW2 : ∀ (v3 : Int32) (M : xM), W2 (v3, M) → ∀ (H : Heap) (locs : List Loc) (ls : Array Slot), xO κ s M H locs → lv_has ls 4 [(0, .ref (κ.1 + v0)), (1, .int v1), (2, .int v2), (3, .int v3)] → W p l e (xRm 5 0 0) s m args below meth c H locs 0 0 (xQf below args s 0 0 κ (some (.int ro)) mo) (F0 m 2 ls [])) (M : xM) (x : (Int32 × xM) ⊕ (Int32 × xM)) (h : F_X12_overlap_31 v0 v1 v2 v3 M = some x) (hK : (xKl W2 (fun o => o = (ro, mo))) x) (H : Heap) (locs : List Loc) (ls : Array Slot) (O : xO κ s M H locs) (hl : lv_has ls 4 [(0, .ref (κ.1 + v0)), (1, .int v1), (2, .int v2), (3, .int v3)]) : W p l e (xRm 5 0 0) s m args below meth c H locs 0 0 (xQf below args s 0 0 κ (some (.int ro)) mo) (F0 m 31 ls []) := by
  unfold F_X12_overlap_31 at h
  have hx := X.1
  have hb := X.2.1
  refine lv_iinc (v := (v3 + 1)) (lv' := [(3, .int (v3 + 1)), (0, .ref (κ.1 + v0)), (1, .int v1), (2, .int v2)]) hx hb dX12_overlap_31 hl (k := 3) rfl rfl (by decide) rfl (fun ls hl => ?_)
  refine lv_goto (tgt := 2) hx hb dX12_overlap_34 (by decide) ?_
  rw [← Option.some.inj h] at hK
  exact hW2 (v3 + 1) M hK H locs ls O (lv_sub hl [1, 2, 3, 0] rfl)
set_option maxRecDepth 100000 in
set_option maxHeartbeats 4000000 in
theorem F_X12_overlap_37_ok (X : xX p s m args c cX12_overlap 4 RX12 κ) (hr : meth.sig.returnType = (some .boolean)) (hlk : meth.locks = false) {ro : Int32} {mo : xM} (M : xM) (x : Int32 × xM) (h : F_X12_overlap_37 M = some x) (hK : (fun o => o = (ro, mo)) x) (H : Heap) (locs : List Loc) (ls : Array Slot) (O : xO κ s M H locs) (hl : lv_has ls 4 []) : W p l e (xRm 5 0 0) s m args below meth c H locs 0 0 (xQf below args s 0 0 κ (some (.int ro)) mo) (F0 m 37 ls []) := by
  unfold F_X12_overlap_37 at h
  have hx := X.1
  have hb := X.2.1
  refine lv_iconst (v := (0 : Int32)) hx hb dX12_overlap_37 (by decide) ?_
  obtain ⟨t7, ht7, h⟩ := Option.bind_eq_some_iff.mp h
  rw [← Option.some.inj h] at hK
  have hK : (t7, M) = (ro, mo) := hK
  obtain ⟨hK1, hK2⟩ := Prod.mk.inj hK
  rw [hK1] at ht7
  rw [hK2] at O
  exact xr_zret X hr hlk O ht7 dX12_overlap_38
set_option maxRecDepth 100000 in
set_option maxHeartbeats 4000000 in
theorem F_X12_overlap_2_bok (X : xX p s m args c cX12_overlap 4 RX12 κ) (hr : meth.sig.returnType = (some .boolean)) (hlk : meth.locks = false) {ro : Int32} {mo : xM} (v0 : Nat) (v1 : Int32) (v2 : Int32) (v3 : Int32) {W2 : Int32 × xM → Prop} (hW2 : ∀ (v3 : Int32) (M : xM), W2 (v3, M) → ∀ (H : Heap) (locs : List Loc) (ls : Array Slot), xO κ s M H locs → lv_has ls 4 [(0, .ref (κ.1 + v0)), (1, .int v1), (2, .int v2), (3, .int v3)] → W p l e (xRm 5 0 0) s m args below meth c H locs 0 0 (xQf below args s 0 0 κ (some (.int ro)) mo) (F0 m 2 ls [])) (M : xM) (x : (Int32 × xM) ⊕ (Int32 × xM)) (h : F_X12_overlap_2b v0 v1 v2 (v3, M) = some x) (hK : (xKl W2 (fun o => o = (ro, mo))) x) (H : Heap) (locs : List Loc) (ls : Array Slot) (O : xO κ s M H locs) (hl : lv_has ls 4 [(0, .ref (κ.1 + v0)), (1, .int v1), (2, .int v2), (3, .int v3)]) : W p l e (xRm 5 0 0) s m args below meth c H locs 0 0 (xQf below args s 0 0 κ (some (.int ro)) mo) (F0 m 2 ls []) := by
  unfold F_X12_overlap_2b at h
  dsimp only at h
  have hx := X.1
  have hb := X.2.1
  refine lv_aload_n hx hb dX12_overlap_2 rfl (lv_at hl 0 rfl) ?_
  refine lv_iload_n hx hb dX12_overlap_3 rfl (lv_at hl 3 rfl) ?_
  refine lv_i2l (v := v3.toInt64) hx hb dX12_overlap_4 rfl ?_
  obtain ⟨_, hut1, h⟩ := Option.bind_eq_some_iff.mp h
  obtain ⟨t2, ht2, h⟩ := Option.bind_eq_some_iff.mp h
  refine xr_callV (rest := []) X O (T_X12_isCell l κ v0 v3.toInt64 M _ _ ht2) lk_X12_230 hut1 (Nat.le_of_ble_eq_true rfl) rfl hl.1 rfl (Nat.le_of_ble_eq_true rfl) dX12_overlap_5 ⟨Nat.le_of_ble_eq_true rfl, Nat.le_of_ble_eq_true rfl⟩ (fun H locs O => ?_)
  refine W.eq (g2 := F0 m 8 ls [.int t2.1]) rfl ?_
  refine lv_if_eq (tgt := 37) hx hb dX12_overlap_8 (by decide) (fun hc8 => ?_) (fun hc8 => ?_)
  · rw [if_pos hc8] at h
    obtain ⟨_, hw0, ew0⟩ := Option.map_eq_some_iff.mp h
    rw [← ew0] at hK
    have h := hw0
    exact F_X12_overlap_37_ok X hr hlk  t2.2 _ h hK H locs ls O (lv_sub hl [] rfl)
  rw [if_neg hc8] at h
  refine lv_aload_n hx hb dX12_overlap_11 rfl (lv_at hl 0 rfl) ?_
  refine lv_iload_n hx hb dX12_overlap_12 rfl (lv_at hl 1 rfl) ?_
  refine lv_iload_n hx hb dX12_overlap_13 rfl (lv_at hl 3 rfl) ?_
  obtain ⟨_, hut3, h⟩ := Option.bind_eq_some_iff.mp h
  obtain ⟨t4, ht4, h⟩ := Option.bind_eq_some_iff.mp h
  refine xr_callV (rest := []) X O (T_X12_isOver l κ v0 v1 v3 t2.2 _ _ ht4) lk_X12_412 hut3 (Nat.le_of_ble_eq_true rfl) rfl hl.1 rfl (Nat.le_of_ble_eq_true rfl) dX12_overlap_14 ⟨Nat.le_of_ble_eq_true rfl, Nat.le_of_ble_eq_true rfl⟩ (fun H locs O => ?_)
  refine W.eq (g2 := F0 m 17 ls [.int t4.1]) rfl ?_
  refine lv_if_eq (tgt := 31) hx hb dX12_overlap_17 (by decide) (fun hc17 => ?_) (fun hc17 => ?_)
  · rw [if_pos hc17] at h
    exact F_X12_overlap_31_ok X hr hlk v0 v1 v2 v3 hW2 t4.2 _ h hK H locs ls O (lv_sub hl [0, 1, 2, 3] rfl)
  rw [if_neg hc17] at h
  refine lv_aload_n hx hb dX12_overlap_20 rfl (lv_at hl 0 rfl) ?_
  refine lv_iload_n hx hb dX12_overlap_21 rfl (lv_at hl 2 rfl) ?_
  refine lv_iload_n hx hb dX12_overlap_22 rfl (lv_at hl 3 rfl) ?_
  obtain ⟨_, hut5, h⟩ := Option.bind_eq_some_iff.mp h
  obtain ⟨t6, ht6, h⟩ := Option.bind_eq_some_iff.mp h
  refine xr_callV (rest := []) X O (T_X12_isOver l κ v0 v2 v3 t4.2 _ _ ht6) lk_X12_412 hut5 (Nat.le_of_ble_eq_true rfl) rfl hl.1 rfl (Nat.le_of_ble_eq_true rfl) dX12_overlap_23 ⟨Nat.le_of_ble_eq_true rfl, Nat.le_of_ble_eq_true rfl⟩ (fun H locs O => ?_)
  refine W.eq (g2 := F0 m 26 ls [.int t6.1]) rfl ?_
  refine lv_if_eq (tgt := 31) hx hb dX12_overlap_26 (by decide) (fun hc26 => ?_) (fun hc26 => ?_)
  · rw [if_pos hc26] at h
    exact F_X12_overlap_31_ok X hr hlk v0 v1 v2 v3 hW2 t6.2 _ h hK H locs ls O (lv_sub hl [0, 1, 2, 3] rfl)
  rw [if_neg hc26] at h
  obtain ⟨_, hw0, ew0⟩ := Option.map_eq_some_iff.mp h
  rw [← ew0] at hK
  have h := hw0
  exact F_X12_overlap_29_ok X hr hlk  t6.2 _ h hK H locs ls O (lv_sub hl [] rfl)
set_option maxRecDepth 100000 in
set_option maxHeartbeats 4000000 in
theorem F_X12_overlap_2_ok (X : xX p s m args c cX12_overlap 4 RX12 κ) (hr : meth.sig.returnType = (some .boolean)) (hlk : meth.locks = false) {ro : Int32} {mo : xM} (v0 : Nat) (v1 : Int32) (v2 : Int32) (v3 : Int32) (M : xM) (x : Int32 × xM) (h : F_X12_overlap_2 v0 v1 v2 v3 M = some x) (hK : (fun o => o = (ro, mo)) x) (H : Heap) (locs : List Loc) (ls : Array Slot) (O : xO κ s M H locs) (hl : lv_has ls 4 [(0, .ref (κ.1 + v0)), (1, .int v1), (2, .int v2), (3, .int v3)]) : W p l e (xRm 5 0 0) s m args below meth c H locs 0 0 (xQf below args s 0 0 κ (some (.int ro)) mo) (F0 m 2 ls []) := by
  refine xit_K (Wh := fun x => ∀ (H : Heap) (locs : List Loc) (ls : Array Slot), xO κ s x.2 H locs → lv_has ls 4 [(0, .ref (κ.1 + v0)), (1, .int v1), (2, .int v2), (3, .int x.1)] → W p l e (xRm 5 0 0) s m args below meth c H locs 0 0 (xQf below args s 0 0 κ (some (.int ro)) mo) (F0 m 2 ls [])) (Kp := (fun o => o = (ro, mo))) ?_ xFU (v3, M) x h hK H locs ls O hl
  intro y x h hK H locs ls O hl
  exact F_X12_overlap_2_bok X hr hlk v0 v1 v2 y.1 (fun _ _ hw => hw) y.2 x h hK H locs ls O hl
set_option maxRecDepth 100000 in
set_option maxHeartbeats 4000000 in
theorem T_X12_overlap (l : Launch) (κ : xQ) (a0 : Nat) (a1 : Int32) (a2 : Int32) (M : xM) (ro : Int32) (mo : xM) (h : F_X12_overlap a0 a1 a2 M = some (ro, mo)) : xC l yX12_overlap cX12_overlap 4 (some .boolean) 5 0 0 κ [.ref (κ.1 + a0), .int a1, .int a2] M (some (.int ro)) mo := by
  refine xC_of rfl (Nat.le_of_ble_eq_true rfl) fun p e s m args below meth c X hr hlk hnm H locs ls O hl => ?_
  have X : xX p s m args c cX12_overlap 4 RX12 κ := X
  have hl : lv_has ls 4 [(0, .ref (κ.1 + a0)), (1, .int a1), (2, .int a2)] := hl
  have hx := X.1
  have hb := X.2.1
  obtain ⟨x, hx0⟩ : ∃ x, (ro, mo) = x := ⟨_, rfl⟩
  rw [hx0] at h
  have hK : x = (ro, mo) := hx0.symm
  unfold F_X12_overlap at h
  refine lv_iconst (v := (0 : Int32)) hx hb dX12_overlap_0 (by decide) ?_
  refine lv_istore_n (lv' := [(3, .int (0 : Int32)), (0, .ref (κ.1 + a0)), (1, .int a1), (2, .int a2)]) hx hb dX12_overlap_1 rfl hl (by decide) rfl (fun ls hl => ?_)
  exact F_X12_overlap_2_ok X hr hlk a0 a1 a2 (0 : Int32) M _ h hK H locs ls O (lv_sub hl [1, 2, 3, 0] rfl)
def F_X12_canColour_59 (rc : Nat → Int32 → Int32 → xM → Option (Int32 × xM)) (v0 : Nat) (v1 : Int32) (v2 : Int32) (v3 : Int32) (v5 : Int32) (s0 : Int32) (s1 : Int32) (M : xM) : Option ((Int32 × Int32 × xM) ⊕ ((Int32 × xM) ⊕ (Int32 × xM))) :=
(some ((s1 &&& s0))).bind fun t13 =>
some (.inl (t13, (v5 + 1), M))
def F_X12_canColour_54 (rc : Nat → Int32 → Int32 → xM → Option (Int32 × xM)) (v0 : Nat) (v1 : Int32) (v2 : Int32) (v3 : Int32) (v5 : Int32) (s0 : Int32) (M : xM) : Option ((Int32 × Int32 × xM) ⊕ ((Int32 × xM) ⊕ (Int32 × xM))) :=
F_X12_canColour_59 rc v0 v1 v2 v3 v5 (1 : Int32) s0 M
def F_X12_canColour_94 (rc : Nat → Int32 → Int32 → xM → Option (Int32 × xM)) (M : xM) : Option (Int32 × xM) :=
(xz (1 : Int32)).bind fun t14 =>
some (t14, M)
def F_X12_canColour_96 (rc : Nat → Int32 → Int32 → xM → Option (Int32 × xM)) (v0 : Nat) (v1 : Int32) (v2 : Int32) (v3 : Int32) (M : xM) : Option ((Int32 × xM) ⊕ (Int32 × xM)) :=
some (.inl ((v3 + 1), M))
def F_X12_canColour_68 (rc : Nat → Int32 → Int32 → xM → Option (Int32 × xM)) (v0 : Nat) (v1 : Int32) (v2 : Int32) (v3 : Int32) (v4 : Int32) (M : xM) : Option ((Int32 × xM) ⊕ (Int32 × xM)) :=
if v4 = 0 then (
F_X12_canColour_96 rc v0 v1 v2 v3 M)
else (
(xgP M v0 12 29).bind fun t9 =>
(xsI M t9 v1 v3).bind fun t10 =>
(xck t10 v0 12).bind fun _ =>
(rc v0 (v1 + (1 : Int32)) v2 t10).bind fun t12 =>
if t12.1 = 0 then (
F_X12_canColour_96 rc v0 v1 v2 v3 t12.2)
else (
(F_X12_canColour_94 rc t12.2).map Sum.inr))
def F_X12_canColour_25b (rc : Nat → Int32 → Int32 → xM → Option (Int32 × xM)) (v0 : Nat) (v1 : Int32) (v2 : Int32) (v3 : Int32) : (Int32 × Int32 × xM) → Option ((Int32 × Int32 × xM) ⊕ ((Int32 × xM) ⊕ (Int32 × xM))) := fun ⟨v4, v5, M⟩ =>
if v1 ≤ v5 then (
(F_X12_canColour_68 rc v0 v1 v2 v3 v4 M).map Sum.inr)
else (
(xgP M v0 12 29).bind fun t5 =>
(xaI M 20 t5 v5).bind fun t6 =>
if t6 = v3 then (
(xck M v0 12).bind fun _ =>
(F_X12_overlap v0 v1 v5 M).bind fun t8 =>
if t8.1 = 0 then (
F_X12_canColour_54 rc v0 v1 v2 v3 v5 v4 t8.2)
else (
F_X12_canColour_59 rc v0 v1 v2 v3 v5 (0 : Int32) v4 t8.2))
else (
F_X12_canColour_54 rc v0 v1 v2 v3 v5 v4 M))
def F_X12_canColour_25 (rc : Nat → Int32 → Int32 → xM → Option (Int32 × xM)) (v0 : Nat) (v1 : Int32) (v2 : Int32) (v3 : Int32) (v4 : Int32) (v5 : Int32) (M : xM) : Option ((Int32 × xM) ⊕ (Int32 × xM)) := xit (F_X12_canColour_25b rc v0 v1 v2 v3) xFU (v4, v5, M)
def F_X12_canColour_102 (rc : Nat → Int32 → Int32 → xM → Option (Int32 × xM)) (M : xM) : Option (Int32 × xM) :=
(xz (0 : Int32)).bind fun t4 =>
some (t4, M)
def F_X12_canColour_14b (rc : Nat → Int32 → Int32 → xM → Option (Int32 × xM)) (v0 : Nat) (v1 : Int32) (v2 : Int32) : (Int32 × xM) → Option ((Int32 × xM) ⊕ (Int32 × xM)) := fun ⟨v3, M⟩ =>
if v2 ≤ v3 then (
(F_X12_canColour_102 rc M).map Sum.inr)
else (
F_X12_canColour_25 rc v0 v1 v2 v3 (1 : Int32) (0 : Int32) M)
def F_X12_canColour_14 (rc : Nat → Int32 → Int32 → xM → Option (Int32 × xM)) (v0 : Nat) (v1 : Int32) (v2 : Int32) (v3 : Int32) (M : xM) : Option (Int32 × xM) := xit (F_X12_canColour_14b rc v0 v1 v2) xFU (v3, M)
def F_X12_canColour (rc : Nat → Int32 → Int32 → xM → Option (Int32 × xM)) (a0 : Nat) (a1 : Int32) (a2 : Int32) (M : xM) : Option (Int32 × xM) :=
(xgP M a0 12 1).bind fun t1 =>
(xaI M 20 t1 (5 : Int32)).bind fun t2 =>
if a1 = t2 then (
(xz (1 : Int32)).bind fun t3 =>
some (t3, M))
else (
F_X12_canColour_14 rc a0 a1 a2 (0 : Int32) M)
def R_X12_canColour : Nat → Nat → Int32 → Int32 → xM → Option (Int32 × xM)
  | 0 => fun _ _ _ _ => none
  | n + 1 => F_X12_canColour (R_X12_canColour n)
def F_X12_canColour_top : Nat → Int32 → Int32 → xM → Option (Int32 × xM) := R_X12_canColour 8
def Fx_X12_canColour (a0 : Nat) (a1 : Int32) (a2 : Int32) (M : xM) : Option (Int32 × xM) := R_X12_canColour 8 a0 a1 a2 M
set_option maxRecDepth 100000 in
set_option maxHeartbeats 4000000 in
theorem F_X12_canColour_59_ok {dd : Nat} (hdd : 5 ≤ dd) {rc : Nat → Int32 → Int32 → xM → Option (Int32 × xM)} (hrc0 : ∀ (κ : xQ) (a0 : Nat) (a1 : Int32) (a2 : Int32) (M : xM) (ro : Int32) (mo : xM), rc a0 a1 a2 M = some (ro, mo) → xC l yX12_canColour cX12_canColour 6 (some .boolean) dd 0 0 κ [.ref (κ.1 + a0), .int a1, .int a2] M (some (.int ro)) mo) (X : xX p s m args c cX12_canColour 6 RX12 κ) (hr : meth.sig.returnType = (some .boolean)) (hlk : meth.locks = false) {ro : Int32} {mo : xM} (v0 : Nat) (v1 : Int32) (v2 : Int32) (v3 : Int32) (v5 : Int32) (s0 : Int32) (s1 : Int32) {W14 : Int32 × xM → Prop} (hW14 : ∀ (v3 : Int32) (M : xM), W14 (v3, M) → ∀ (H : Heap) (locs : List Loc) (ls : Array Slot), xO κ s M H locs → lv_has ls 6 [(0, .ref (κ.1 + v0)), (1, .int v1), (2, .int v2), (3, .int v3)] → W p l e (xRm (dd + 1) 0 0) s m args below meth c H locs 0 0 (xQf below args s 0 0 κ (some (.int ro)) mo) (F0 m 14 ls [])) {W25 : Int32 × Int32 × xM → Prop} (hW25 : ∀ (v4 : Int32) (v5 : Int32) (M : xM), W25 (v4, v5, M) → ∀ (H : Heap) (locs : List Loc) (ls : Array Slot), xO κ s M H locs → lv_has ls 6 [(0, .ref (κ.1 + v0)), (1, .int v1), (2, .int v2), (3, .int v3), (4, .int v4), (5, .int v5)] → W p l e (xRm (dd + 1) 0 0) s m args below meth c H locs 0 0 (xQf below args s 0 0 κ (some (.int ro)) mo) (F0 m 25 ls [])) (M : xM) (x : (Int32 × Int32 × xM) ⊕ ((Int32 × xM) ⊕ (Int32 × xM))) (h : F_X12_canColour_59 rc v0 v1 v2 v3 v5 s0 s1 M = some x) (hK : (xKl W25 (xKl W14 (fun o => o = (ro, mo)))) x) (H : Heap) (locs : List Loc) (ls : Array Slot) (O : xO κ s M H locs) (hl : lv_has ls 6 [(0, .ref (κ.1 + v0)), (1, .int v1), (2, .int v2), (3, .int v3), (5, .int v5)]) : W p l e (xRm (dd + 1) 0 0) s m args below meth c H locs 0 0 (xQf below args s 0 0 κ (some (.int ro)) mo) (F0 m 59 ls [.int s0, .int s1]) := by
  unfold F_X12_canColour_59 at h
  have hx := X.1
  have hb := X.2.1
  refine lv_iand hx hb dX12_canColour_59 ?_
  obtain ⟨t13, ht13, h⟩ := Option.bind_eq_some_iff.mp h
  refine xr_top (w := .int t13) (by rw [Option.some.inj ht13]) ?_
  refine lv_istore (lv' := [(4, .int t13), (0, .ref (κ.1 + v0)), (1, .int v1), (2, .int v2), (3, .int v3), (5, .int v5)]) hx hb dX12_canColour_60 hl (by decide) rfl (fun ls hl => ?_)
  refine lv_iinc (v := (v5 + 1)) (lv' := [(5, .int (v5 + 1)), (4, .int t13), (0, .ref (κ.1 + v0)), (1, .int v1), (2, .int v2), (3, .int v3)]) hx hb dX12_canColour_62 hl (k := 5) rfl rfl (by decide) rfl (fun ls hl => ?_)
  refine lv_goto (tgt := 25) hx hb dX12_canColour_65 (by decide) ?_
  rw [← Option.some.inj h] at hK
  exact hW25 t13 (v5 + 1) M hK H locs ls O (lv_sub hl [2, 3, 4, 5, 1, 0] rfl)
set_option maxRecDepth 100000 in
set_option maxHeartbeats 4000000 in
theorem F_X12_canColour_54_ok {dd : Nat} (hdd : 5 ≤ dd) {rc : Nat → Int32 → Int32 → xM → Option (Int32 × xM)} (hrc0 : ∀ (κ : xQ) (a0 : Nat) (a1 : Int32) (a2 : Int32) (M : xM) (ro : Int32) (mo : xM), rc a0 a1 a2 M = some (ro, mo) → xC l yX12_canColour cX12_canColour 6 (some .boolean) dd 0 0 κ [.ref (κ.1 + a0), .int a1, .int a2] M (some (.int ro)) mo) (X : xX p s m args c cX12_canColour 6 RX12 κ) (hr : meth.sig.returnType = (some .boolean)) (hlk : meth.locks = false) {ro : Int32} {mo : xM} (v0 : Nat) (v1 : Int32) (v2 : Int32) (v3 : Int32) (v5 : Int32) (s0 : Int32) {W14 : Int32 × xM → Prop} (hW14 : ∀ (v3 : Int32) (M : xM), W14 (v3, M) → ∀ (H : Heap) (locs : List Loc) (ls : Array Slot), xO κ s M H locs → lv_has ls 6 [(0, .ref (κ.1 + v0)), (1, .int v1), (2, .int v2), (3, .int v3)] → W p l e (xRm (dd + 1) 0 0) s m args below meth c H locs 0 0 (xQf below args s 0 0 κ (some (.int ro)) mo) (F0 m 14 ls [])) {W25 : Int32 × Int32 × xM → Prop} (hW25 : ∀ (v4 : Int32) (v5 : Int32) (M : xM), W25 (v4, v5, M) → ∀ (H : Heap) (locs : List Loc) (ls : Array Slot), xO κ s M H locs → lv_has ls 6 [(0, .ref (κ.1 + v0)), (1, .int v1), (2, .int v2), (3, .int v3), (4, .int v4), (5, .int v5)] → W p l e (xRm (dd + 1) 0 0) s m args below meth c H locs 0 0 (xQf below args s 0 0 κ (some (.int ro)) mo) (F0 m 25 ls [])) (M : xM) (x : (Int32 × Int32 × xM) ⊕ ((Int32 × xM) ⊕ (Int32 × xM))) (h : F_X12_canColour_54 rc v0 v1 v2 v3 v5 s0 M = some x) (hK : (xKl W25 (xKl W14 (fun o => o = (ro, mo)))) x) (H : Heap) (locs : List Loc) (ls : Array Slot) (O : xO κ s M H locs) (hl : lv_has ls 6 [(0, .ref (κ.1 + v0)), (1, .int v1), (2, .int v2), (3, .int v3), (5, .int v5)]) : W p l e (xRm (dd + 1) 0 0) s m args below meth c H locs 0 0 (xQf below args s 0 0 κ (some (.int ro)) mo) (F0 m 54 ls [.int s0]) := by
  unfold F_X12_canColour_54 at h
  have hx := X.1
  have hb := X.2.1
  refine lv_iconst (v := (1 : Int32)) hx hb dX12_canColour_54 (by decide) ?_
  refine lv_goto (tgt := 59) hx hb dX12_canColour_55 (by decide) ?_
  exact F_X12_canColour_59_ok hdd hrc0 X hr hlk v0 v1 v2 v3 v5 (1 : Int32) s0 hW14 hW25 M _ h hK H locs ls O (lv_sub hl [0, 1, 2, 3, 4] rfl)
set_option maxRecDepth 100000 in
set_option maxHeartbeats 4000000 in
theorem F_X12_canColour_94_ok {dd : Nat} (hdd : 5 ≤ dd) {rc : Nat → Int32 → Int32 → xM → Option (Int32 × xM)} (hrc0 : ∀ (κ : xQ) (a0 : Nat) (a1 : Int32) (a2 : Int32) (M : xM) (ro : Int32) (mo : xM), rc a0 a1 a2 M = some (ro, mo) → xC l yX12_canColour cX12_canColour 6 (some .boolean) dd 0 0 κ [.ref (κ.1 + a0), .int a1, .int a2] M (some (.int ro)) mo) (X : xX p s m args c cX12_canColour 6 RX12 κ) (hr : meth.sig.returnType = (some .boolean)) (hlk : meth.locks = false) {ro : Int32} {mo : xM} (M : xM) (x : Int32 × xM) (h : F_X12_canColour_94 rc M = some x) (hK : (fun o => o = (ro, mo)) x) (H : Heap) (locs : List Loc) (ls : Array Slot) (O : xO κ s M H locs) (hl : lv_has ls 6 []) : W p l e (xRm (dd + 1) 0 0) s m args below meth c H locs 0 0 (xQf below args s 0 0 κ (some (.int ro)) mo) (F0 m 94 ls []) := by
  unfold F_X12_canColour_94 at h
  have hx := X.1
  have hb := X.2.1
  refine lv_iconst (v := (1 : Int32)) hx hb dX12_canColour_94 (by decide) ?_
  obtain ⟨t14, ht14, h⟩ := Option.bind_eq_some_iff.mp h
  rw [← Option.some.inj h] at hK
  have hK : (t14, M) = (ro, mo) := hK
  obtain ⟨hK1, hK2⟩ := Prod.mk.inj hK
  rw [hK1] at ht14
  rw [hK2] at O
  exact xr_zret X hr hlk O ht14 dX12_canColour_95
set_option maxRecDepth 100000 in
set_option maxHeartbeats 4000000 in
theorem F_X12_canColour_96_ok {dd : Nat} (hdd : 5 ≤ dd) {rc : Nat → Int32 → Int32 → xM → Option (Int32 × xM)} (hrc0 : ∀ (κ : xQ) (a0 : Nat) (a1 : Int32) (a2 : Int32) (M : xM) (ro : Int32) (mo : xM), rc a0 a1 a2 M = some (ro, mo) → xC l yX12_canColour cX12_canColour 6 (some .boolean) dd 0 0 κ [.ref (κ.1 + a0), .int a1, .int a2] M (some (.int ro)) mo) (X : xX p s m args c cX12_canColour 6 RX12 κ) (hr : meth.sig.returnType = (some .boolean)) (hlk : meth.locks = false) {ro : Int32} {mo : xM} (v0 : Nat) (v1 : Int32) (v2 : Int32) (v3 : Int32) {W14 : Int32 × xM → Prop} (hW14 : ∀ (v3 : Int32) (M : xM), W14 (v3, M) → ∀ (H : Heap) (locs : List Loc) (ls : Array Slot), xO κ s M H locs → lv_has ls 6 [(0, .ref (κ.1 + v0)), (1, .int v1), (2, .int v2), (3, .int v3)] → W p l e (xRm (dd + 1) 0 0) s m args below meth c H locs 0 0 (xQf below args s 0 0 κ (some (.int ro)) mo) (F0 m 14 ls [])) (M : xM) (x : (Int32 × xM) ⊕ (Int32 × xM)) (h : F_X12_canColour_96 rc v0 v1 v2 v3 M = some x) (hK : (xKl W14 (fun o => o = (ro, mo))) x) (H : Heap) (locs : List Loc) (ls : Array Slot) (O : xO κ s M H locs) (hl : lv_has ls 6 [(0, .ref (κ.1 + v0)), (1, .int v1), (2, .int v2), (3, .int v3)]) : W p l e (xRm (dd + 1) 0 0) s m args below meth c H locs 0 0 (xQf below args s 0 0 κ (some (.int ro)) mo) (F0 m 96 ls []) := by
  unfold F_X12_canColour_96 at h
  have hx := X.1
  have hb := X.2.1
  refine lv_iinc (v := (v3 + 1)) (lv' := [(3, .int (v3 + 1)), (0, .ref (κ.1 + v0)), (1, .int v1), (2, .int v2)]) hx hb dX12_canColour_96 hl (k := 3) rfl rfl (by decide) rfl (fun ls hl => ?_)
  refine lv_goto (tgt := 14) hx hb dX12_canColour_99 (by decide) ?_
  rw [← Option.some.inj h] at hK
  exact hW14 (v3 + 1) M hK H locs ls O (lv_sub hl [1, 2, 3, 0] rfl)
set_option maxRecDepth 100000 in
set_option maxHeartbeats 4000000 in
theorem F_X12_canColour_68_ok {dd : Nat} (hdd : 5 ≤ dd) {rc : Nat → Int32 → Int32 → xM → Option (Int32 × xM)} (hrc0 : ∀ (κ : xQ) (a0 : Nat) (a1 : Int32) (a2 : Int32) (M : xM) (ro : Int32) (mo : xM), rc a0 a1 a2 M = some (ro, mo) → xC l yX12_canColour cX12_canColour 6 (some .boolean) dd 0 0 κ [.ref (κ.1 + a0), .int a1, .int a2] M (some (.int ro)) mo) (X : xX p s m args c cX12_canColour 6 RX12 κ) (hr : meth.sig.returnType = (some .boolean)) (hlk : meth.locks = false) {ro : Int32} {mo : xM} (v0 : Nat) (v1 : Int32) (v2 : Int32) (v3 : Int32) (v4 : Int32) {W14 : Int32 × xM → Prop} (hW14 : ∀ (v3 : Int32) (M : xM), W14 (v3, M) → ∀ (H : Heap) (locs : List Loc) (ls : Array Slot), xO κ s M H locs → lv_has ls 6 [(0, .ref (κ.1 + v0)), (1, .int v1), (2, .int v2), (3, .int v3)] → W p l e (xRm (dd + 1) 0 0) s m args below meth c H locs 0 0 (xQf below args s 0 0 κ (some (.int ro)) mo) (F0 m 14 ls [])) (M : xM) (x : (Int32 × xM) ⊕ (Int32 × xM)) (h : F_X12_canColour_68 rc v0 v1 v2 v3 v4 M = some x) (hK : (xKl W14 (fun o => o = (ro, mo))) x) (H : Heap) (locs : List Loc) (ls : Array Slot) (O : xO κ s M H locs) (hl : lv_has ls 6 [(0, .ref (κ.1 + v0)), (1, .int v1), (2, .int v2), (3, .int v3), (4, .int v4)]) : W p l e (xRm (dd + 1) 0 0) s m args below meth c H locs 0 0 (xQf below args s 0 0 κ (some (.int ro)) mo) (F0 m 68 ls []) := by
  unfold F_X12_canColour_68 at h
  have hx := X.1
  have hb := X.2.1
  refine lv_iload hx hb dX12_canColour_68 (lv_at hl 4 rfl) ?_
  refine lv_if_ne (tgt := 76) hx hb dX12_canColour_70 (by decide) (fun hc70 => ?_) (fun hc70 => ?_)
  · rw [if_neg hc70] at h
    refine lv_aload_n hx hb dX12_canColour_76 rfl (lv_at hl 0 rfl) ?_
    obtain ⟨t9, ht9, h⟩ := Option.bind_eq_some_iff.mp h
    refine xr_getP X O ht9 fl_X12_57 dX12_canColour_77 ?_
    refine lv_iload_n hx hb dX12_canColour_80 rfl (lv_at hl 1 rfl) ?_
    refine lv_iload_n hx hb dX12_canColour_81 rfl (lv_at hl 3 rfl) ?_
    obtain ⟨t10, ht10, h⟩ := Option.bind_eq_some_iff.mp h
    refine xr_stI X O ht10 dX12_canColour_82 (fun H locs O => ?_)
    refine lv_aload_n hx hb dX12_canColour_83 rfl (lv_at hl 0 rfl) ?_
    refine lv_iload_n hx hb dX12_canColour_84 rfl (lv_at hl 1 rfl) ?_
    refine lv_iconst (v := (1 : Int32)) hx hb dX12_canColour_85 (by decide) ?_
    refine lv_iadd hx hb dX12_canColour_86 ?_
    refine lv_iload_n hx hb dX12_canColour_87 rfl (lv_at hl 2 rfl) ?_
    obtain ⟨_, hut11, h⟩ := Option.bind_eq_some_iff.mp h
    obtain ⟨t12, ht12, h⟩ := Option.bind_eq_some_iff.mp h
    refine xr_callV (rest := []) X O (hrc0 κ v0 (v1 + (1 : Int32)) v2 t10 _ _ ht12) lk_X12_418 hut11 (Nat.le_refl _) rfl hl.1 rfl (Nat.le_of_ble_eq_true rfl) dX12_canColour_88 ⟨Nat.le_of_ble_eq_true rfl, Nat.le_of_ble_eq_true rfl⟩ (fun H locs O => ?_)
    refine W.eq (g2 := F0 m 91 ls [.int t12.1]) rfl ?_
    refine lv_if_eq (tgt := 96) hx hb dX12_canColour_91 (by decide) (fun hc91 => ?_) (fun hc91 => ?_)
    · rw [if_pos hc91] at h
      exact F_X12_canColour_96_ok hdd hrc0 X hr hlk v0 v1 v2 v3 hW14 t12.2 _ h hK H locs ls O (lv_sub hl [0, 1, 2, 3] rfl)
    rw [if_neg hc91] at h
    obtain ⟨_, hw0, ew0⟩ := Option.map_eq_some_iff.mp h
    rw [← ew0] at hK
    have h := hw0
    exact F_X12_canColour_94_ok hdd hrc0 X hr hlk  t12.2 _ h hK H locs ls O (lv_sub hl [] rfl)
  rw [if_pos hc70] at h
  refine lv_goto (tgt := 96) hx hb dX12_canColour_73 (by decide) ?_
  exact F_X12_canColour_96_ok hdd hrc0 X hr hlk v0 v1 v2 v3 hW14 M _ h hK H locs ls O (lv_sub hl [0, 1, 2, 3] rfl)
set_option maxRecDepth 100000 in
set_option maxHeartbeats 4000000 in
theorem F_X12_canColour_25_bok {dd : Nat} (hdd : 5 ≤ dd) {rc : Nat → Int32 → Int32 → xM → Option (Int32 × xM)} (hrc0 : ∀ (κ : xQ) (a0 : Nat) (a1 : Int32) (a2 : Int32) (M : xM) (ro : Int32) (mo : xM), rc a0 a1 a2 M = some (ro, mo) → xC l yX12_canColour cX12_canColour 6 (some .boolean) dd 0 0 κ [.ref (κ.1 + a0), .int a1, .int a2] M (some (.int ro)) mo) (X : xX p s m args c cX12_canColour 6 RX12 κ) (hr : meth.sig.returnType = (some .boolean)) (hlk : meth.locks = false) {ro : Int32} {mo : xM} (v0 : Nat) (v1 : Int32) (v2 : Int32) (v3 : Int32) (v4 : Int32) (v5 : Int32) {W14 : Int32 × xM → Prop} (hW14 : ∀ (v3 : Int32) (M : xM), W14 (v3, M) → ∀ (H : Heap) (locs : List Loc) (ls : Array Slot), xO κ s M H locs → lv_has ls 6 [(0, .ref (κ.1 + v0)), (1, .int v1), (2, .int v2), (3, .int v3)] → W p l e (xRm (dd + 1) 0 0) s m args below meth c H locs 0 0 (xQf below args s 0 0 κ (some (.int ro)) mo) (F0 m 14 ls [])) {W25 : Int32 × Int32 × xM → Prop} (hW25 : ∀ (v4 : Int32) (v5 : Int32) (M : xM), W25 (v4, v5, M) → ∀ (H : Heap) (locs : List Loc) (ls : Array Slot), xO κ s M H locs → lv_has ls 6 [(0, .ref (κ.1 + v0)), (1, .int v1), (2, .int v2), (3, .int v3), (4, .int v4), (5, .int v5)] → W p l e (xRm (dd + 1) 0 0) s m args below meth c H locs 0 0 (xQf below args s 0 0 κ (some (.int ro)) mo) (F0 m 25 ls [])) (M : xM) (x : (Int32 × Int32 × xM) ⊕ ((Int32 × xM) ⊕ (Int32 × xM))) (h : F_X12_canColour_25b rc v0 v1 v2 v3 (v4, v5, M) = some x) (hK : (xKl W25 (xKl W14 (fun o => o = (ro, mo)))) x) (H : Heap) (locs : List Loc) (ls : Array Slot) (O : xO κ s M H locs) (hl : lv_has ls 6 [(0, .ref (κ.1 + v0)), (1, .int v1), (2, .int v2), (3, .int v3), (4, .int v4), (5, .int v5)]) : W p l e (xRm (dd + 1) 0 0) s m args below meth c H locs 0 0 (xQf below args s 0 0 κ (some (.int ro)) mo) (F0 m 25 ls []) := by
  unfold F_X12_canColour_25b at h
  dsimp only at h
  have hx := X.1
  have hb := X.2.1
  refine lv_iload hx hb dX12_canColour_25 (lv_at hl 5 rfl) ?_
  refine lv_iload_n hx hb dX12_canColour_27 rfl (lv_at hl 1 rfl) ?_
  refine lv_icmp_ge (tgt := 68) hx hb dX12_canColour_28 (by decide) (fun hc28 => ?_) (fun hc28 => ?_)
  · rw [if_pos hc28] at h
    obtain ⟨_, hw0, ew0⟩ := Option.map_eq_some_iff.mp h
    rw [← ew0] at hK
    have h := hw0
    exact F_X12_canColour_68_ok hdd hrc0 X hr hlk v0 v1 v2 v3 v4 hW14 M _ h hK H locs ls O (lv_sub hl [0, 1, 2, 3, 4] rfl)
  rw [if_neg hc28] at h
  refine lv_iload hx hb dX12_canColour_31 (lv_at hl 4 rfl) ?_
  refine lv_aload_n hx hb dX12_canColour_33 rfl (lv_at hl 0 rfl) ?_
  obtain ⟨t5, ht5, h⟩ := Option.bind_eq_some_iff.mp h
  refine xr_getP X O ht5 fl_X12_57 dX12_canColour_34 ?_
  refine lv_iload hx hb dX12_canColour_37 (lv_at hl 5 rfl) ?_
  obtain ⟨t6, ht6, h⟩ := Option.bind_eq_some_iff.mp h
  refine xr_aldI X O ht6 dX12_canColour_39 ?_
  refine lv_iload_n hx hb dX12_canColour_40 rfl (lv_at hl 3 rfl) ?_
  refine lv_icmp_ne (tgt := 54) hx hb dX12_canColour_41 (by decide) (fun hc41 => ?_) (fun hc41 => ?_)
  · rw [if_neg hc41] at h
    exact F_X12_canColour_54_ok hdd hrc0 X hr hlk v0 v1 v2 v3 v5 v4 hW14 hW25 M _ h hK H locs ls O (lv_sub hl [0, 1, 2, 3, 5] rfl)
  rw [if_pos hc41] at h
  refine lv_aload_n hx hb dX12_canColour_44 rfl (lv_at hl 0 rfl) ?_
  refine lv_iload_n hx hb dX12_canColour_45 rfl (lv_at hl 1 rfl) ?_
  refine lv_iload hx hb dX12_canColour_46 (lv_at hl 5 rfl) ?_
  obtain ⟨_, hut7, h⟩ := Option.bind_eq_some_iff.mp h
  obtain ⟨t8, ht8, h⟩ := Option.bind_eq_some_iff.mp h
  refine xr_callV (rest := [.int v4]) X O (T_X12_overlap l κ v0 v1 v5 M _ _ ht8) lk_X12_415 hut7 (by omega) rfl hl.1 rfl (Nat.le_of_ble_eq_true rfl) dX12_canColour_48 ⟨Nat.le_of_ble_eq_true rfl, Nat.le_of_ble_eq_true rfl⟩ (fun H locs O => ?_)
  refine W.eq (g2 := F0 m 51 ls [.int t8.1, .int v4]) rfl ?_
  refine lv_if_ne (tgt := 58) hx hb dX12_canColour_51 (by decide) (fun hc51 => ?_) (fun hc51 => ?_)
  · rw [if_neg hc51] at h
    refine lv_iconst (v := (0 : Int32)) hx hb dX12_canColour_58 (by decide) ?_
    exact F_X12_canColour_59_ok hdd hrc0 X hr hlk v0 v1 v2 v3 v5 (0 : Int32) v4 hW14 hW25 t8.2 _ h hK H locs ls O (lv_sub hl [0, 1, 2, 3, 5] rfl)
  rw [if_pos hc51] at h
  exact F_X12_canColour_54_ok hdd hrc0 X hr hlk v0 v1 v2 v3 v5 v4 hW14 hW25 t8.2 _ h hK H locs ls O (lv_sub hl [0, 1, 2, 3, 5] rfl)
set_option maxRecDepth 100000 in
set_option maxHeartbeats 4000000 in
theorem F_X12_canColour_25_ok {dd : Nat} (hdd : 5 ≤ dd) {rc : Nat → Int32 → Int32 → xM → Option (Int32 × xM)} (hrc0 : ∀ (κ : xQ) (a0 : Nat) (a1 : Int32) (a2 : Int32) (M : xM) (ro : Int32) (mo : xM), rc a0 a1 a2 M = some (ro, mo) → xC l yX12_canColour cX12_canColour 6 (some .boolean) dd 0 0 κ [.ref (κ.1 + a0), .int a1, .int a2] M (some (.int ro)) mo) (X : xX p s m args c cX12_canColour 6 RX12 κ) (hr : meth.sig.returnType = (some .boolean)) (hlk : meth.locks = false) {ro : Int32} {mo : xM} (v0 : Nat) (v1 : Int32) (v2 : Int32) (v3 : Int32) (v4 : Int32) (v5 : Int32) {W14 : Int32 × xM → Prop} (hW14 : ∀ (v3 : Int32) (M : xM), W14 (v3, M) → ∀ (H : Heap) (locs : List Loc) (ls : Array Slot), xO κ s M H locs → lv_has ls 6 [(0, .ref (κ.1 + v0)), (1, .int v1), (2, .int v2), (3, .int v3)] → W p l e (xRm (dd + 1) 0 0) s m args below meth c H locs 0 0 (xQf below args s 0 0 κ (some (.int ro)) mo) (F0 m 14 ls [])) (M : xM) (x : (Int32 × xM) ⊕ (Int32 × xM)) (h : F_X12_canColour_25 rc v0 v1 v2 v3 v4 v5 M = some x) (hK : (xKl W14 (fun o => o = (ro, mo))) x) (H : Heap) (locs : List Loc) (ls : Array Slot) (O : xO κ s M H locs) (hl : lv_has ls 6 [(0, .ref (κ.1 + v0)), (1, .int v1), (2, .int v2), (3, .int v3), (4, .int v4), (5, .int v5)]) : W p l e (xRm (dd + 1) 0 0) s m args below meth c H locs 0 0 (xQf below args s 0 0 κ (some (.int ro)) mo) (F0 m 25 ls []) := by
  refine xit_K (Wh := fun x => ∀ (H : Heap) (locs : List Loc) (ls : Array Slot), xO κ s x.2.2 H locs → lv_has ls 6 [(0, .ref (κ.1 + v0)), (1, .int v1), (2, .int v2), (3, .int v3), (4, .int x.1), (5, .int x.2.1)] → W p l e (xRm (dd + 1) 0 0) s m args below meth c H locs 0 0 (xQf below args s 0 0 κ (some (.int ro)) mo) (F0 m 25 ls [])) (Kp := (xKl W14 (fun o => o = (ro, mo)))) ?_ xFU (v4, v5, M) x h hK H locs ls O hl
  intro y x h hK H locs ls O hl
  exact F_X12_canColour_25_bok hdd hrc0 X hr hlk v0 v1 v2 v3 y.1 y.2.1 hW14 (fun _ _ _ hw => hw) y.2.2 x h hK H locs ls O hl
set_option maxRecDepth 100000 in
set_option maxHeartbeats 4000000 in
theorem F_X12_canColour_102_ok {dd : Nat} (hdd : 5 ≤ dd) {rc : Nat → Int32 → Int32 → xM → Option (Int32 × xM)} (hrc0 : ∀ (κ : xQ) (a0 : Nat) (a1 : Int32) (a2 : Int32) (M : xM) (ro : Int32) (mo : xM), rc a0 a1 a2 M = some (ro, mo) → xC l yX12_canColour cX12_canColour 6 (some .boolean) dd 0 0 κ [.ref (κ.1 + a0), .int a1, .int a2] M (some (.int ro)) mo) (X : xX p s m args c cX12_canColour 6 RX12 κ) (hr : meth.sig.returnType = (some .boolean)) (hlk : meth.locks = false) {ro : Int32} {mo : xM} (M : xM) (x : Int32 × xM) (h : F_X12_canColour_102 rc M = some x) (hK : (fun o => o = (ro, mo)) x) (H : Heap) (locs : List Loc) (ls : Array Slot) (O : xO κ s M H locs) (hl : lv_has ls 6 []) : W p l e (xRm (dd + 1) 0 0) s m args below meth c H locs 0 0 (xQf below args s 0 0 κ (some (.int ro)) mo) (F0 m 102 ls []) := by
  unfold F_X12_canColour_102 at h
  have hx := X.1
  have hb := X.2.1
  refine lv_iconst (v := (0 : Int32)) hx hb dX12_canColour_102 (by decide) ?_
  obtain ⟨t4, ht4, h⟩ := Option.bind_eq_some_iff.mp h
  rw [← Option.some.inj h] at hK
  have hK : (t4, M) = (ro, mo) := hK
  obtain ⟨hK1, hK2⟩ := Prod.mk.inj hK
  rw [hK1] at ht4
  rw [hK2] at O
  exact xr_zret X hr hlk O ht4 dX12_canColour_103
set_option maxRecDepth 100000 in
set_option maxHeartbeats 4000000 in
theorem F_X12_canColour_14_bok {dd : Nat} (hdd : 5 ≤ dd) {rc : Nat → Int32 → Int32 → xM → Option (Int32 × xM)} (hrc0 : ∀ (κ : xQ) (a0 : Nat) (a1 : Int32) (a2 : Int32) (M : xM) (ro : Int32) (mo : xM), rc a0 a1 a2 M = some (ro, mo) → xC l yX12_canColour cX12_canColour 6 (some .boolean) dd 0 0 κ [.ref (κ.1 + a0), .int a1, .int a2] M (some (.int ro)) mo) (X : xX p s m args c cX12_canColour 6 RX12 κ) (hr : meth.sig.returnType = (some .boolean)) (hlk : meth.locks = false) {ro : Int32} {mo : xM} (v0 : Nat) (v1 : Int32) (v2 : Int32) (v3 : Int32) {W14 : Int32 × xM → Prop} (hW14 : ∀ (v3 : Int32) (M : xM), W14 (v3, M) → ∀ (H : Heap) (locs : List Loc) (ls : Array Slot), xO κ s M H locs → lv_has ls 6 [(0, .ref (κ.1 + v0)), (1, .int v1), (2, .int v2), (3, .int v3)] → W p l e (xRm (dd + 1) 0 0) s m args below meth c H locs 0 0 (xQf below args s 0 0 κ (some (.int ro)) mo) (F0 m 14 ls [])) (M : xM) (x : (Int32 × xM) ⊕ (Int32 × xM)) (h : F_X12_canColour_14b rc v0 v1 v2 (v3, M) = some x) (hK : (xKl W14 (fun o => o = (ro, mo))) x) (H : Heap) (locs : List Loc) (ls : Array Slot) (O : xO κ s M H locs) (hl : lv_has ls 6 [(0, .ref (κ.1 + v0)), (1, .int v1), (2, .int v2), (3, .int v3)]) : W p l e (xRm (dd + 1) 0 0) s m args below meth c H locs 0 0 (xQf below args s 0 0 κ (some (.int ro)) mo) (F0 m 14 ls []) := by
  unfold F_X12_canColour_14b at h
  dsimp only at h
  have hx := X.1
  have hb := X.2.1
  refine lv_iload_n hx hb dX12_canColour_14 rfl (lv_at hl 3 rfl) ?_
  refine lv_iload_n hx hb dX12_canColour_15 rfl (lv_at hl 2 rfl) ?_
  refine lv_icmp_ge (tgt := 102) hx hb dX12_canColour_16 (by decide) (fun hc16 => ?_) (fun hc16 => ?_)
  · rw [if_pos hc16] at h
    obtain ⟨_, hw0, ew0⟩ := Option.map_eq_some_iff.mp h
    rw [← ew0] at hK
    have h := hw0
    exact F_X12_canColour_102_ok hdd hrc0 X hr hlk  M _ h hK H locs ls O (lv_sub hl [] rfl)
  rw [if_neg hc16] at h
  refine lv_iconst (v := (1 : Int32)) hx hb dX12_canColour_19 (by decide) ?_
  refine lv_istore (lv' := [(4, .int (1 : Int32)), (0, .ref (κ.1 + v0)), (1, .int v1), (2, .int v2), (3, .int v3)]) hx hb dX12_canColour_20 hl (by decide) rfl (fun ls hl => ?_)
  refine lv_iconst (v := (0 : Int32)) hx hb dX12_canColour_22 (by decide) ?_
  refine lv_istore (lv' := [(5, .int (0 : Int32)), (4, .int (1 : Int32)), (0, .ref (κ.1 + v0)), (1, .int v1), (2, .int v2), (3, .int v3)]) hx hb dX12_canColour_23 hl (by decide) rfl (fun ls hl => ?_)
  exact F_X12_canColour_25_ok hdd hrc0 X hr hlk v0 v1 v2 v3 (1 : Int32) (0 : Int32) hW14 M _ h hK H locs ls O (lv_sub hl [2, 3, 4, 5, 1, 0] rfl)
set_option maxRecDepth 100000 in
set_option maxHeartbeats 4000000 in
theorem F_X12_canColour_14_ok {dd : Nat} (hdd : 5 ≤ dd) {rc : Nat → Int32 → Int32 → xM → Option (Int32 × xM)} (hrc0 : ∀ (κ : xQ) (a0 : Nat) (a1 : Int32) (a2 : Int32) (M : xM) (ro : Int32) (mo : xM), rc a0 a1 a2 M = some (ro, mo) → xC l yX12_canColour cX12_canColour 6 (some .boolean) dd 0 0 κ [.ref (κ.1 + a0), .int a1, .int a2] M (some (.int ro)) mo) (X : xX p s m args c cX12_canColour 6 RX12 κ) (hr : meth.sig.returnType = (some .boolean)) (hlk : meth.locks = false) {ro : Int32} {mo : xM} (v0 : Nat) (v1 : Int32) (v2 : Int32) (v3 : Int32) (M : xM) (x : Int32 × xM) (h : F_X12_canColour_14 rc v0 v1 v2 v3 M = some x) (hK : (fun o => o = (ro, mo)) x) (H : Heap) (locs : List Loc) (ls : Array Slot) (O : xO κ s M H locs) (hl : lv_has ls 6 [(0, .ref (κ.1 + v0)), (1, .int v1), (2, .int v2), (3, .int v3)]) : W p l e (xRm (dd + 1) 0 0) s m args below meth c H locs 0 0 (xQf below args s 0 0 κ (some (.int ro)) mo) (F0 m 14 ls []) := by
  refine xit_K (Wh := fun x => ∀ (H : Heap) (locs : List Loc) (ls : Array Slot), xO κ s x.2 H locs → lv_has ls 6 [(0, .ref (κ.1 + v0)), (1, .int v1), (2, .int v2), (3, .int x.1)] → W p l e (xRm (dd + 1) 0 0) s m args below meth c H locs 0 0 (xQf below args s 0 0 κ (some (.int ro)) mo) (F0 m 14 ls [])) (Kp := (fun o => o = (ro, mo))) ?_ xFU (v3, M) x h hK H locs ls O hl
  intro y x h hK H locs ls O hl
  exact F_X12_canColour_14_bok hdd hrc0 X hr hlk v0 v1 v2 y.1 (fun _ _ hw => hw) y.2 x h hK H locs ls O hl
set_option maxRecDepth 100000 in
set_option maxHeartbeats 4000000 in
theorem To_X12_canColour (l : Launch) {dd : Nat} (hdd : 5 ≤ dd) {rc : Nat → Int32 → Int32 → xM → Option (Int32 × xM)} (hrc0 : ∀ (κ : xQ) (a0 : Nat) (a1 : Int32) (a2 : Int32) (M : xM) (ro : Int32) (mo : xM), rc a0 a1 a2 M = some (ro, mo) → xC l yX12_canColour cX12_canColour 6 (some .boolean) dd 0 0 κ [.ref (κ.1 + a0), .int a1, .int a2] M (some (.int ro)) mo) (κ : xQ) (a0 : Nat) (a1 : Int32) (a2 : Int32) (M : xM) (ro : Int32) (mo : xM) (h : F_X12_canColour rc a0 a1 a2 M = some (ro, mo)) : xC l yX12_canColour cX12_canColour 6 (some .boolean) (dd + 1) 0 0 κ [.ref (κ.1 + a0), .int a1, .int a2] M (some (.int ro)) mo := by
  refine xC_of rfl (Nat.le_of_ble_eq_true rfl) fun p e s m args below meth c X hr hlk hnm H locs ls O hl => ?_
  have X : xX p s m args c cX12_canColour 6 RX12 κ := X
  have hl : lv_has ls 6 [(0, .ref (κ.1 + a0)), (1, .int a1), (2, .int a2)] := hl
  have hx := X.1
  have hb := X.2.1
  obtain ⟨x, hx0⟩ : ∃ x, (ro, mo) = x := ⟨_, rfl⟩
  rw [hx0] at h
  have hK : x = (ro, mo) := hx0.symm
  unfold F_X12_canColour at h
  refine lv_iload_n hx hb dX12_canColour_0 rfl (lv_at hl 1 rfl) ?_
  refine lv_aload_n hx hb dX12_canColour_1 rfl (lv_at hl 0 rfl) ?_
  obtain ⟨t1, ht1, h⟩ := Option.bind_eq_some_iff.mp h
  refine xr_getP X O ht1 fl_X12_13 dX12_canColour_2 ?_
  refine lv_iconst (v := (5 : Int32)) hx hb dX12_canColour_5 (by decide) ?_
  obtain ⟨t2, ht2, h⟩ := Option.bind_eq_some_iff.mp h
  refine xr_aldI X O ht2 dX12_canColour_6 ?_
  refine lv_icmp_ne (tgt := 12) hx hb dX12_canColour_7 (by decide) (fun hc7 => ?_) (fun hc7 => ?_)
  · rw [if_neg hc7] at h
    refine lv_iconst (v := (0 : Int32)) hx hb dX12_canColour_12 (by decide) ?_
    refine lv_istore_n (lv' := [(3, .int (0 : Int32)), (0, .ref (κ.1 + a0)), (1, .int a1), (2, .int a2)]) hx hb dX12_canColour_13 rfl hl (by decide) rfl (fun ls hl => ?_)
    exact F_X12_canColour_14_ok hdd hrc0 X hr hlk a0 a1 a2 (0 : Int32) M _ h hK H locs ls O (lv_sub hl [1, 2, 3, 0] rfl)
  rw [if_pos hc7] at h
  refine lv_iconst (v := (1 : Int32)) hx hb dX12_canColour_10 (by decide) ?_
  obtain ⟨t3, ht3, h⟩ := Option.bind_eq_some_iff.mp h
  rw [← Option.some.inj h] at hK
  have hK : (t3, M) = (ro, mo) := hK
  obtain ⟨hK1, hK2⟩ := Prod.mk.inj hK
  rw [hK1] at ht3
  rw [hK2] at O
  exact xr_zret X hr hlk O ht3 dX12_canColour_11
set_option maxRecDepth 100000 in
set_option maxHeartbeats 4000000 in
theorem K_X12_canColour (l : Launch) : ∀ n : Nat, (∀ (κ : xQ) (a0 : Nat) (a1 : Int32) (a2 : Int32) (M : xM) (ro : Int32) (mo : xM), R_X12_canColour n a0 a1 a2 M = some (ro, mo) → xC l yX12_canColour cX12_canColour 6 (some .boolean) (5 + n) 0 0 κ [.ref (κ.1 + a0), .int a1, .int a2] M (some (.int ro)) mo) := by
  intro n
  induction n with
  | zero => exact fun κ a0 a1 a2 M ro mo h => (by cases h)
  | succ n h0 => exact fun κ a0 a1 a2 M ro mo h => To_X12_canColour l (dd := 5 + n) (Nat.le_add_right _ _) h0 κ a0 a1 a2 M ro mo h
set_option maxRecDepth 100000 in
set_option maxHeartbeats 4000000 in
theorem Tx_X12_canColour (l : Launch) (κ : xQ) (a0 : Nat) (a1 : Int32) (a2 : Int32) (M : xM) (ro : Int32) (mo : xM) (h : Fx_X12_canColour a0 a1 a2 M = some (ro, mo)) : xC l yX12_canColour cX12_canColour 6 (some .boolean) 13 0 0 κ [.ref (κ.1 + a0), .int a1, .int a2] M (some (.int ro)) mo := (K_X12_canColour l 8) κ a0 a1 a2 M ro mo h
def F_X12_colours_50 (v0 : Nat) (v1 : Int32) (v2 : Int32) (M : xM) : Option (Int32 × xM) :=
if v1 = 0 then (
some (v2, M))
else (
(xgP M v0 12 29).bind fun t7 =>
(xaI M 20 t7 (v1 - (10 : Int32))).bind fun t8 =>
some (t8, M))
def F_X12_colours_35b (v0 : Nat) (v1 : Int32) : (Int32 × xM) → Option ((Int32 × xM) ⊕ (Int32 × xM)) := fun ⟨v2, M⟩ =>
(xck M v0 12).bind fun _ =>
(Fx_X12_canColour v0 (0 : Int32) v2 M).bind fun t6 =>
if t6.1 = 0 then (
some (.inl ((v2 + 1), t6.2)))
else (
(F_X12_colours_50 v0 v1 v2 t6.2).map Sum.inr)
def F_X12_colours_35 (v0 : Nat) (v1 : Int32) (v2 : Int32) (M : xM) : Option (Int32 × xM) := xit (F_X12_colours_35b v0 v1) xFU (v2, M)
def F_X12_colours_33 (v0 : Nat) (v1 : Int32) (M : xM) : Option (Int32 × xM) :=
F_X12_colours_35 v0 v1 (0 : Int32) M
def F_X12_colours (a0 : Nat) (a1 : Int32) (M : xM) : Option (Int32 × xM) :=
(xpI M a0 12 0 (0 : Int32)).bind fun t1 =>
if a1 = 0 then (
F_X12_colours_33 a0 a1 t1)
else (
(xgP t1 a0 12 1).bind fun t2 =>
(xaI t1 20 t2 (5 : Int32)).bind fun t3 =>
(F_X12_within a1.toInt64 (10 : Int64) ((9 : Int32) + t3).toInt64 t1).bind fun t4 =>
if t4.1 = 0 then (
some ((-2 : Int32), t4.2))
else (
F_X12_colours_33 a0 a1 t4.2))
set_option maxRecDepth 100000 in
set_option maxHeartbeats 4000000 in
theorem F_X12_colours_50_ok (X : xX p s m args c cX12_colours 3 RX12 κ) (hr : meth.sig.returnType = (some .int)) (hlk : meth.locks = false) {ro : Int32} {mo : xM} (v0 : Nat) (v1 : Int32) (v2 : Int32) (M : xM) (x : Int32 × xM) (h : F_X12_colours_50 v0 v1 v2 M = some x) (hK : (fun o => o = (ro, mo)) x) (H : Heap) (locs : List Loc) (ls : Array Slot) (O : xO κ s M H locs) (hl : lv_has ls 3 [(0, .ref (κ.1 + v0)), (1, .int v1), (2, .int v2)]) : W p l e (xRm 14 0 0) s m args below meth c H locs 0 0 (xQf below args s 0 0 κ (some (.int ro)) mo) (F0 m 50 ls []) := by
  unfold F_X12_colours_50 at h
  have hx := X.1
  have hb := X.2.1
  refine lv_iload_n hx hb dX12_colours_50 rfl (lv_at hl 1 rfl) ?_
  refine lv_if_ne (tgt := 58) hx hb dX12_colours_51 (by decide) (fun hc51 => ?_) (fun hc51 => ?_)
  · rw [if_neg hc51] at h
    refine lv_aload_n hx hb dX12_colours_58 rfl (lv_at hl 0 rfl) ?_
    obtain ⟨t7, ht7, h⟩ := Option.bind_eq_some_iff.mp h
    refine xr_getP X O ht7 fl_X12_57 dX12_colours_59 ?_
    refine lv_iload_n hx hb dX12_colours_62 rfl (lv_at hl 1 rfl) ?_
    refine lv_bipush (v := (10 : Int32)) hx hb dX12_colours_63 (by decide) ?_
    refine lv_isub hx hb dX12_colours_65 ?_
    obtain ⟨t8, ht8, h⟩ := Option.bind_eq_some_iff.mp h
    refine xr_aldI X O ht8 dX12_colours_66 ?_
    rw [← Option.some.inj h] at hK
    have hK : (t8, M) = (ro, mo) := hK
    obtain ⟨hK1, hK2⟩ := Prod.mk.inj hK
    rw [hK2] at O
    refine xr_top (w := .int ro) (by rw [hK1]) ?_
    exact xr_iret X hr hlk O dX12_colours_67
  rw [if_pos hc51] at h
  refine lv_iload_n hx hb dX12_colours_54 rfl (lv_at hl 2 rfl) ?_
  refine lv_goto (tgt := 67) hx hb dX12_colours_55 (by decide) ?_
  rw [← Option.some.inj h] at hK
  have hK : (v2, M) = (ro, mo) := hK
  obtain ⟨hK1, hK2⟩ := Prod.mk.inj hK
  rw [hK2] at O
  refine xr_top (w := .int ro) (by rw [hK1]) ?_
  exact xr_iret X hr hlk O dX12_colours_67
set_option maxRecDepth 100000 in
set_option maxHeartbeats 4000000 in
theorem F_X12_colours_35_bok (X : xX p s m args c cX12_colours 3 RX12 κ) (hr : meth.sig.returnType = (some .int)) (hlk : meth.locks = false) {ro : Int32} {mo : xM} (v0 : Nat) (v1 : Int32) (v2 : Int32) {W35 : Int32 × xM → Prop} (hW35 : ∀ (v2 : Int32) (M : xM), W35 (v2, M) → ∀ (H : Heap) (locs : List Loc) (ls : Array Slot), xO κ s M H locs → lv_has ls 3 [(0, .ref (κ.1 + v0)), (1, .int v1), (2, .int v2)] → W p l e (xRm 14 0 0) s m args below meth c H locs 0 0 (xQf below args s 0 0 κ (some (.int ro)) mo) (F0 m 35 ls [])) (M : xM) (x : (Int32 × xM) ⊕ (Int32 × xM)) (h : F_X12_colours_35b v0 v1 (v2, M) = some x) (hK : (xKl W35 (fun o => o = (ro, mo))) x) (H : Heap) (locs : List Loc) (ls : Array Slot) (O : xO κ s M H locs) (hl : lv_has ls 3 [(0, .ref (κ.1 + v0)), (1, .int v1), (2, .int v2)]) : W p l e (xRm 14 0 0) s m args below meth c H locs 0 0 (xQf below args s 0 0 κ (some (.int ro)) mo) (F0 m 35 ls []) := by
  unfold F_X12_colours_35b at h
  dsimp only at h
  have hx := X.1
  have hb := X.2.1
  refine lv_aload_n hx hb dX12_colours_35 rfl (lv_at hl 0 rfl) ?_
  refine lv_iconst (v := (0 : Int32)) hx hb dX12_colours_36 (by decide) ?_
  refine lv_iload_n hx hb dX12_colours_37 rfl (lv_at hl 2 rfl) ?_
  obtain ⟨_, hut5, h⟩ := Option.bind_eq_some_iff.mp h
  obtain ⟨t6, ht6, h⟩ := Option.bind_eq_some_iff.mp h
  refine xr_callV (rest := []) X O (Tx_X12_canColour l κ v0 (0 : Int32) v2 M _ _ ht6) lk_X12_418 hut5 (Nat.le_of_ble_eq_true rfl) rfl hl.1 rfl (Nat.le_of_ble_eq_true rfl) dX12_colours_38 ⟨Nat.le_of_ble_eq_true rfl, Nat.le_of_ble_eq_true rfl⟩ (fun H locs O => ?_)
  refine W.eq (g2 := F0 m 41 ls [.int t6.1]) rfl ?_
  refine lv_if_ne (tgt := 50) hx hb dX12_colours_41 (by decide) (fun hc41 => ?_) (fun hc41 => ?_)
  · rw [if_neg hc41] at h
    obtain ⟨_, hw0, ew0⟩ := Option.map_eq_some_iff.mp h
    rw [← ew0] at hK
    have h := hw0
    exact F_X12_colours_50_ok X hr hlk v0 v1 v2 t6.2 _ h hK H locs ls O (lv_sub hl [0, 1, 2] rfl)
  rw [if_pos hc41] at h
  refine lv_iinc (v := (v2 + 1)) (lv' := [(2, .int (v2 + 1)), (0, .ref (κ.1 + v0)), (1, .int v1)]) hx hb dX12_colours_44 hl (k := 2) rfl rfl (by decide) rfl (fun ls hl => ?_)
  refine lv_goto (tgt := 35) hx hb dX12_colours_47 (by decide) ?_
  rw [← Option.some.inj h] at hK
  exact hW35 (v2 + 1) t6.2 hK H locs ls O (lv_sub hl [1, 2, 0] rfl)
set_option maxRecDepth 100000 in
set_option maxHeartbeats 4000000 in
theorem F_X12_colours_35_ok (X : xX p s m args c cX12_colours 3 RX12 κ) (hr : meth.sig.returnType = (some .int)) (hlk : meth.locks = false) {ro : Int32} {mo : xM} (v0 : Nat) (v1 : Int32) (v2 : Int32) (M : xM) (x : Int32 × xM) (h : F_X12_colours_35 v0 v1 v2 M = some x) (hK : (fun o => o = (ro, mo)) x) (H : Heap) (locs : List Loc) (ls : Array Slot) (O : xO κ s M H locs) (hl : lv_has ls 3 [(0, .ref (κ.1 + v0)), (1, .int v1), (2, .int v2)]) : W p l e (xRm 14 0 0) s m args below meth c H locs 0 0 (xQf below args s 0 0 κ (some (.int ro)) mo) (F0 m 35 ls []) := by
  refine xit_K (Wh := fun x => ∀ (H : Heap) (locs : List Loc) (ls : Array Slot), xO κ s x.2 H locs → lv_has ls 3 [(0, .ref (κ.1 + v0)), (1, .int v1), (2, .int x.1)] → W p l e (xRm 14 0 0) s m args below meth c H locs 0 0 (xQf below args s 0 0 κ (some (.int ro)) mo) (F0 m 35 ls [])) (Kp := (fun o => o = (ro, mo))) ?_ xFU (v2, M) x h hK H locs ls O hl
  intro y x h hK H locs ls O hl
  exact F_X12_colours_35_bok X hr hlk v0 v1 y.1 (fun _ _ hw => hw) y.2 x h hK H locs ls O hl
set_option maxRecDepth 100000 in
set_option maxHeartbeats 4000000 in
theorem F_X12_colours_33_ok (X : xX p s m args c cX12_colours 3 RX12 κ) (hr : meth.sig.returnType = (some .int)) (hlk : meth.locks = false) {ro : Int32} {mo : xM} (v0 : Nat) (v1 : Int32) (M : xM) (x : Int32 × xM) (h : F_X12_colours_33 v0 v1 M = some x) (hK : (fun o => o = (ro, mo)) x) (H : Heap) (locs : List Loc) (ls : Array Slot) (O : xO κ s M H locs) (hl : lv_has ls 3 [(0, .ref (κ.1 + v0)), (1, .int v1)]) : W p l e (xRm 14 0 0) s m args below meth c H locs 0 0 (xQf below args s 0 0 κ (some (.int ro)) mo) (F0 m 33 ls []) := by
  unfold F_X12_colours_33 at h
  have hx := X.1
  have hb := X.2.1
  refine lv_iconst (v := (0 : Int32)) hx hb dX12_colours_33 (by decide) ?_
  refine lv_istore_n (lv' := [(2, .int (0 : Int32)), (0, .ref (κ.1 + v0)), (1, .int v1)]) hx hb dX12_colours_34 rfl hl (by decide) rfl (fun ls hl => ?_)
  exact F_X12_colours_35_ok X hr hlk v0 v1 (0 : Int32) M _ h hK H locs ls O (lv_sub hl [1, 2, 0] rfl)
set_option maxRecDepth 100000 in
set_option maxHeartbeats 4000000 in
theorem T_X12_colours (l : Launch) (κ : xQ) (a0 : Nat) (a1 : Int32) (M : xM) (ro : Int32) (mo : xM) (h : F_X12_colours a0 a1 M = some (ro, mo)) : xC l yX12_colours cX12_colours 3 (some .int) 14 0 0 κ [.ref (κ.1 + a0), .int a1] M (some (.int ro)) mo := by
  refine xC_of rfl (Nat.le_of_ble_eq_true rfl) fun p e s m args below meth c X hr hlk hnm H locs ls O hl => ?_
  have X : xX p s m args c cX12_colours 3 RX12 κ := X
  have hl : lv_has ls 3 [(0, .ref (κ.1 + a0)), (1, .int a1)] := hl
  have hx := X.1
  have hb := X.2.1
  obtain ⟨x, hx0⟩ : ∃ x, (ro, mo) = x := ⟨_, rfl⟩
  rw [hx0] at h
  have hK : x = (ro, mo) := hx0.symm
  unfold F_X12_colours at h
  refine lv_aload_n hx hb dX12_colours_0 rfl (lv_at hl 0 rfl) ?_
  refine lv_iconst (v := (0 : Int32)) hx hb dX12_colours_1 (by decide) ?_
  obtain ⟨t1, ht1, h⟩ := Option.bind_eq_some_iff.mp h
  refine xr_putI X O ht1 fl_X12_1 dX12_colours_2 (fun H locs O => ?_)
  refine lv_iload_n hx hb dX12_colours_5 rfl (lv_at hl 1 rfl) ?_
  refine lv_if_eq (tgt := 33) hx hb dX12_colours_6 (by decide) (fun hc6 => ?_) (fun hc6 => ?_)
  · rw [if_pos hc6] at h
    exact F_X12_colours_33_ok X hr hlk a0 a1 t1 _ h hK H locs ls O (lv_sub hl [0, 1] rfl)
  rw [if_neg hc6] at h
  refine lv_iload_n hx hb dX12_colours_9 rfl (lv_at hl 1 rfl) ?_
  refine lv_i2l (v := a1.toInt64) hx hb dX12_colours_10 rfl ?_
  refine lv_ldc2 (v := (10 : Int64)) hx hb X.2.2.2.1 (X.2.2.2.2.1 _ ct_X12_285) dX12_colours_11 ?_
  refine lv_bipush (v := (9 : Int32)) hx hb dX12_colours_14 (by decide) ?_
  refine lv_aload_n hx hb dX12_colours_16 rfl (lv_at hl 0 rfl) ?_
  obtain ⟨t2, ht2, h⟩ := Option.bind_eq_some_iff.mp h
  refine xr_getP X O ht2 fl_X12_13 dX12_colours_17 ?_
  refine lv_iconst (v := (5 : Int32)) hx hb dX12_colours_20 (by decide) ?_
  obtain ⟨t3, ht3, h⟩ := Option.bind_eq_some_iff.mp h
  refine xr_aldI X O ht3 dX12_colours_21 ?_
  refine lv_iadd hx hb dX12_colours_22 ?_
  refine lv_i2l (v := ((9 : Int32) + t3).toInt64) hx hb dX12_colours_23 rfl ?_
  obtain ⟨t4, ht4, h⟩ := Option.bind_eq_some_iff.mp h
  refine xr_callS (rest := []) X O (T_X12_within l κ a1.toInt64 (10 : Int64) ((9 : Int32) + t3).toInt64 t1 _ _ ht4) lk_X12_145 (Nat.le_of_ble_eq_true rfl) rfl hl.1 rfl (Nat.le_of_ble_eq_true rfl) dX12_colours_24 ⟨Nat.le_of_ble_eq_true rfl, Nat.le_of_ble_eq_true rfl⟩ (fun H locs O => ?_)
  refine W.eq (g2 := F0 m 27 ls [.int t4.1]) rfl ?_
  refine lv_if_ne (tgt := 33) hx hb dX12_colours_27 (by decide) (fun hc27 => ?_) (fun hc27 => ?_)
  · rw [if_neg hc27] at h
    exact F_X12_colours_33_ok X hr hlk a0 a1 t4.2 _ h hK H locs ls O (lv_sub hl [0, 1] rfl)
  rw [if_pos hc27] at h
  refine lv_bipush (v := (-2 : Int32)) hx hb dX12_colours_30 (by decide) ?_
  rw [← Option.some.inj h] at hK
  have hK : ((-2 : Int32), t4.2) = (ro, mo) := hK
  obtain ⟨hK1, hK2⟩ := Prod.mk.inj hK
  rw [hK2] at O
  refine xr_top (w := .int ro) (by rw [hK1]) ?_
  exact xr_iret X hr hlk O dX12_colours_32
def F_X12_isClique_46 (M : xM) : Option (Int32 × xM) :=
(xz (0 : Int32)).bind fun t7 =>
some (t7, M)
def F_X12_isClique_48 (v0 : Nat) (v1 : Int32) (v2 : Int32) (v3 : Int32) (M : xM) : Option ((Int32 × xM) ⊕ ((Int32 × xM) ⊕ (Int32 × xM))) :=
some (.inl ((v3 + 1), M))
def F_X12_isClique_54 (v0 : Nat) (v1 : Int32) (v2 : Int32) (M : xM) : Option ((Int32 × xM) ⊕ (Int32 × xM)) :=
some (.inl ((v2 + 1), M))
def F_X12_isClique_14b (v0 : Nat) (v1 : Int32) (v2 : Int32) : (Int32 × xM) → Option ((Int32 × xM) ⊕ ((Int32 × xM) ⊕ (Int32 × xM))) := fun ⟨v3, M⟩ =>
if v2 ≤ v3 then (
(F_X12_isClique_54 v0 v1 v2 M).map Sum.inr)
else (
(F_X12_isIn v1.toInt64 v2 M).bind fun t3 =>
if t3.1 = 0 then (
F_X12_isClique_48 v0 v1 v2 v3 t3.2)
else (
(F_X12_isIn v1.toInt64 v3 t3.2).bind fun t4 =>
if t4.1 = 0 then (
F_X12_isClique_48 v0 v1 v2 v3 t4.2)
else (
(xck t4.2 v0 12).bind fun _ =>
(F_X12_overlap v0 v2 v3 t4.2).bind fun t6 =>
if t6.1 = 0 then (
((F_X12_isClique_46 t6.2).map Sum.inr).map Sum.inr)
else (
F_X12_isClique_48 v0 v1 v2 v3 t6.2))))
def F_X12_isClique_14 (v0 : Nat) (v1 : Int32) (v2 : Int32) (v3 : Int32) (M : xM) : Option ((Int32 × xM) ⊕ (Int32 × xM)) := xit (F_X12_isClique_14b v0 v1 v2) xFU (v3, M)
def F_X12_isClique_60 (M : xM) : Option (Int32 × xM) :=
(xz (1 : Int32)).bind fun t8 =>
some (t8, M)
def F_X12_isClique_2b (v0 : Nat) (v1 : Int32) : (Int32 × xM) → Option ((Int32 × xM) ⊕ (Int32 × xM)) := fun ⟨v2, M⟩ =>
(xgP M v0 12 1).bind fun t1 =>
(xaI M 20 t1 (5 : Int32)).bind fun t2 =>
if t2 ≤ v2 then (
(F_X12_isClique_60 M).map Sum.inr)
else (
F_X12_isClique_14 v0 v1 v2 (0 : Int32) M)
def F_X12_isClique_2 (v0 : Nat) (v1 : Int32) (v2 : Int32) (M : xM) : Option (Int32 × xM) := xit (F_X12_isClique_2b v0 v1) xFU (v2, M)
def F_X12_isClique (a0 : Nat) (a1 : Int32) (M : xM) : Option (Int32 × xM) :=
F_X12_isClique_2 a0 a1 (0 : Int32) M
set_option maxRecDepth 100000 in
set_option maxHeartbeats 4000000 in
theorem F_X12_isClique_46_ok (X : xX p s m args c cX12_isClique 4 RX12 κ) (hr : meth.sig.returnType = (some .boolean)) (hlk : meth.locks = false) {ro : Int32} {mo : xM} (M : xM) (x : Int32 × xM) (h : F_X12_isClique_46 M = some x) (hK : (fun o => o = (ro, mo)) x) (H : Heap) (locs : List Loc) (ls : Array Slot) (O : xO κ s M H locs) (hl : lv_has ls 4 []) : W p l e (xRm 6 0 0) s m args below meth c H locs 0 0 (xQf below args s 0 0 κ (some (.int ro)) mo) (F0 m 46 ls []) := by
  unfold F_X12_isClique_46 at h
  have hx := X.1
  have hb := X.2.1
  refine lv_iconst (v := (0 : Int32)) hx hb dX12_isClique_46 (by decide) ?_
  obtain ⟨t7, ht7, h⟩ := Option.bind_eq_some_iff.mp h
  rw [← Option.some.inj h] at hK
  have hK : (t7, M) = (ro, mo) := hK
  obtain ⟨hK1, hK2⟩ := Prod.mk.inj hK
  rw [hK1] at ht7
  rw [hK2] at O
  exact xr_zret X hr hlk O ht7 dX12_isClique_47
set_option maxRecDepth 100000 in
set_option maxHeartbeats 4000000 in
theorem F_X12_isClique_48_ok (X : xX p s m args c cX12_isClique 4 RX12 κ) (hr : meth.sig.returnType = (some .boolean)) (hlk : meth.locks = false) {ro : Int32} {mo : xM} (v0 : Nat) (v1 : Int32) (v2 : Int32) (v3 : Int32) {W2 : Int32 × xM → Prop} (hW2 : ∀ (v2 : Int32) (M : xM), W2 (v2, M) → ∀ (H : Heap) (locs : List Loc) (ls : Array Slot), xO κ s M H locs → lv_has ls 4 [(0, .ref (κ.1 + v0)), (1, .int v1), (2, .int v2)] → W p l e (xRm 6 0 0) s m args below meth c H locs 0 0 (xQf below args s 0 0 κ (some (.int ro)) mo) (F0 m 2 ls [])) {W14 : Int32 × xM → Prop} (hW14 : ∀ (v3 : Int32) (M : xM), W14 (v3, M) → ∀ (H : Heap) (locs : List Loc) (ls : Array Slot), xO κ s M H locs → lv_has ls 4 [(0, .ref (κ.1 + v0)), (1, .int v1), (2, .int v2), (3, .int v3)] → W p l e (xRm 6 0 0) s m args below meth c H locs 0 0 (xQf below args s 0 0 κ (some (.int ro)) mo) (F0 m 14 ls [])) (M : xM) (x : (Int32 × xM) ⊕ ((Int32 × xM) ⊕ (Int32 × xM))) (h : F_X12_isClique_48 v0 v1 v2 v3 M = some x) (hK : (xKl W14 (xKl W2 (fun o => o = (ro, mo)))) x) (H : Heap) (locs : List Loc) (ls : Array Slot) (O : xO κ s M H locs) (hl : lv_has ls 4 [(0, .ref (κ.1 + v0)), (1, .int v1), (2, .int v2), (3, .int v3)]) : W p l e (xRm 6 0 0) s m args below meth c H locs 0 0 (xQf below args s 0 0 κ (some (.int ro)) mo) (F0 m 48 ls []) := by
  unfold F_X12_isClique_48 at h
  have hx := X.1
  have hb := X.2.1
  refine lv_iinc (v := (v3 + 1)) (lv' := [(3, .int (v3 + 1)), (0, .ref (κ.1 + v0)), (1, .int v1), (2, .int v2)]) hx hb dX12_isClique_48 hl (k := 3) rfl rfl (by decide) rfl (fun ls hl => ?_)
  refine lv_goto (tgt := 14) hx hb dX12_isClique_51 (by decide) ?_
  rw [← Option.some.inj h] at hK
  exact hW14 (v3 + 1) M hK H locs ls O (lv_sub hl [1, 2, 3, 0] rfl)
set_option maxRecDepth 100000 in
set_option maxHeartbeats 4000000 in
theorem F_X12_isClique_54_ok (X : xX p s m args c cX12_isClique 4 RX12 κ) (hr : meth.sig.returnType = (some .boolean)) (hlk : meth.locks = false) {ro : Int32} {mo : xM} (v0 : Nat) (v1 : Int32) (v2 : Int32) {W2 : Int32 × xM → Prop} (hW2 : ∀ (v2 : Int32) (M : xM), W2 (v2, M) → ∀ (H : Heap) (locs : List Loc) (ls : Array Slot), xO κ s M H locs → lv_has ls 4 [(0, .ref (κ.1 + v0)), (1, .int v1), (2, .int v2)] → W p l e (xRm 6 0 0) s m args below meth c H locs 0 0 (xQf below args s 0 0 κ (some (.int ro)) mo) (F0 m 2 ls [])) (M : xM) (x : (Int32 × xM) ⊕ (Int32 × xM)) (h : F_X12_isClique_54 v0 v1 v2 M = some x) (hK : (xKl W2 (fun o => o = (ro, mo))) x) (H : Heap) (locs : List Loc) (ls : Array Slot) (O : xO κ s M H locs) (hl : lv_has ls 4 [(0, .ref (κ.1 + v0)), (1, .int v1), (2, .int v2)]) : W p l e (xRm 6 0 0) s m args below meth c H locs 0 0 (xQf below args s 0 0 κ (some (.int ro)) mo) (F0 m 54 ls []) := by
  unfold F_X12_isClique_54 at h
  have hx := X.1
  have hb := X.2.1
  refine lv_iinc (v := (v2 + 1)) (lv' := [(2, .int (v2 + 1)), (0, .ref (κ.1 + v0)), (1, .int v1)]) hx hb dX12_isClique_54 hl (k := 2) rfl rfl (by decide) rfl (fun ls hl => ?_)
  refine lv_goto (tgt := 2) hx hb dX12_isClique_57 (by decide) ?_
  rw [← Option.some.inj h] at hK
  exact hW2 (v2 + 1) M hK H locs ls O (lv_sub hl [1, 2, 0] rfl)
set_option maxRecDepth 100000 in
set_option maxHeartbeats 4000000 in
theorem F_X12_isClique_14_bok (X : xX p s m args c cX12_isClique 4 RX12 κ) (hr : meth.sig.returnType = (some .boolean)) (hlk : meth.locks = false) {ro : Int32} {mo : xM} (v0 : Nat) (v1 : Int32) (v2 : Int32) (v3 : Int32) {W2 : Int32 × xM → Prop} (hW2 : ∀ (v2 : Int32) (M : xM), W2 (v2, M) → ∀ (H : Heap) (locs : List Loc) (ls : Array Slot), xO κ s M H locs → lv_has ls 4 [(0, .ref (κ.1 + v0)), (1, .int v1), (2, .int v2)] → W p l e (xRm 6 0 0) s m args below meth c H locs 0 0 (xQf below args s 0 0 κ (some (.int ro)) mo) (F0 m 2 ls [])) {W14 : Int32 × xM → Prop} (hW14 : ∀ (v3 : Int32) (M : xM), W14 (v3, M) → ∀ (H : Heap) (locs : List Loc) (ls : Array Slot), xO κ s M H locs → lv_has ls 4 [(0, .ref (κ.1 + v0)), (1, .int v1), (2, .int v2), (3, .int v3)] → W p l e (xRm 6 0 0) s m args below meth c H locs 0 0 (xQf below args s 0 0 κ (some (.int ro)) mo) (F0 m 14 ls [])) (M : xM) (x : (Int32 × xM) ⊕ ((Int32 × xM) ⊕ (Int32 × xM))) (h : F_X12_isClique_14b v0 v1 v2 (v3, M) = some x) (hK : (xKl W14 (xKl W2 (fun o => o = (ro, mo)))) x) (H : Heap) (locs : List Loc) (ls : Array Slot) (O : xO κ s M H locs) (hl : lv_has ls 4 [(0, .ref (κ.1 + v0)), (1, .int v1), (2, .int v2), (3, .int v3)]) : W p l e (xRm 6 0 0) s m args below meth c H locs 0 0 (xQf below args s 0 0 κ (some (.int ro)) mo) (F0 m 14 ls []) := by
  unfold F_X12_isClique_14b at h
  dsimp only at h
  have hx := X.1
  have hb := X.2.1
  refine lv_iload_n hx hb dX12_isClique_14 rfl (lv_at hl 3 rfl) ?_
  refine lv_iload_n hx hb dX12_isClique_15 rfl (lv_at hl 2 rfl) ?_
  refine lv_icmp_ge (tgt := 54) hx hb dX12_isClique_16 (by decide) (fun hc16 => ?_) (fun hc16 => ?_)
  · rw [if_pos hc16] at h
    obtain ⟨_, hw0, ew0⟩ := Option.map_eq_some_iff.mp h
    rw [← ew0] at hK
    have h := hw0
    exact F_X12_isClique_54_ok X hr hlk v0 v1 v2 hW2 M _ h hK H locs ls O (lv_sub hl [0, 1, 2] rfl)
  rw [if_neg hc16] at h
  refine lv_iload_n hx hb dX12_isClique_19 rfl (lv_at hl 1 rfl) ?_
  refine lv_i2l (v := v1.toInt64) hx hb dX12_isClique_20 rfl ?_
  refine lv_iload_n hx hb dX12_isClique_21 rfl (lv_at hl 2 rfl) ?_
  obtain ⟨t3, ht3, h⟩ := Option.bind_eq_some_iff.mp h
  refine xr_callS (rest := []) X O (T_X12_isIn l κ v1.toInt64 v2 M _ _ ht3) lk_X12_253 (Nat.le_of_ble_eq_true rfl) rfl hl.1 rfl (Nat.le_of_ble_eq_true rfl) dX12_isClique_22 ⟨Nat.le_of_ble_eq_true rfl, Nat.le_of_ble_eq_true rfl⟩ (fun H locs O => ?_)
  refine W.eq (g2 := F0 m 25 ls [.int t3.1]) rfl ?_
  refine lv_if_eq (tgt := 48) hx hb dX12_isClique_25 (by decide) (fun hc25 => ?_) (fun hc25 => ?_)
  · rw [if_pos hc25] at h
    exact F_X12_isClique_48_ok X hr hlk v0 v1 v2 v3 hW2 hW14 t3.2 _ h hK H locs ls O (lv_sub hl [0, 1, 2, 3] rfl)
  rw [if_neg hc25] at h
  refine lv_iload_n hx hb dX12_isClique_28 rfl (lv_at hl 1 rfl) ?_
  refine lv_i2l (v := v1.toInt64) hx hb dX12_isClique_29 rfl ?_
  refine lv_iload_n hx hb dX12_isClique_30 rfl (lv_at hl 3 rfl) ?_
  obtain ⟨t4, ht4, h⟩ := Option.bind_eq_some_iff.mp h
  refine xr_callS (rest := []) X O (T_X12_isIn l κ v1.toInt64 v3 t3.2 _ _ ht4) lk_X12_253 (Nat.le_of_ble_eq_true rfl) rfl hl.1 rfl (Nat.le_of_ble_eq_true rfl) dX12_isClique_31 ⟨Nat.le_of_ble_eq_true rfl, Nat.le_of_ble_eq_true rfl⟩ (fun H locs O => ?_)
  refine W.eq (g2 := F0 m 34 ls [.int t4.1]) rfl ?_
  refine lv_if_eq (tgt := 48) hx hb dX12_isClique_34 (by decide) (fun hc34 => ?_) (fun hc34 => ?_)
  · rw [if_pos hc34] at h
    exact F_X12_isClique_48_ok X hr hlk v0 v1 v2 v3 hW2 hW14 t4.2 _ h hK H locs ls O (lv_sub hl [0, 1, 2, 3] rfl)
  rw [if_neg hc34] at h
  refine lv_aload_n hx hb dX12_isClique_37 rfl (lv_at hl 0 rfl) ?_
  refine lv_iload_n hx hb dX12_isClique_38 rfl (lv_at hl 2 rfl) ?_
  refine lv_iload_n hx hb dX12_isClique_39 rfl (lv_at hl 3 rfl) ?_
  obtain ⟨_, hut5, h⟩ := Option.bind_eq_some_iff.mp h
  obtain ⟨t6, ht6, h⟩ := Option.bind_eq_some_iff.mp h
  refine xr_callV (rest := []) X O (T_X12_overlap l κ v0 v2 v3 t4.2 _ _ ht6) lk_X12_415 hut5 (Nat.le_of_ble_eq_true rfl) rfl hl.1 rfl (Nat.le_of_ble_eq_true rfl) dX12_isClique_40 ⟨Nat.le_of_ble_eq_true rfl, Nat.le_of_ble_eq_true rfl⟩ (fun H locs O => ?_)
  refine W.eq (g2 := F0 m 43 ls [.int t6.1]) rfl ?_
  refine lv_if_ne (tgt := 48) hx hb dX12_isClique_43 (by decide) (fun hc43 => ?_) (fun hc43 => ?_)
  · rw [if_neg hc43] at h
    exact F_X12_isClique_48_ok X hr hlk v0 v1 v2 v3 hW2 hW14 t6.2 _ h hK H locs ls O (lv_sub hl [0, 1, 2, 3] rfl)
  rw [if_pos hc43] at h
  obtain ⟨_, hw0, ew0⟩ := Option.map_eq_some_iff.mp h
  rw [← ew0] at hK
  have h := hw0
  obtain ⟨_, hw1, ew1⟩ := Option.map_eq_some_iff.mp h
  rw [← ew1] at hK
  have h := hw1
  exact F_X12_isClique_46_ok X hr hlk  t6.2 _ h hK H locs ls O (lv_sub hl [] rfl)
set_option maxRecDepth 100000 in
set_option maxHeartbeats 4000000 in
theorem F_X12_isClique_14_ok (X : xX p s m args c cX12_isClique 4 RX12 κ) (hr : meth.sig.returnType = (some .boolean)) (hlk : meth.locks = false) {ro : Int32} {mo : xM} (v0 : Nat) (v1 : Int32) (v2 : Int32) (v3 : Int32) {W2 : Int32 × xM → Prop} (hW2 : ∀ (v2 : Int32) (M : xM), W2 (v2, M) → ∀ (H : Heap) (locs : List Loc) (ls : Array Slot), xO κ s M H locs → lv_has ls 4 [(0, .ref (κ.1 + v0)), (1, .int v1), (2, .int v2)] → W p l e (xRm 6 0 0) s m args below meth c H locs 0 0 (xQf below args s 0 0 κ (some (.int ro)) mo) (F0 m 2 ls [])) (M : xM) (x : (Int32 × xM) ⊕ (Int32 × xM)) (h : F_X12_isClique_14 v0 v1 v2 v3 M = some x) (hK : (xKl W2 (fun o => o = (ro, mo))) x) (H : Heap) (locs : List Loc) (ls : Array Slot) (O : xO κ s M H locs) (hl : lv_has ls 4 [(0, .ref (κ.1 + v0)), (1, .int v1), (2, .int v2), (3, .int v3)]) : W p l e (xRm 6 0 0) s m args below meth c H locs 0 0 (xQf below args s 0 0 κ (some (.int ro)) mo) (F0 m 14 ls []) := by
  refine xit_K (Wh := fun x => ∀ (H : Heap) (locs : List Loc) (ls : Array Slot), xO κ s x.2 H locs → lv_has ls 4 [(0, .ref (κ.1 + v0)), (1, .int v1), (2, .int v2), (3, .int x.1)] → W p l e (xRm 6 0 0) s m args below meth c H locs 0 0 (xQf below args s 0 0 κ (some (.int ro)) mo) (F0 m 14 ls [])) (Kp := (xKl W2 (fun o => o = (ro, mo)))) ?_ xFU (v3, M) x h hK H locs ls O hl
  intro y x h hK H locs ls O hl
  exact F_X12_isClique_14_bok X hr hlk v0 v1 v2 y.1 hW2 (fun _ _ hw => hw) y.2 x h hK H locs ls O hl
set_option maxRecDepth 100000 in
set_option maxHeartbeats 4000000 in
theorem F_X12_isClique_60_ok (X : xX p s m args c cX12_isClique 4 RX12 κ) (hr : meth.sig.returnType = (some .boolean)) (hlk : meth.locks = false) {ro : Int32} {mo : xM} (M : xM) (x : Int32 × xM) (h : F_X12_isClique_60 M = some x) (hK : (fun o => o = (ro, mo)) x) (H : Heap) (locs : List Loc) (ls : Array Slot) (O : xO κ s M H locs) (hl : lv_has ls 4 []) : W p l e (xRm 6 0 0) s m args below meth c H locs 0 0 (xQf below args s 0 0 κ (some (.int ro)) mo) (F0 m 60 ls []) := by
  unfold F_X12_isClique_60 at h
  have hx := X.1
  have hb := X.2.1
  refine lv_iconst (v := (1 : Int32)) hx hb dX12_isClique_60 (by decide) ?_
  obtain ⟨t8, ht8, h⟩ := Option.bind_eq_some_iff.mp h
  rw [← Option.some.inj h] at hK
  have hK : (t8, M) = (ro, mo) := hK
  obtain ⟨hK1, hK2⟩ := Prod.mk.inj hK
  rw [hK1] at ht8
  rw [hK2] at O
  exact xr_zret X hr hlk O ht8 dX12_isClique_61
set_option maxRecDepth 100000 in
set_option maxHeartbeats 4000000 in
theorem F_X12_isClique_2_bok (X : xX p s m args c cX12_isClique 4 RX12 κ) (hr : meth.sig.returnType = (some .boolean)) (hlk : meth.locks = false) {ro : Int32} {mo : xM} (v0 : Nat) (v1 : Int32) (v2 : Int32) {W2 : Int32 × xM → Prop} (hW2 : ∀ (v2 : Int32) (M : xM), W2 (v2, M) → ∀ (H : Heap) (locs : List Loc) (ls : Array Slot), xO κ s M H locs → lv_has ls 4 [(0, .ref (κ.1 + v0)), (1, .int v1), (2, .int v2)] → W p l e (xRm 6 0 0) s m args below meth c H locs 0 0 (xQf below args s 0 0 κ (some (.int ro)) mo) (F0 m 2 ls [])) (M : xM) (x : (Int32 × xM) ⊕ (Int32 × xM)) (h : F_X12_isClique_2b v0 v1 (v2, M) = some x) (hK : (xKl W2 (fun o => o = (ro, mo))) x) (H : Heap) (locs : List Loc) (ls : Array Slot) (O : xO κ s M H locs) (hl : lv_has ls 4 [(0, .ref (κ.1 + v0)), (1, .int v1), (2, .int v2)]) : W p l e (xRm 6 0 0) s m args below meth c H locs 0 0 (xQf below args s 0 0 κ (some (.int ro)) mo) (F0 m 2 ls []) := by
  unfold F_X12_isClique_2b at h
  dsimp only at h
  have hx := X.1
  have hb := X.2.1
  refine lv_iload_n hx hb dX12_isClique_2 rfl (lv_at hl 2 rfl) ?_
  refine lv_aload_n hx hb dX12_isClique_3 rfl (lv_at hl 0 rfl) ?_
  obtain ⟨t1, ht1, h⟩ := Option.bind_eq_some_iff.mp h
  refine xr_getP X O ht1 fl_X12_13 dX12_isClique_4 ?_
  refine lv_iconst (v := (5 : Int32)) hx hb dX12_isClique_7 (by decide) ?_
  obtain ⟨t2, ht2, h⟩ := Option.bind_eq_some_iff.mp h
  refine xr_aldI X O ht2 dX12_isClique_8 ?_
  refine lv_icmp_ge (tgt := 60) hx hb dX12_isClique_9 (by decide) (fun hc9 => ?_) (fun hc9 => ?_)
  · rw [if_pos hc9] at h
    obtain ⟨_, hw0, ew0⟩ := Option.map_eq_some_iff.mp h
    rw [← ew0] at hK
    have h := hw0
    exact F_X12_isClique_60_ok X hr hlk  M _ h hK H locs ls O (lv_sub hl [] rfl)
  rw [if_neg hc9] at h
  refine lv_iconst (v := (0 : Int32)) hx hb dX12_isClique_12 (by decide) ?_
  refine lv_istore_n (lv' := [(3, .int (0 : Int32)), (0, .ref (κ.1 + v0)), (1, .int v1), (2, .int v2)]) hx hb dX12_isClique_13 rfl hl (by decide) rfl (fun ls hl => ?_)
  exact F_X12_isClique_14_ok X hr hlk v0 v1 v2 (0 : Int32) hW2 M _ h hK H locs ls O (lv_sub hl [1, 2, 3, 0] rfl)
set_option maxRecDepth 100000 in
set_option maxHeartbeats 4000000 in
theorem F_X12_isClique_2_ok (X : xX p s m args c cX12_isClique 4 RX12 κ) (hr : meth.sig.returnType = (some .boolean)) (hlk : meth.locks = false) {ro : Int32} {mo : xM} (v0 : Nat) (v1 : Int32) (v2 : Int32) (M : xM) (x : Int32 × xM) (h : F_X12_isClique_2 v0 v1 v2 M = some x) (hK : (fun o => o = (ro, mo)) x) (H : Heap) (locs : List Loc) (ls : Array Slot) (O : xO κ s M H locs) (hl : lv_has ls 4 [(0, .ref (κ.1 + v0)), (1, .int v1), (2, .int v2)]) : W p l e (xRm 6 0 0) s m args below meth c H locs 0 0 (xQf below args s 0 0 κ (some (.int ro)) mo) (F0 m 2 ls []) := by
  refine xit_K (Wh := fun x => ∀ (H : Heap) (locs : List Loc) (ls : Array Slot), xO κ s x.2 H locs → lv_has ls 4 [(0, .ref (κ.1 + v0)), (1, .int v1), (2, .int x.1)] → W p l e (xRm 6 0 0) s m args below meth c H locs 0 0 (xQf below args s 0 0 κ (some (.int ro)) mo) (F0 m 2 ls [])) (Kp := (fun o => o = (ro, mo))) ?_ xFU (v2, M) x h hK H locs ls O hl
  intro y x h hK H locs ls O hl
  exact F_X12_isClique_2_bok X hr hlk v0 v1 y.1 (fun _ _ hw => hw) y.2 x h hK H locs ls O hl
set_option maxRecDepth 100000 in
set_option maxHeartbeats 4000000 in
theorem T_X12_isClique (l : Launch) (κ : xQ) (a0 : Nat) (a1 : Int32) (M : xM) (ro : Int32) (mo : xM) (h : F_X12_isClique a0 a1 M = some (ro, mo)) : xC l yX12_isClique cX12_isClique 4 (some .boolean) 6 0 0 κ [.ref (κ.1 + a0), .int a1] M (some (.int ro)) mo := by
  refine xC_of rfl (Nat.le_of_ble_eq_true rfl) fun p e s m args below meth c X hr hlk hnm H locs ls O hl => ?_
  have X : xX p s m args c cX12_isClique 4 RX12 κ := X
  have hl : lv_has ls 4 [(0, .ref (κ.1 + a0)), (1, .int a1)] := hl
  have hx := X.1
  have hb := X.2.1
  obtain ⟨x, hx0⟩ : ∃ x, (ro, mo) = x := ⟨_, rfl⟩
  rw [hx0] at h
  have hK : x = (ro, mo) := hx0.symm
  unfold F_X12_isClique at h
  refine lv_iconst (v := (0 : Int32)) hx hb dX12_isClique_0 (by decide) ?_
  refine lv_istore_n (lv' := [(2, .int (0 : Int32)), (0, .ref (κ.1 + a0)), (1, .int a1)]) hx hb dX12_isClique_1 rfl hl (by decide) rfl (fun ls hl => ?_)
  exact F_X12_isClique_2_ok X hr hlk a0 a1 (0 : Int32) M _ h hK H locs ls O (lv_sub hl [1, 2, 0] rfl)
def F_X12_clique_55 (v0 : Nat) (v1 : Int32) (v2 : Int32) (v3 : Int32) (M : xM) : Option ((Int32 × Int32 × xM) ⊕ (Int32 × xM)) :=
some (.inl (v2, (v3 + 1), M))
def F_X12_clique_61 (v1 : Int32) (v2 : Int32) (M : xM) : Option (Int32 × xM) :=
if v1 = 0 then (
(F_X12_bitsOf v2 M).bind fun t9 =>
some (t9.1, t9.2))
else (
some (v2, M))
def F_X12_clique_22b (v0 : Nat) (v1 : Int32) : (Int32 × Int32 × xM) → Option ((Int32 × Int32 × xM) ⊕ (Int32 × xM)) := fun ⟨v2, v3, M⟩ =>
(xgP M v0 12 1).bind fun t3 =>
(xaI M 20 t3 (5 : Int32)).bind fun t4 =>
if ((1 : Int32) <<< (t4 &&& 31)) ≤ v3 then (
(F_X12_clique_61 v1 v2 M).map Sum.inr)
else (
(F_X12_bitsOf v3 M).bind fun t5 =>
(F_X12_bitsOf v2 t5.2).bind fun t6 =>
if t5.1 ≤ t6.1 then (
F_X12_clique_55 v0 v1 v2 v3 t6.2)
else (
(xck t6.2 v0 12).bind fun _ =>
(F_X12_isClique v0 v3 t6.2).bind fun t8 =>
if t8.1 = 0 then (
F_X12_clique_55 v0 v1 v2 v3 t8.2)
else (
F_X12_clique_55 v0 v1 v3 v3 t8.2)))
def F_X12_clique_22 (v0 : Nat) (v1 : Int32) (v2 : Int32) (v3 : Int32) (M : xM) : Option (Int32 × xM) := xit (F_X12_clique_22b v0 v1) xFU (v2, v3, M)
def F_X12_clique (a0 : Nat) (a1 : Int32) (M : xM) : Option (Int32 × xM) :=
(xpI M a0 12 0 (0 : Int32)).bind fun t1 =>
(F_X12_within a1.toInt64 (0 : Int64) (1 : Int64) t1).bind fun t2 =>
if t2.1 = 0 then (
some ((-2 : Int32), t2.2))
else (
F_X12_clique_22 a0 a1 (0 : Int32) (1 : Int32) t2.2)
set_option maxRecDepth 100000 in
set_option maxHeartbeats 4000000 in
theorem F_X12_clique_55_ok (X : xX p s m args c cX12_clique 4 RX12 κ) (hr : meth.sig.returnType = (some .int)) (hlk : meth.locks = false) {ro : Int32} {mo : xM} (v0 : Nat) (v1 : Int32) (v2 : Int32) (v3 : Int32) {W22 : Int32 × Int32 × xM → Prop} (hW22 : ∀ (v2 : Int32) (v3 : Int32) (M : xM), W22 (v2, v3, M) → ∀ (H : Heap) (locs : List Loc) (ls : Array Slot), xO κ s M H locs → lv_has ls 4 [(0, .ref (κ.1 + v0)), (1, .int v1), (2, .int v2), (3, .int v3)] → W p l e (xRm 7 0 0) s m args below meth c H locs 0 0 (xQf below args s 0 0 κ (some (.int ro)) mo) (F0 m 22 ls [])) (M : xM) (x : (Int32 × Int32 × xM) ⊕ (Int32 × xM)) (h : F_X12_clique_55 v0 v1 v2 v3 M = some x) (hK : (xKl W22 (fun o => o = (ro, mo))) x) (H : Heap) (locs : List Loc) (ls : Array Slot) (O : xO κ s M H locs) (hl : lv_has ls 4 [(0, .ref (κ.1 + v0)), (1, .int v1), (2, .int v2), (3, .int v3)]) : W p l e (xRm 7 0 0) s m args below meth c H locs 0 0 (xQf below args s 0 0 κ (some (.int ro)) mo) (F0 m 55 ls []) := by
  unfold F_X12_clique_55 at h
  have hx := X.1
  have hb := X.2.1
  refine lv_iinc (v := (v3 + 1)) (lv' := [(3, .int (v3 + 1)), (0, .ref (κ.1 + v0)), (1, .int v1), (2, .int v2)]) hx hb dX12_clique_55 hl (k := 3) rfl rfl (by decide) rfl (fun ls hl => ?_)
  refine lv_goto (tgt := 22) hx hb dX12_clique_58 (by decide) ?_
  rw [← Option.some.inj h] at hK
  exact hW22 v2 (v3 + 1) M hK H locs ls O (lv_sub hl [1, 2, 3, 0] rfl)
set_option maxRecDepth 100000 in
set_option maxHeartbeats 4000000 in
theorem F_X12_clique_61_ok (X : xX p s m args c cX12_clique 4 RX12 κ) (hr : meth.sig.returnType = (some .int)) (hlk : meth.locks = false) {ro : Int32} {mo : xM} (v1 : Int32) (v2 : Int32) (M : xM) (x : Int32 × xM) (h : F_X12_clique_61 v1 v2 M = some x) (hK : (fun o => o = (ro, mo)) x) (H : Heap) (locs : List Loc) (ls : Array Slot) (O : xO κ s M H locs) (hl : lv_has ls 4 [(1, .int v1), (2, .int v2)]) : W p l e (xRm 7 0 0) s m args below meth c H locs 0 0 (xQf below args s 0 0 κ (some (.int ro)) mo) (F0 m 61 ls []) := by
  unfold F_X12_clique_61 at h
  have hx := X.1
  have hb := X.2.1
  refine lv_iload_n hx hb dX12_clique_61 rfl (lv_at hl 0 rfl) ?_
  refine lv_if_ne (tgt := 72) hx hb dX12_clique_62 (by decide) (fun hc62 => ?_) (fun hc62 => ?_)
  · rw [if_neg hc62] at h
    refine lv_iload_n hx hb dX12_clique_72 rfl (lv_at hl 1 rfl) ?_
    rw [← Option.some.inj h] at hK
    have hK : (v2, M) = (ro, mo) := hK
    obtain ⟨hK1, hK2⟩ := Prod.mk.inj hK
    rw [hK2] at O
    refine xr_top (w := .int ro) (by rw [hK1]) ?_
    exact xr_iret X hr hlk O dX12_clique_73
  rw [if_pos hc62] at h
  refine lv_iload_n hx hb dX12_clique_65 rfl (lv_at hl 1 rfl) ?_
  obtain ⟨t9, ht9, h⟩ := Option.bind_eq_some_iff.mp h
  refine xr_callS (rest := []) X O (T_X12_bitsOf l κ v2 M _ _ ht9) lk_X12_260 (Nat.le_of_ble_eq_true rfl) rfl hl.1 rfl (Nat.le_of_ble_eq_true rfl) dX12_clique_66 ⟨Nat.le_of_ble_eq_true rfl, Nat.le_of_ble_eq_true rfl⟩ (fun H locs O => ?_)
  refine W.eq (g2 := F0 m 69 ls [.int t9.1]) rfl ?_
  refine lv_goto (tgt := 73) hx hb dX12_clique_69 (by decide) ?_
  rw [← Option.some.inj h] at hK
  have hK : (t9.1, t9.2) = (ro, mo) := hK
  obtain ⟨hK1, hK2⟩ := Prod.mk.inj hK
  rw [hK2] at O
  refine xr_top (w := .int ro) (by rw [hK1]) ?_
  exact xr_iret X hr hlk O dX12_clique_73
set_option maxRecDepth 100000 in
set_option maxHeartbeats 4000000 in
theorem F_X12_clique_22_bok (X : xX p s m args c cX12_clique 4 RX12 κ) (hr : meth.sig.returnType = (some .int)) (hlk : meth.locks = false) {ro : Int32} {mo : xM} (v0 : Nat) (v1 : Int32) (v2 : Int32) (v3 : Int32) {W22 : Int32 × Int32 × xM → Prop} (hW22 : ∀ (v2 : Int32) (v3 : Int32) (M : xM), W22 (v2, v3, M) → ∀ (H : Heap) (locs : List Loc) (ls : Array Slot), xO κ s M H locs → lv_has ls 4 [(0, .ref (κ.1 + v0)), (1, .int v1), (2, .int v2), (3, .int v3)] → W p l e (xRm 7 0 0) s m args below meth c H locs 0 0 (xQf below args s 0 0 κ (some (.int ro)) mo) (F0 m 22 ls [])) (M : xM) (x : (Int32 × Int32 × xM) ⊕ (Int32 × xM)) (h : F_X12_clique_22b v0 v1 (v2, v3, M) = some x) (hK : (xKl W22 (fun o => o = (ro, mo))) x) (H : Heap) (locs : List Loc) (ls : Array Slot) (O : xO κ s M H locs) (hl : lv_has ls 4 [(0, .ref (κ.1 + v0)), (1, .int v1), (2, .int v2), (3, .int v3)]) : W p l e (xRm 7 0 0) s m args below meth c H locs 0 0 (xQf below args s 0 0 κ (some (.int ro)) mo) (F0 m 22 ls []) := by
  unfold F_X12_clique_22b at h
  dsimp only at h
  have hx := X.1
  have hb := X.2.1
  refine lv_iload_n hx hb dX12_clique_22 rfl (lv_at hl 3 rfl) ?_
  refine lv_iconst (v := (1 : Int32)) hx hb dX12_clique_23 (by decide) ?_
  refine lv_aload_n hx hb dX12_clique_24 rfl (lv_at hl 0 rfl) ?_
  obtain ⟨t3, ht3, h⟩ := Option.bind_eq_some_iff.mp h
  refine xr_getP X O ht3 fl_X12_13 dX12_clique_25 ?_
  refine lv_iconst (v := (5 : Int32)) hx hb dX12_clique_28 (by decide) ?_
  obtain ⟨t4, ht4, h⟩ := Option.bind_eq_some_iff.mp h
  refine xr_aldI X O ht4 dX12_clique_29 ?_
  refine lv_ishl hx hb dX12_clique_30 ?_
  refine lv_icmp_ge (tgt := 61) hx hb dX12_clique_31 (by decide) (fun hc31 => ?_) (fun hc31 => ?_)
  · rw [if_pos hc31] at h
    obtain ⟨_, hw0, ew0⟩ := Option.map_eq_some_iff.mp h
    rw [← ew0] at hK
    have h := hw0
    exact F_X12_clique_61_ok X hr hlk v1 v2 M _ h hK H locs ls O (lv_sub hl [1, 2] rfl)
  rw [if_neg hc31] at h
  refine lv_iload_n hx hb dX12_clique_34 rfl (lv_at hl 3 rfl) ?_
  obtain ⟨t5, ht5, h⟩ := Option.bind_eq_some_iff.mp h
  refine xr_callS (rest := []) X O (T_X12_bitsOf l κ v3 M _ _ ht5) lk_X12_260 (Nat.le_of_ble_eq_true rfl) rfl hl.1 rfl (Nat.le_of_ble_eq_true rfl) dX12_clique_35 ⟨Nat.le_of_ble_eq_true rfl, Nat.le_of_ble_eq_true rfl⟩ (fun H locs O => ?_)
  refine W.eq (g2 := F0 m 38 ls [.int t5.1]) rfl ?_
  refine lv_iload_n hx hb dX12_clique_38 rfl (lv_at hl 2 rfl) ?_
  obtain ⟨t6, ht6, h⟩ := Option.bind_eq_some_iff.mp h
  refine xr_callS (rest := [.int t5.1]) X O (T_X12_bitsOf l κ v2 t5.2 _ _ ht6) lk_X12_260 (Nat.le_of_ble_eq_true rfl) rfl hl.1 rfl (Nat.le_of_ble_eq_true rfl) dX12_clique_39 ⟨Nat.le_of_ble_eq_true rfl, Nat.le_of_ble_eq_true rfl⟩ (fun H locs O => ?_)
  refine W.eq (g2 := F0 m 42 ls [.int t6.1, .int t5.1]) rfl ?_
  refine lv_icmp_le (tgt := 55) hx hb dX12_clique_42 (by decide) (fun hc42 => ?_) (fun hc42 => ?_)
  · rw [if_pos hc42] at h
    exact F_X12_clique_55_ok X hr hlk v0 v1 v2 v3 hW22 t6.2 _ h hK H locs ls O (lv_sub hl [0, 1, 2, 3] rfl)
  rw [if_neg hc42] at h
  refine lv_aload_n hx hb dX12_clique_45 rfl (lv_at hl 0 rfl) ?_
  refine lv_iload_n hx hb dX12_clique_46 rfl (lv_at hl 3 rfl) ?_
  obtain ⟨_, hut7, h⟩ := Option.bind_eq_some_iff.mp h
  obtain ⟨t8, ht8, h⟩ := Option.bind_eq_some_iff.mp h
  refine xr_callV (rest := []) X O (T_X12_isClique l κ v0 v3 t6.2 _ _ ht8) lk_X12_421 hut7 (Nat.le_of_ble_eq_true rfl) rfl hl.1 rfl (Nat.le_of_ble_eq_true rfl) dX12_clique_47 ⟨Nat.le_of_ble_eq_true rfl, Nat.le_of_ble_eq_true rfl⟩ (fun H locs O => ?_)
  refine W.eq (g2 := F0 m 50 ls [.int t8.1]) rfl ?_
  refine lv_if_eq (tgt := 55) hx hb dX12_clique_50 (by decide) (fun hc50 => ?_) (fun hc50 => ?_)
  · rw [if_pos hc50] at h
    exact F_X12_clique_55_ok X hr hlk v0 v1 v2 v3 hW22 t8.2 _ h hK H locs ls O (lv_sub hl [0, 1, 2, 3] rfl)
  rw [if_neg hc50] at h
  refine lv_iload_n hx hb dX12_clique_53 rfl (lv_at hl 3 rfl) ?_
  refine lv_istore_n (lv' := [(2, .int v3), (0, .ref (κ.1 + v0)), (1, .int v1), (3, .int v3)]) hx hb dX12_clique_54 rfl hl (by decide) rfl (fun ls hl => ?_)
  exact F_X12_clique_55_ok X hr hlk v0 v1 v3 v3 hW22 t8.2 _ h hK H locs ls O (lv_sub hl [1, 2, 0, 3] rfl)
set_option maxRecDepth 100000 in
set_option maxHeartbeats 4000000 in
theorem F_X12_clique_22_ok (X : xX p s m args c cX12_clique 4 RX12 κ) (hr : meth.sig.returnType = (some .int)) (hlk : meth.locks = false) {ro : Int32} {mo : xM} (v0 : Nat) (v1 : Int32) (v2 : Int32) (v3 : Int32) (M : xM) (x : Int32 × xM) (h : F_X12_clique_22 v0 v1 v2 v3 M = some x) (hK : (fun o => o = (ro, mo)) x) (H : Heap) (locs : List Loc) (ls : Array Slot) (O : xO κ s M H locs) (hl : lv_has ls 4 [(0, .ref (κ.1 + v0)), (1, .int v1), (2, .int v2), (3, .int v3)]) : W p l e (xRm 7 0 0) s m args below meth c H locs 0 0 (xQf below args s 0 0 κ (some (.int ro)) mo) (F0 m 22 ls []) := by
  refine xit_K (Wh := fun x => ∀ (H : Heap) (locs : List Loc) (ls : Array Slot), xO κ s x.2.2 H locs → lv_has ls 4 [(0, .ref (κ.1 + v0)), (1, .int v1), (2, .int x.1), (3, .int x.2.1)] → W p l e (xRm 7 0 0) s m args below meth c H locs 0 0 (xQf below args s 0 0 κ (some (.int ro)) mo) (F0 m 22 ls [])) (Kp := (fun o => o = (ro, mo))) ?_ xFU (v2, v3, M) x h hK H locs ls O hl
  intro y x h hK H locs ls O hl
  exact F_X12_clique_22_bok X hr hlk v0 v1 y.1 y.2.1 (fun _ _ _ hw => hw) y.2.2 x h hK H locs ls O hl
set_option maxRecDepth 100000 in
set_option maxHeartbeats 4000000 in
theorem T_X12_clique (l : Launch) (κ : xQ) (a0 : Nat) (a1 : Int32) (M : xM) (ro : Int32) (mo : xM) (h : F_X12_clique a0 a1 M = some (ro, mo)) : xC l yX12_clique cX12_clique 4 (some .int) 7 0 0 κ [.ref (κ.1 + a0), .int a1] M (some (.int ro)) mo := by
  refine xC_of rfl (Nat.le_of_ble_eq_true rfl) fun p e s m args below meth c X hr hlk hnm H locs ls O hl => ?_
  have X : xX p s m args c cX12_clique 4 RX12 κ := X
  have hl : lv_has ls 4 [(0, .ref (κ.1 + a0)), (1, .int a1)] := hl
  have hx := X.1
  have hb := X.2.1
  obtain ⟨x, hx0⟩ : ∃ x, (ro, mo) = x := ⟨_, rfl⟩
  rw [hx0] at h
  have hK : x = (ro, mo) := hx0.symm
  unfold F_X12_clique at h
  refine lv_aload_n hx hb dX12_clique_0 rfl (lv_at hl 0 rfl) ?_
  refine lv_iconst (v := (0 : Int32)) hx hb dX12_clique_1 (by decide) ?_
  obtain ⟨t1, ht1, h⟩ := Option.bind_eq_some_iff.mp h
  refine xr_putI X O ht1 fl_X12_1 dX12_clique_2 (fun H locs O => ?_)
  refine lv_iload_n hx hb dX12_clique_5 rfl (lv_at hl 1 rfl) ?_
  refine lv_i2l (v := a1.toInt64) hx hb dX12_clique_6 rfl ?_
  refine lv_lconst (v := (0 : Int64)) hx hb dX12_clique_7 (by decide) ?_
  refine lv_lconst (v := (1 : Int64)) hx hb dX12_clique_8 (by decide) ?_
  obtain ⟨t2, ht2, h⟩ := Option.bind_eq_some_iff.mp h
  refine xr_callS (rest := []) X O (T_X12_within l κ a1.toInt64 (0 : Int64) (1 : Int64) t1 _ _ ht2) lk_X12_145 (Nat.le_of_ble_eq_true rfl) rfl hl.1 rfl (Nat.le_of_ble_eq_true rfl) dX12_clique_9 ⟨Nat.le_of_ble_eq_true rfl, Nat.le_of_ble_eq_true rfl⟩ (fun H locs O => ?_)
  refine W.eq (g2 := F0 m 12 ls [.int t2.1]) rfl ?_
  refine lv_if_ne (tgt := 18) hx hb dX12_clique_12 (by decide) (fun hc12 => ?_) (fun hc12 => ?_)
  · rw [if_neg hc12] at h
    refine lv_iconst (v := (0 : Int32)) hx hb dX12_clique_18 (by decide) ?_
    refine lv_istore_n (lv' := [(2, .int (0 : Int32)), (0, .ref (κ.1 + a0)), (1, .int a1)]) hx hb dX12_clique_19 rfl hl (by decide) rfl (fun ls hl => ?_)
    refine lv_iconst (v := (1 : Int32)) hx hb dX12_clique_20 (by decide) ?_
    refine lv_istore_n (lv' := [(3, .int (1 : Int32)), (2, .int (0 : Int32)), (0, .ref (κ.1 + a0)), (1, .int a1)]) hx hb dX12_clique_21 rfl hl (by decide) rfl (fun ls hl => ?_)
    exact F_X12_clique_22_ok X hr hlk a0 a1 (0 : Int32) (1 : Int32) t2.2 _ h hK H locs ls O (lv_sub hl [2, 3, 1, 0] rfl)
  rw [if_pos hc12] at h
  refine lv_bipush (v := (-2 : Int32)) hx hb dX12_clique_15 (by decide) ?_
  rw [← Option.some.inj h] at hK
  have hK : ((-2 : Int32), t2.2) = (ro, mo) := hK
  obtain ⟨hK1, hK2⟩ := Prod.mk.inj hK
  rw [hK2] at O
  refine xr_top (w := .int ro) (by rw [hK1]) ?_
  exact xr_iret X hr hlk O dX12_clique_17
def F_X12_papers_48 (v0 : Nat) (v1 : Int32) (v3 : Int32) (s0 : Int32) (s1 : Int32) (M : xM) : Option ((Int32 × Int32 × xM) ⊕ (Int32 × xM)) :=
(some ((s1 ||| s0))).bind fun t8 =>
some (.inl (t8, (v3 + 1), M))
def F_X12_papers_56 (v2 : Int32) (M : xM) : Option (Int32 × xM) :=
some (v2, M)
def F_X12_papers_21b (v0 : Nat) (v1 : Int32) : (Int32 × Int32 × xM) → Option ((Int32 × Int32 × xM) ⊕ (Int32 × xM)) := fun ⟨v2, v3, M⟩ =>
(xgP M v0 12 1).bind fun t4 =>
(xaI M 20 t4 (5 : Int32)).bind fun t5 =>
if t5 ≤ v3 then (
(F_X12_papers_56 v2 M).map Sum.inr)
else (
(xck M v0 12).bind fun _ =>
(F_X12_isOver v0 v3 v1 M).bind fun t7 =>
if t7.1 = 0 then (
F_X12_papers_48 v0 v1 v3 (0 : Int32) v2 t7.2)
else (
F_X12_papers_48 v0 v1 v3 ((1 : Int32) <<< (v3 &&& 31)) v2 t7.2))
def F_X12_papers_21 (v0 : Nat) (v1 : Int32) (v2 : Int32) (v3 : Int32) (M : xM) : Option (Int32 × xM) := xit (F_X12_papers_21b v0 v1) xFU (v2, v3, M)
def F_X12_papers (a0 : Nat) (a1 : Int32) (M : xM) : Option (Int32 × xM) :=
(xpI M a0 12 0 (0 : Int32)).bind fun t1 =>
(xck t1 a0 12).bind fun _ =>
(F_X12_isCell a0 a1.toInt64 t1).bind fun t3 =>
if t3.1 = 0 then (
some ((-2 : Int32), t3.2))
else (
F_X12_papers_21 a0 a1 (0 : Int32) (0 : Int32) t3.2)
set_option maxRecDepth 100000 in
set_option maxHeartbeats 4000000 in
theorem F_X12_papers_48_ok (X : xX p s m args c cX12_papers 4 RX12 κ) (hr : meth.sig.returnType = (some .int)) (hlk : meth.locks = false) {ro : Int32} {mo : xM} (v0 : Nat) (v1 : Int32) (v3 : Int32) (s0 : Int32) (s1 : Int32) {W21 : Int32 × Int32 × xM → Prop} (hW21 : ∀ (v2 : Int32) (v3 : Int32) (M : xM), W21 (v2, v3, M) → ∀ (H : Heap) (locs : List Loc) (ls : Array Slot), xO κ s M H locs → lv_has ls 4 [(0, .ref (κ.1 + v0)), (1, .int v1), (2, .int v2), (3, .int v3)] → W p l e (xRm 5 0 0) s m args below meth c H locs 0 0 (xQf below args s 0 0 κ (some (.int ro)) mo) (F0 m 21 ls [])) (M : xM) (x : (Int32 × Int32 × xM) ⊕ (Int32 × xM)) (h : F_X12_papers_48 v0 v1 v3 s0 s1 M = some x) (hK : (xKl W21 (fun o => o = (ro, mo))) x) (H : Heap) (locs : List Loc) (ls : Array Slot) (O : xO κ s M H locs) (hl : lv_has ls 4 [(0, .ref (κ.1 + v0)), (1, .int v1), (3, .int v3)]) : W p l e (xRm 5 0 0) s m args below meth c H locs 0 0 (xQf below args s 0 0 κ (some (.int ro)) mo) (F0 m 48 ls [.int s0, .int s1]) := by
  unfold F_X12_papers_48 at h
  have hx := X.1
  have hb := X.2.1
  refine lv_ior hx hb dX12_papers_48 ?_
  obtain ⟨t8, ht8, h⟩ := Option.bind_eq_some_iff.mp h
  refine xr_top (w := .int t8) (by rw [Option.some.inj ht8]) ?_
  refine lv_istore_n (lv' := [(2, .int t8), (0, .ref (κ.1 + v0)), (1, .int v1), (3, .int v3)]) hx hb dX12_papers_49 rfl hl (by decide) rfl (fun ls hl => ?_)
  refine lv_iinc (v := (v3 + 1)) (lv' := [(3, .int (v3 + 1)), (2, .int t8), (0, .ref (κ.1 + v0)), (1, .int v1)]) hx hb dX12_papers_50 hl (k := 3) rfl rfl (by decide) rfl (fun ls hl => ?_)
  refine lv_goto (tgt := 21) hx hb dX12_papers_53 (by decide) ?_
  rw [← Option.some.inj h] at hK
  exact hW21 t8 (v3 + 1) M hK H locs ls O (lv_sub hl [2, 3, 1, 0] rfl)
set_option maxRecDepth 100000 in
set_option maxHeartbeats 4000000 in
theorem F_X12_papers_56_ok (X : xX p s m args c cX12_papers 4 RX12 κ) (hr : meth.sig.returnType = (some .int)) (hlk : meth.locks = false) {ro : Int32} {mo : xM} (v2 : Int32) (M : xM) (x : Int32 × xM) (h : F_X12_papers_56 v2 M = some x) (hK : (fun o => o = (ro, mo)) x) (H : Heap) (locs : List Loc) (ls : Array Slot) (O : xO κ s M H locs) (hl : lv_has ls 4 [(2, .int v2)]) : W p l e (xRm 5 0 0) s m args below meth c H locs 0 0 (xQf below args s 0 0 κ (some (.int ro)) mo) (F0 m 56 ls []) := by
  unfold F_X12_papers_56 at h
  have hx := X.1
  have hb := X.2.1
  refine lv_iload_n hx hb dX12_papers_56 rfl (lv_at hl 0 rfl) ?_
  rw [← Option.some.inj h] at hK
  have hK : (v2, M) = (ro, mo) := hK
  obtain ⟨hK1, hK2⟩ := Prod.mk.inj hK
  rw [hK2] at O
  refine xr_top (w := .int ro) (by rw [hK1]) ?_
  exact xr_iret X hr hlk O dX12_papers_57
set_option maxRecDepth 100000 in
set_option maxHeartbeats 4000000 in
theorem F_X12_papers_21_bok (X : xX p s m args c cX12_papers 4 RX12 κ) (hr : meth.sig.returnType = (some .int)) (hlk : meth.locks = false) {ro : Int32} {mo : xM} (v0 : Nat) (v1 : Int32) (v2 : Int32) (v3 : Int32) {W21 : Int32 × Int32 × xM → Prop} (hW21 : ∀ (v2 : Int32) (v3 : Int32) (M : xM), W21 (v2, v3, M) → ∀ (H : Heap) (locs : List Loc) (ls : Array Slot), xO κ s M H locs → lv_has ls 4 [(0, .ref (κ.1 + v0)), (1, .int v1), (2, .int v2), (3, .int v3)] → W p l e (xRm 5 0 0) s m args below meth c H locs 0 0 (xQf below args s 0 0 κ (some (.int ro)) mo) (F0 m 21 ls [])) (M : xM) (x : (Int32 × Int32 × xM) ⊕ (Int32 × xM)) (h : F_X12_papers_21b v0 v1 (v2, v3, M) = some x) (hK : (xKl W21 (fun o => o = (ro, mo))) x) (H : Heap) (locs : List Loc) (ls : Array Slot) (O : xO κ s M H locs) (hl : lv_has ls 4 [(0, .ref (κ.1 + v0)), (1, .int v1), (2, .int v2), (3, .int v3)]) : W p l e (xRm 5 0 0) s m args below meth c H locs 0 0 (xQf below args s 0 0 κ (some (.int ro)) mo) (F0 m 21 ls []) := by
  unfold F_X12_papers_21b at h
  dsimp only at h
  have hx := X.1
  have hb := X.2.1
  refine lv_iload_n hx hb dX12_papers_21 rfl (lv_at hl 3 rfl) ?_
  refine lv_aload_n hx hb dX12_papers_22 rfl (lv_at hl 0 rfl) ?_
  obtain ⟨t4, ht4, h⟩ := Option.bind_eq_some_iff.mp h
  refine xr_getP X O ht4 fl_X12_13 dX12_papers_23 ?_
  refine lv_iconst (v := (5 : Int32)) hx hb dX12_papers_26 (by decide) ?_
  obtain ⟨t5, ht5, h⟩ := Option.bind_eq_some_iff.mp h
  refine xr_aldI X O ht5 dX12_papers_27 ?_
  refine lv_icmp_ge (tgt := 56) hx hb dX12_papers_28 (by decide) (fun hc28 => ?_) (fun hc28 => ?_)
  · rw [if_pos hc28] at h
    obtain ⟨_, hw0, ew0⟩ := Option.map_eq_some_iff.mp h
    rw [← ew0] at hK
    have h := hw0
    exact F_X12_papers_56_ok X hr hlk v2 M _ h hK H locs ls O (lv_sub hl [2] rfl)
  rw [if_neg hc28] at h
  refine lv_iload_n hx hb dX12_papers_31 rfl (lv_at hl 2 rfl) ?_
  refine lv_aload_n hx hb dX12_papers_32 rfl (lv_at hl 0 rfl) ?_
  refine lv_iload_n hx hb dX12_papers_33 rfl (lv_at hl 3 rfl) ?_
  refine lv_iload_n hx hb dX12_papers_34 rfl (lv_at hl 1 rfl) ?_
  obtain ⟨_, hut6, h⟩ := Option.bind_eq_some_iff.mp h
  obtain ⟨t7, ht7, h⟩ := Option.bind_eq_some_iff.mp h
  refine xr_callV (rest := [.int v2]) X O (T_X12_isOver l κ v0 v3 v1 M _ _ ht7) lk_X12_412 hut6 (Nat.le_of_ble_eq_true rfl) rfl hl.1 rfl (Nat.le_of_ble_eq_true rfl) dX12_papers_35 ⟨Nat.le_of_ble_eq_true rfl, Nat.le_of_ble_eq_true rfl⟩ (fun H locs O => ?_)
  refine W.eq (g2 := F0 m 38 ls [.int t7.1, .int v2]) rfl ?_
  refine lv_if_eq (tgt := 47) hx hb dX12_papers_38 (by decide) (fun hc38 => ?_) (fun hc38 => ?_)
  · rw [if_pos hc38] at h
    refine lv_iconst (v := (0 : Int32)) hx hb dX12_papers_47 (by decide) ?_
    exact F_X12_papers_48_ok X hr hlk v0 v1 v3 (0 : Int32) v2 hW21 t7.2 _ h hK H locs ls O (lv_sub hl [0, 1, 3] rfl)
  rw [if_neg hc38] at h
  refine lv_iconst (v := (1 : Int32)) hx hb dX12_papers_41 (by decide) ?_
  refine lv_iload_n hx hb dX12_papers_42 rfl (lv_at hl 3 rfl) ?_
  refine lv_ishl hx hb dX12_papers_43 ?_
  refine lv_goto (tgt := 48) hx hb dX12_papers_44 (by decide) ?_
  exact F_X12_papers_48_ok X hr hlk v0 v1 v3 ((1 : Int32) <<< (v3 &&& 31)) v2 hW21 t7.2 _ h hK H locs ls O (lv_sub hl [0, 1, 3] rfl)
set_option maxRecDepth 100000 in
set_option maxHeartbeats 4000000 in
theorem F_X12_papers_21_ok (X : xX p s m args c cX12_papers 4 RX12 κ) (hr : meth.sig.returnType = (some .int)) (hlk : meth.locks = false) {ro : Int32} {mo : xM} (v0 : Nat) (v1 : Int32) (v2 : Int32) (v3 : Int32) (M : xM) (x : Int32 × xM) (h : F_X12_papers_21 v0 v1 v2 v3 M = some x) (hK : (fun o => o = (ro, mo)) x) (H : Heap) (locs : List Loc) (ls : Array Slot) (O : xO κ s M H locs) (hl : lv_has ls 4 [(0, .ref (κ.1 + v0)), (1, .int v1), (2, .int v2), (3, .int v3)]) : W p l e (xRm 5 0 0) s m args below meth c H locs 0 0 (xQf below args s 0 0 κ (some (.int ro)) mo) (F0 m 21 ls []) := by
  refine xit_K (Wh := fun x => ∀ (H : Heap) (locs : List Loc) (ls : Array Slot), xO κ s x.2.2 H locs → lv_has ls 4 [(0, .ref (κ.1 + v0)), (1, .int v1), (2, .int x.1), (3, .int x.2.1)] → W p l e (xRm 5 0 0) s m args below meth c H locs 0 0 (xQf below args s 0 0 κ (some (.int ro)) mo) (F0 m 21 ls [])) (Kp := (fun o => o = (ro, mo))) ?_ xFU (v2, v3, M) x h hK H locs ls O hl
  intro y x h hK H locs ls O hl
  exact F_X12_papers_21_bok X hr hlk v0 v1 y.1 y.2.1 (fun _ _ _ hw => hw) y.2.2 x h hK H locs ls O hl
set_option maxRecDepth 100000 in
set_option maxHeartbeats 4000000 in
theorem T_X12_papers (l : Launch) (κ : xQ) (a0 : Nat) (a1 : Int32) (M : xM) (ro : Int32) (mo : xM) (h : F_X12_papers a0 a1 M = some (ro, mo)) : xC l yX12_papers cX12_papers 4 (some .int) 5 0 0 κ [.ref (κ.1 + a0), .int a1] M (some (.int ro)) mo := by
  refine xC_of rfl (Nat.le_of_ble_eq_true rfl) fun p e s m args below meth c X hr hlk hnm H locs ls O hl => ?_
  have X : xX p s m args c cX12_papers 4 RX12 κ := X
  have hl : lv_has ls 4 [(0, .ref (κ.1 + a0)), (1, .int a1)] := hl
  have hx := X.1
  have hb := X.2.1
  obtain ⟨x, hx0⟩ : ∃ x, (ro, mo) = x := ⟨_, rfl⟩
  rw [hx0] at h
  have hK : x = (ro, mo) := hx0.symm
  unfold F_X12_papers at h
  refine lv_aload_n hx hb dX12_papers_0 rfl (lv_at hl 0 rfl) ?_
  refine lv_iconst (v := (0 : Int32)) hx hb dX12_papers_1 (by decide) ?_
  obtain ⟨t1, ht1, h⟩ := Option.bind_eq_some_iff.mp h
  refine xr_putI X O ht1 fl_X12_1 dX12_papers_2 (fun H locs O => ?_)
  refine lv_aload_n hx hb dX12_papers_5 rfl (lv_at hl 0 rfl) ?_
  refine lv_iload_n hx hb dX12_papers_6 rfl (lv_at hl 1 rfl) ?_
  refine lv_i2l (v := a1.toInt64) hx hb dX12_papers_7 rfl ?_
  obtain ⟨_, hut2, h⟩ := Option.bind_eq_some_iff.mp h
  obtain ⟨t3, ht3, h⟩ := Option.bind_eq_some_iff.mp h
  refine xr_callV (rest := []) X O (T_X12_isCell l κ a0 a1.toInt64 t1 _ _ ht3) lk_X12_230 hut2 (Nat.le_of_ble_eq_true rfl) rfl hl.1 rfl (Nat.le_of_ble_eq_true rfl) dX12_papers_8 ⟨Nat.le_of_ble_eq_true rfl, Nat.le_of_ble_eq_true rfl⟩ (fun H locs O => ?_)
  refine W.eq (g2 := F0 m 11 ls [.int t3.1]) rfl ?_
  refine lv_if_ne (tgt := 17) hx hb dX12_papers_11 (by decide) (fun hc11 => ?_) (fun hc11 => ?_)
  · rw [if_neg hc11] at h
    refine lv_iconst (v := (0 : Int32)) hx hb dX12_papers_17 (by decide) ?_
    refine lv_istore_n (lv' := [(2, .int (0 : Int32)), (0, .ref (κ.1 + a0)), (1, .int a1)]) hx hb dX12_papers_18 rfl hl (by decide) rfl (fun ls hl => ?_)
    refine lv_iconst (v := (0 : Int32)) hx hb dX12_papers_19 (by decide) ?_
    refine lv_istore_n (lv' := [(3, .int (0 : Int32)), (2, .int (0 : Int32)), (0, .ref (κ.1 + a0)), (1, .int a1)]) hx hb dX12_papers_20 rfl hl (by decide) rfl (fun ls hl => ?_)
    exact F_X12_papers_21_ok X hr hlk a0 a1 (0 : Int32) (0 : Int32) t3.2 _ h hK H locs ls O (lv_sub hl [2, 3, 1, 0] rfl)
  rw [if_pos hc11] at h
  refine lv_bipush (v := (-2 : Int32)) hx hb dX12_papers_14 (by decide) ?_
  rw [← Option.some.inj h] at hK
  have hK : ((-2 : Int32), t3.2) = (ro, mo) := hK
  obtain ⟨hK1, hK2⟩ := Prod.mk.inj hK
  rw [hK2] at O
  refine xr_top (w := .int ro) (by rw [hK1]) ?_
  exact xr_iret X hr hlk O dX12_papers_16
def F_X12_balanceOf_68 (v0 : Nat) (v1 : Int32) (v3 : Int32) (s0 : Int32) (s1 : Int32) (M : xM) : Option ((Int32 × Int32 × xM) ⊕ (Int32 × xM)) :=
(some ((s1 + s0))).bind fun t11 =>
some (.inl (t11, (v3 + 3), M))
def F_X12_balanceOf_76 (v2 : Int32) (M : xM) : Option (Int32 × xM) :=
some (v2, M)
def F_X12_balanceOf_5b (v0 : Nat) (v1 : Int32) : (Int32 × Int32 × xM) → Option ((Int32 × Int32 × xM) ⊕ (Int32 × xM)) := fun ⟨v2, v3, M⟩ =>
(xgP M v0 12 1).bind fun t1 =>
(xaI M 20 t1 (6 : Int32)).bind fun t2 =>
if ((43 : Int32) + ((3 : Int32) * t2)) ≤ v3 then (
(F_X12_balanceOf_76 v2 M).map Sum.inr)
else (
(xgP M v0 12 1).bind fun t3 =>
(xaI M 20 t3 (v3 + (1 : Int32))).bind fun t4 =>
if t4 = v1 then (
(xgP M v0 12 1).bind fun t9 =>
(xaI M 20 t9 (v3 + (2 : Int32))).bind fun t10 =>
F_X12_balanceOf_68 v0 v1 v3 t10 v2 M)
else (
(xgP M v0 12 1).bind fun t5 =>
(xaI M 20 t5 v3).bind fun t6 =>
if t6 = v1 then (
(xgP M v0 12 1).bind fun t7 =>
(xaI M 20 t7 (v3 + (2 : Int32))).bind fun t8 =>
F_X12_balanceOf_68 v0 v1 v3 (-t8) v2 M)
else (
F_X12_balanceOf_68 v0 v1 v3 (0 : Int32) v2 M)))
def F_X12_balanceOf_5 (v0 : Nat) (v1 : Int32) (v2 : Int32) (v3 : Int32) (M : xM) : Option (Int32 × xM) := xit (F_X12_balanceOf_5b v0 v1) xFU (v2, v3, M)
def F_X12_balanceOf (a0 : Nat) (a1 : Int32) (M : xM) : Option (Int32 × xM) :=
F_X12_balanceOf_5 a0 a1 (0 : Int32) (43 : Int32) M
set_option maxRecDepth 100000 in
set_option maxHeartbeats 4000000 in
theorem F_X12_balanceOf_68_ok (X : xX p s m args c cX12_balanceOf 4 RX12 κ) (hr : meth.sig.returnType = (some .int)) (hlk : meth.locks = false) {ro : Int32} {mo : xM} (v0 : Nat) (v1 : Int32) (v3 : Int32) (s0 : Int32) (s1 : Int32) {W5 : Int32 × Int32 × xM → Prop} (hW5 : ∀ (v2 : Int32) (v3 : Int32) (M : xM), W5 (v2, v3, M) → ∀ (H : Heap) (locs : List Loc) (ls : Array Slot), xO κ s M H locs → lv_has ls 4 [(0, .ref (κ.1 + v0)), (1, .int v1), (2, .int v2), (3, .int v3)] → W p l e (xRm 2 0 0) s m args below meth c H locs 0 0 (xQf below args s 0 0 κ (some (.int ro)) mo) (F0 m 5 ls [])) (M : xM) (x : (Int32 × Int32 × xM) ⊕ (Int32 × xM)) (h : F_X12_balanceOf_68 v0 v1 v3 s0 s1 M = some x) (hK : (xKl W5 (fun o => o = (ro, mo))) x) (H : Heap) (locs : List Loc) (ls : Array Slot) (O : xO κ s M H locs) (hl : lv_has ls 4 [(0, .ref (κ.1 + v0)), (1, .int v1), (3, .int v3)]) : W p l e (xRm 2 0 0) s m args below meth c H locs 0 0 (xQf below args s 0 0 κ (some (.int ro)) mo) (F0 m 68 ls [.int s0, .int s1]) := by
  unfold F_X12_balanceOf_68 at h
  have hx := X.1
  have hb := X.2.1
  refine lv_iadd hx hb dX12_balanceOf_68 ?_
  obtain ⟨t11, ht11, h⟩ := Option.bind_eq_some_iff.mp h
  refine xr_top (w := .int t11) (by rw [Option.some.inj ht11]) ?_
  refine lv_istore_n (lv' := [(2, .int t11), (0, .ref (κ.1 + v0)), (1, .int v1), (3, .int v3)]) hx hb dX12_balanceOf_69 rfl hl (by decide) rfl (fun ls hl => ?_)
  refine lv_iinc (v := (v3 + 3)) (lv' := [(3, .int (v3 + 3)), (2, .int t11), (0, .ref (κ.1 + v0)), (1, .int v1)]) hx hb dX12_balanceOf_70 hl (k := 3) rfl rfl (by decide) rfl (fun ls hl => ?_)
  refine lv_goto (tgt := 5) hx hb dX12_balanceOf_73 (by decide) ?_
  rw [← Option.some.inj h] at hK
  exact hW5 t11 (v3 + 3) M hK H locs ls O (lv_sub hl [2, 3, 1, 0] rfl)
set_option maxRecDepth 100000 in
set_option maxHeartbeats 4000000 in
theorem F_X12_balanceOf_76_ok (X : xX p s m args c cX12_balanceOf 4 RX12 κ) (hr : meth.sig.returnType = (some .int)) (hlk : meth.locks = false) {ro : Int32} {mo : xM} (v2 : Int32) (M : xM) (x : Int32 × xM) (h : F_X12_balanceOf_76 v2 M = some x) (hK : (fun o => o = (ro, mo)) x) (H : Heap) (locs : List Loc) (ls : Array Slot) (O : xO κ s M H locs) (hl : lv_has ls 4 [(2, .int v2)]) : W p l e (xRm 2 0 0) s m args below meth c H locs 0 0 (xQf below args s 0 0 κ (some (.int ro)) mo) (F0 m 76 ls []) := by
  unfold F_X12_balanceOf_76 at h
  have hx := X.1
  have hb := X.2.1
  refine lv_iload_n hx hb dX12_balanceOf_76 rfl (lv_at hl 0 rfl) ?_
  rw [← Option.some.inj h] at hK
  have hK : (v2, M) = (ro, mo) := hK
  obtain ⟨hK1, hK2⟩ := Prod.mk.inj hK
  rw [hK2] at O
  refine xr_top (w := .int ro) (by rw [hK1]) ?_
  exact xr_iret X hr hlk O dX12_balanceOf_77
set_option maxRecDepth 100000 in
set_option maxHeartbeats 4000000 in
theorem F_X12_balanceOf_5_bok (X : xX p s m args c cX12_balanceOf 4 RX12 κ) (hr : meth.sig.returnType = (some .int)) (hlk : meth.locks = false) {ro : Int32} {mo : xM} (v0 : Nat) (v1 : Int32) (v2 : Int32) (v3 : Int32) {W5 : Int32 × Int32 × xM → Prop} (hW5 : ∀ (v2 : Int32) (v3 : Int32) (M : xM), W5 (v2, v3, M) → ∀ (H : Heap) (locs : List Loc) (ls : Array Slot), xO κ s M H locs → lv_has ls 4 [(0, .ref (κ.1 + v0)), (1, .int v1), (2, .int v2), (3, .int v3)] → W p l e (xRm 2 0 0) s m args below meth c H locs 0 0 (xQf below args s 0 0 κ (some (.int ro)) mo) (F0 m 5 ls [])) (M : xM) (x : (Int32 × Int32 × xM) ⊕ (Int32 × xM)) (h : F_X12_balanceOf_5b v0 v1 (v2, v3, M) = some x) (hK : (xKl W5 (fun o => o = (ro, mo))) x) (H : Heap) (locs : List Loc) (ls : Array Slot) (O : xO κ s M H locs) (hl : lv_has ls 4 [(0, .ref (κ.1 + v0)), (1, .int v1), (2, .int v2), (3, .int v3)]) : W p l e (xRm 2 0 0) s m args below meth c H locs 0 0 (xQf below args s 0 0 κ (some (.int ro)) mo) (F0 m 5 ls []) := by
  unfold F_X12_balanceOf_5b at h
  dsimp only at h
  have hx := X.1
  have hb := X.2.1
  refine lv_iload_n hx hb dX12_balanceOf_5 rfl (lv_at hl 3 rfl) ?_
  refine lv_bipush (v := (43 : Int32)) hx hb dX12_balanceOf_6 (by decide) ?_
  refine lv_iconst (v := (3 : Int32)) hx hb dX12_balanceOf_8 (by decide) ?_
  refine lv_aload_n hx hb dX12_balanceOf_9 rfl (lv_at hl 0 rfl) ?_
  obtain ⟨t1, ht1, h⟩ := Option.bind_eq_some_iff.mp h
  refine xr_getP X O ht1 fl_X12_13 dX12_balanceOf_10 ?_
  refine lv_bipush (v := (6 : Int32)) hx hb dX12_balanceOf_13 (by decide) ?_
  obtain ⟨t2, ht2, h⟩ := Option.bind_eq_some_iff.mp h
  refine xr_aldI X O ht2 dX12_balanceOf_15 ?_
  refine lv_imul hx hb dX12_balanceOf_16 ?_
  refine lv_iadd hx hb dX12_balanceOf_17 ?_
  refine lv_icmp_ge (tgt := 76) hx hb dX12_balanceOf_18 (by decide) (fun hc18 => ?_) (fun hc18 => ?_)
  · rw [if_pos hc18] at h
    obtain ⟨_, hw0, ew0⟩ := Option.map_eq_some_iff.mp h
    rw [← ew0] at hK
    have h := hw0
    exact F_X12_balanceOf_76_ok X hr hlk v2 M _ h hK H locs ls O (lv_sub hl [2] rfl)
  rw [if_neg hc18] at h
  refine lv_iload_n hx hb dX12_balanceOf_21 rfl (lv_at hl 2 rfl) ?_
  refine lv_aload_n hx hb dX12_balanceOf_22 rfl (lv_at hl 0 rfl) ?_
  obtain ⟨t3, ht3, h⟩ := Option.bind_eq_some_iff.mp h
  refine xr_getP X O ht3 fl_X12_13 dX12_balanceOf_23 ?_
  refine lv_iload_n hx hb dX12_balanceOf_26 rfl (lv_at hl 3 rfl) ?_
  refine lv_iconst (v := (1 : Int32)) hx hb dX12_balanceOf_27 (by decide) ?_
  refine lv_iadd hx hb dX12_balanceOf_28 ?_
  obtain ⟨t4, ht4, h⟩ := Option.bind_eq_some_iff.mp h
  refine xr_aldI X O ht4 dX12_balanceOf_29 ?_
  refine lv_iload_n hx hb dX12_balanceOf_30 rfl (lv_at hl 1 rfl) ?_
  refine lv_icmp_ne (tgt := 45) hx hb dX12_balanceOf_31 (by decide) (fun hc31 => ?_) (fun hc31 => ?_)
  · rw [if_neg hc31] at h
    refine lv_aload_n hx hb dX12_balanceOf_45 rfl (lv_at hl 0 rfl) ?_
    obtain ⟨t5, ht5, h⟩ := Option.bind_eq_some_iff.mp h
    refine xr_getP X O ht5 fl_X12_13 dX12_balanceOf_46 ?_
    refine lv_iload_n hx hb dX12_balanceOf_49 rfl (lv_at hl 3 rfl) ?_
    obtain ⟨t6, ht6, h⟩ := Option.bind_eq_some_iff.mp h
    refine xr_aldI X O ht6 dX12_balanceOf_50 ?_
    refine lv_iload_n hx hb dX12_balanceOf_51 rfl (lv_at hl 1 rfl) ?_
    refine lv_icmp_ne (tgt := 67) hx hb dX12_balanceOf_52 (by decide) (fun hc52 => ?_) (fun hc52 => ?_)
    · rw [if_neg hc52] at h
      refine lv_iconst (v := (0 : Int32)) hx hb dX12_balanceOf_67 (by decide) ?_
      exact F_X12_balanceOf_68_ok X hr hlk v0 v1 v3 (0 : Int32) v2 hW5 M _ h hK H locs ls O (lv_sub hl [0, 1, 3] rfl)
    rw [if_pos hc52] at h
    refine lv_aload_n hx hb dX12_balanceOf_55 rfl (lv_at hl 0 rfl) ?_
    obtain ⟨t7, ht7, h⟩ := Option.bind_eq_some_iff.mp h
    refine xr_getP X O ht7 fl_X12_13 dX12_balanceOf_56 ?_
    refine lv_iload_n hx hb dX12_balanceOf_59 rfl (lv_at hl 3 rfl) ?_
    refine lv_iconst (v := (2 : Int32)) hx hb dX12_balanceOf_60 (by decide) ?_
    refine lv_iadd hx hb dX12_balanceOf_61 ?_
    obtain ⟨t8, ht8, h⟩ := Option.bind_eq_some_iff.mp h
    refine xr_aldI X O ht8 dX12_balanceOf_62 ?_
    refine lv_ineg hx hb dX12_balanceOf_63 ?_
    refine lv_goto (tgt := 68) hx hb dX12_balanceOf_64 (by decide) ?_
    exact F_X12_balanceOf_68_ok X hr hlk v0 v1 v3 (-t8) v2 hW5 M _ h hK H locs ls O (lv_sub hl [0, 1, 3] rfl)
  rw [if_pos hc31] at h
  refine lv_aload_n hx hb dX12_balanceOf_34 rfl (lv_at hl 0 rfl) ?_
  obtain ⟨t9, ht9, h⟩ := Option.bind_eq_some_iff.mp h
  refine xr_getP X O ht9 fl_X12_13 dX12_balanceOf_35 ?_
  refine lv_iload_n hx hb dX12_balanceOf_38 rfl (lv_at hl 3 rfl) ?_
  refine lv_iconst (v := (2 : Int32)) hx hb dX12_balanceOf_39 (by decide) ?_
  refine lv_iadd hx hb dX12_balanceOf_40 ?_
  obtain ⟨t10, ht10, h⟩ := Option.bind_eq_some_iff.mp h
  refine xr_aldI X O ht10 dX12_balanceOf_41 ?_
  refine lv_goto (tgt := 68) hx hb dX12_balanceOf_42 (by decide) ?_
  exact F_X12_balanceOf_68_ok X hr hlk v0 v1 v3 t10 v2 hW5 M _ h hK H locs ls O (lv_sub hl [0, 1, 3] rfl)
set_option maxRecDepth 100000 in
set_option maxHeartbeats 4000000 in
theorem F_X12_balanceOf_5_ok (X : xX p s m args c cX12_balanceOf 4 RX12 κ) (hr : meth.sig.returnType = (some .int)) (hlk : meth.locks = false) {ro : Int32} {mo : xM} (v0 : Nat) (v1 : Int32) (v2 : Int32) (v3 : Int32) (M : xM) (x : Int32 × xM) (h : F_X12_balanceOf_5 v0 v1 v2 v3 M = some x) (hK : (fun o => o = (ro, mo)) x) (H : Heap) (locs : List Loc) (ls : Array Slot) (O : xO κ s M H locs) (hl : lv_has ls 4 [(0, .ref (κ.1 + v0)), (1, .int v1), (2, .int v2), (3, .int v3)]) : W p l e (xRm 2 0 0) s m args below meth c H locs 0 0 (xQf below args s 0 0 κ (some (.int ro)) mo) (F0 m 5 ls []) := by
  refine xit_K (Wh := fun x => ∀ (H : Heap) (locs : List Loc) (ls : Array Slot), xO κ s x.2.2 H locs → lv_has ls 4 [(0, .ref (κ.1 + v0)), (1, .int v1), (2, .int x.1), (3, .int x.2.1)] → W p l e (xRm 2 0 0) s m args below meth c H locs 0 0 (xQf below args s 0 0 κ (some (.int ro)) mo) (F0 m 5 ls [])) (Kp := (fun o => o = (ro, mo))) ?_ xFU (v2, v3, M) x h hK H locs ls O hl
  intro y x h hK H locs ls O hl
  exact F_X12_balanceOf_5_bok X hr hlk v0 v1 y.1 y.2.1 (fun _ _ _ hw => hw) y.2.2 x h hK H locs ls O hl
set_option maxRecDepth 100000 in
set_option maxHeartbeats 4000000 in
theorem T_X12_balanceOf (l : Launch) (κ : xQ) (a0 : Nat) (a1 : Int32) (M : xM) (ro : Int32) (mo : xM) (h : F_X12_balanceOf a0 a1 M = some (ro, mo)) : xC l yX12_balanceOf cX12_balanceOf 4 (some .int) 2 0 0 κ [.ref (κ.1 + a0), .int a1] M (some (.int ro)) mo := by
  refine xC_of rfl (Nat.le_of_ble_eq_true rfl) fun p e s m args below meth c X hr hlk hnm H locs ls O hl => ?_
  have X : xX p s m args c cX12_balanceOf 4 RX12 κ := X
  have hl : lv_has ls 4 [(0, .ref (κ.1 + a0)), (1, .int a1)] := hl
  have hx := X.1
  have hb := X.2.1
  obtain ⟨x, hx0⟩ : ∃ x, (ro, mo) = x := ⟨_, rfl⟩
  rw [hx0] at h
  have hK : x = (ro, mo) := hx0.symm
  unfold F_X12_balanceOf at h
  refine lv_iconst (v := (0 : Int32)) hx hb dX12_balanceOf_0 (by decide) ?_
  refine lv_istore_n (lv' := [(2, .int (0 : Int32)), (0, .ref (κ.1 + a0)), (1, .int a1)]) hx hb dX12_balanceOf_1 rfl hl (by decide) rfl (fun ls hl => ?_)
  refine lv_bipush (v := (43 : Int32)) hx hb dX12_balanceOf_2 (by decide) ?_
  refine lv_istore_n (lv' := [(3, .int (43 : Int32)), (2, .int (0 : Int32)), (0, .ref (κ.1 + a0)), (1, .int a1)]) hx hb dX12_balanceOf_4 rfl hl (by decide) rfl (fun ls hl => ?_)
  exact F_X12_balanceOf_5_ok X hr hlk a0 a1 (0 : Int32) (43 : Int32) M _ h hK H locs ls O (lv_sub hl [2, 3, 1, 0] rfl)
def F_X12_balance (a0 : Nat) (a1 : Int32) (M : xM) : Option (Int32 × xM) :=
(xpI M a0 12 0 (0 : Int32)).bind fun t1 =>
(F_X12_within a1.toInt64 (0 : Int64) (4 : Int64) t1).bind fun t2 =>
if t2.1 = 0 then (
some ((-99000002 : Int32), t2.2))
else (
(xck t2.2 a0 12).bind fun _ =>
(F_X12_balanceOf a0 a1 t2.2).bind fun t4 =>
some (t4.1, t4.2))
set_option maxRecDepth 100000 in
set_option maxHeartbeats 4000000 in
theorem T_X12_balance (l : Launch) (κ : xQ) (a0 : Nat) (a1 : Int32) (M : xM) (ro : Int32) (mo : xM) (h : F_X12_balance a0 a1 M = some (ro, mo)) : xC l yX12_balance cX12_balance 2 (some .int) 3 0 0 κ [.ref (κ.1 + a0), .int a1] M (some (.int ro)) mo := by
  refine xC_of rfl (Nat.le_of_ble_eq_true rfl) fun p e s m args below meth c X hr hlk hnm H locs ls O hl => ?_
  have X : xX p s m args c cX12_balance 2 RX12 κ := X
  have hl : lv_has ls 2 [(0, .ref (κ.1 + a0)), (1, .int a1)] := hl
  have hx := X.1
  have hb := X.2.1
  obtain ⟨x, hx0⟩ : ∃ x, (ro, mo) = x := ⟨_, rfl⟩
  rw [hx0] at h
  have hK : x = (ro, mo) := hx0.symm
  unfold F_X12_balance at h
  refine lv_aload_n hx hb dX12_balance_0 rfl (lv_at hl 0 rfl) ?_
  refine lv_iconst (v := (0 : Int32)) hx hb dX12_balance_1 (by decide) ?_
  obtain ⟨t1, ht1, h⟩ := Option.bind_eq_some_iff.mp h
  refine xr_putI X O ht1 fl_X12_1 dX12_balance_2 (fun H locs O => ?_)
  refine lv_iload_n hx hb dX12_balance_5 rfl (lv_at hl 1 rfl) ?_
  refine lv_i2l (v := a1.toInt64) hx hb dX12_balance_6 rfl ?_
  refine lv_lconst (v := (0 : Int64)) hx hb dX12_balance_7 (by decide) ?_
  refine lv_ldc2 (v := (4 : Int64)) hx hb X.2.2.2.1 (X.2.2.2.2.1 _ ct_X12_311) dX12_balance_8 ?_
  obtain ⟨t2, ht2, h⟩ := Option.bind_eq_some_iff.mp h
  refine xr_callS (rest := []) X O (T_X12_within l κ a1.toInt64 (0 : Int64) (4 : Int64) t1 _ _ ht2) lk_X12_145 (Nat.le_of_ble_eq_true rfl) rfl hl.1 rfl (Nat.le_of_ble_eq_true rfl) dX12_balance_11 ⟨Nat.le_of_ble_eq_true rfl, Nat.le_of_ble_eq_true rfl⟩ (fun H locs O => ?_)
  refine W.eq (g2 := F0 m 14 ls [.int t2.1]) rfl ?_
  refine lv_if_eq (tgt := 25) hx hb dX12_balance_14 (by decide) (fun hc14 => ?_) (fun hc14 => ?_)
  · rw [if_pos hc14] at h
    refine lv_ldcw (v := (-99000002 : Int32)) hx hb X.2.2.2.1 (X.2.2.2.2.1 _ ct_X12_427) dX12_balance_25 ?_
    rw [← Option.some.inj h] at hK
    have hK : ((-99000002 : Int32), t2.2) = (ro, mo) := hK
    obtain ⟨hK1, hK2⟩ := Prod.mk.inj hK
    rw [hK2] at O
    refine xr_top (w := .int ro) (by rw [hK1]) ?_
    exact xr_iret X hr hlk O dX12_balance_28
  rw [if_neg hc14] at h
  refine lv_aload_n hx hb dX12_balance_17 rfl (lv_at hl 0 rfl) ?_
  refine lv_iload_n hx hb dX12_balance_18 rfl (lv_at hl 1 rfl) ?_
  obtain ⟨_, hut3, h⟩ := Option.bind_eq_some_iff.mp h
  obtain ⟨t4, ht4, h⟩ := Option.bind_eq_some_iff.mp h
  refine xr_callV (rest := []) X O (T_X12_balanceOf l κ a0 a1 t2.2 _ _ ht4) lk_X12_424 hut3 (Nat.le_of_ble_eq_true rfl) rfl hl.1 rfl (Nat.le_of_ble_eq_true rfl) dX12_balance_19 ⟨Nat.le_of_ble_eq_true rfl, Nat.le_of_ble_eq_true rfl⟩ (fun H locs O => ?_)
  refine W.eq (g2 := F0 m 22 ls [.int t4.1]) rfl ?_
  refine lv_goto (tgt := 28) hx hb dX12_balance_22 (by decide) ?_
  rw [← Option.some.inj h] at hK
  have hK : (t4.1, t4.2) = (ro, mo) := hK
  obtain ⟨hK1, hK2⟩ := Prod.mk.inj hK
  rw [hK2] at O
  refine xr_top (w := .int ro) (by rw [hK1]) ?_
  exact xr_iret X hr hlk O dX12_balance_28
def F_X12_partsOf_42 (rc : Nat → Int32 → xM → Option (Int32 × xM)) (v0 : Nat) (v1 : Int32) (v2 : Int32) (v3 : Int32) (v5 : Int32) (s0 : Int32) (s1 : Int32) (M : xM) : Option ((Int32 × Int32 × xM) ⊕ ((Int32 × Int32 × xM) ⊕ (Int32 × xM))) :=
(some ((s1 + s0))).bind fun t4 =>
some (.inl (t4, (v5 + 1), M))
def F_X12_partsOf_85 (rc : Nat → Int32 → xM → Option (Int32 × xM)) (v0 : Nat) (v1 : Int32) (v2 : Int32) (v3 : Int32) (M : xM) : Option ((Int32 × Int32 × xM) ⊕ (Int32 × xM)) :=
(some (((v3 - (1 : Int32)) &&& v1))).bind fun t8 =>
some (.inl (v2, t8, M))
def F_X12_partsOf_84 (rc : Nat → Int32 → xM → Option (Int32 × xM)) (v0 : Nat) (v1 : Int32) (v3 : Int32) (s0 : Int32) (M : xM) : Option ((Int32 × Int32 × xM) ⊕ (Int32 × xM)) :=
F_X12_partsOf_85 rc v0 v1 s0 v3 M
def F_X12_partsOf_51 (rc : Nat → Int32 → xM → Option (Int32 × xM)) (v0 : Nat) (v1 : Int32) (v2 : Int32) (v3 : Int32) (v4 : Int32) (M : xM) : Option ((Int32 × Int32 × xM) ⊕ (Int32 × xM)) :=
if v4 = 0 then (
(xck M v0 12).bind fun _ =>
(rc v0 (v1 &&& (v3 ^^^ (-1 : Int32))) M).bind fun t6 =>
(some (((1 : Int32) + t6.1))).bind fun t7 =>
if t7 ≤ v2 then (
F_X12_partsOf_84 rc v0 v1 v3 v2 t6.2)
else (
F_X12_partsOf_84 rc v0 v1 v3 t7 t6.2))
else (
F_X12_partsOf_85 rc v0 v1 v2 v3 M)
def F_X12_partsOf_14b (rc : Nat → Int32 → xM → Option (Int32 × xM)) (v0 : Nat) (v1 : Int32) (v2 : Int32) (v3 : Int32) : (Int32 × Int32 × xM) → Option ((Int32 × Int32 × xM) ⊕ ((Int32 × Int32 × xM) ⊕ (Int32 × xM))) := fun ⟨v4, v5, M⟩ =>
if (5 : Int32) ≤ v5 then (
(F_X12_partsOf_51 rc v0 v1 v2 v3 v4 M).map Sum.inr)
else (
(F_X12_isIn v3.toInt64 v5 M).bind fun t1 =>
if t1.1 = 0 then (
F_X12_partsOf_42 rc v0 v1 v2 v3 v5 (0 : Int32) v4 t1.2)
else (
(xck t1.2 v0 12).bind fun _ =>
(F_X12_balanceOf v0 v5 t1.2).bind fun t3 =>
F_X12_partsOf_42 rc v0 v1 v2 v3 v5 t3.1 v4 t3.2))
def F_X12_partsOf_14 (rc : Nat → Int32 → xM → Option (Int32 × xM)) (v0 : Nat) (v1 : Int32) (v2 : Int32) (v3 : Int32) (v4 : Int32) (v5 : Int32) (M : xM) : Option ((Int32 × Int32 × xM) ⊕ (Int32 × xM)) := xit (F_X12_partsOf_14b rc v0 v1 v2 v3) xFU (v4, v5, M)
def F_X12_partsOf_94 (rc : Nat → Int32 → xM → Option (Int32 × xM)) (v2 : Int32) (M : xM) : Option (Int32 × xM) :=
some (v2, M)
def F_X12_partsOf_4b (rc : Nat → Int32 → xM → Option (Int32 × xM)) (v0 : Nat) (v1 : Int32) : (Int32 × Int32 × xM) → Option ((Int32 × Int32 × xM) ⊕ (Int32 × xM)) := fun ⟨v2, v3, M⟩ =>
if v3 ≤ 0 then (
(F_X12_partsOf_94 rc v2 M).map Sum.inr)
else (
F_X12_partsOf_14 rc v0 v1 v2 v3 (0 : Int32) (0 : Int32) M)
def F_X12_partsOf_4 (rc : Nat → Int32 → xM → Option (Int32 × xM)) (v0 : Nat) (v1 : Int32) (v2 : Int32) (v3 : Int32) (M : xM) : Option (Int32 × xM) := xit (F_X12_partsOf_4b rc v0 v1) xFU (v2, v3, M)
def F_X12_partsOf (rc : Nat → Int32 → xM → Option (Int32 × xM)) (a0 : Nat) (a1 : Int32) (M : xM) : Option (Int32 × xM) :=
F_X12_partsOf_4 rc a0 a1 (0 : Int32) a1 M
def R_X12_partsOf : Nat → Nat → Int32 → xM → Option (Int32 × xM)
  | 0 => fun _ _ _ => none
  | n + 1 => F_X12_partsOf (R_X12_partsOf n)
def F_X12_partsOf_top : Nat → Int32 → xM → Option (Int32 × xM) := R_X12_partsOf 7
def Fx_X12_partsOf (a0 : Nat) (a1 : Int32) (M : xM) : Option (Int32 × xM) := R_X12_partsOf 7 a0 a1 M
set_option maxRecDepth 100000 in
set_option maxHeartbeats 4000000 in
theorem F_X12_partsOf_42_ok {dd : Nat} (hdd : 2 ≤ dd) {rc : Nat → Int32 → xM → Option (Int32 × xM)} (hrc0 : ∀ (κ : xQ) (a0 : Nat) (a1 : Int32) (M : xM) (ro : Int32) (mo : xM), rc a0 a1 M = some (ro, mo) → xC l yX12_partsOf cX12_partsOf 6 (some .int) dd 0 0 κ [.ref (κ.1 + a0), .int a1] M (some (.int ro)) mo) (X : xX p s m args c cX12_partsOf 6 RX12 κ) (hr : meth.sig.returnType = (some .int)) (hlk : meth.locks = false) {ro : Int32} {mo : xM} (v0 : Nat) (v1 : Int32) (v2 : Int32) (v3 : Int32) (v5 : Int32) (s0 : Int32) (s1 : Int32) {W4 : Int32 × Int32 × xM → Prop} (hW4 : ∀ (v2 : Int32) (v3 : Int32) (M : xM), W4 (v2, v3, M) → ∀ (H : Heap) (locs : List Loc) (ls : Array Slot), xO κ s M H locs → lv_has ls 6 [(0, .ref (κ.1 + v0)), (1, .int v1), (2, .int v2), (3, .int v3)] → W p l e (xRm (dd + 1) 0 0) s m args below meth c H locs 0 0 (xQf below args s 0 0 κ (some (.int ro)) mo) (F0 m 4 ls [])) {W14 : Int32 × Int32 × xM → Prop} (hW14 : ∀ (v4 : Int32) (v5 : Int32) (M : xM), W14 (v4, v5, M) → ∀ (H : Heap) (locs : List Loc) (ls : Array Slot), xO κ s M H locs → lv_has ls 6 [(0, .ref (κ.1 + v0)), (1, .int v1), (2, .int v2), (3, .int v3), (4, .int v4), (5, .int v5)] → W p l e (xRm (dd + 1) 0 0) s m args below meth c H locs 0 0 (xQf below args s 0 0 κ (some (.int ro)) mo) (F0 m 14 ls [])) (M : xM) (x : (Int32 × Int32 × xM) ⊕ ((Int32 × Int32 × xM) ⊕ (Int32 × xM))) (h : F_X12_partsOf_42 rc v0 v1 v2 v3 v5 s0 s1 M = some x) (hK : (xKl W14 (xKl W4 (fun o => o = (ro, mo)))) x) (H : Heap) (locs : List Loc) (ls : Array Slot) (O : xO κ s M H locs) (hl : lv_has ls 6 [(0, .ref (κ.1 + v0)), (1, .int v1), (2, .int v2), (3, .int v3), (5, .int v5)]) : W p l e (xRm (dd + 1) 0 0) s m args below meth c H locs 0 0 (xQf below args s 0 0 κ (some (.int ro)) mo) (F0 m 42 ls [.int s0, .int s1]) := by
  unfold F_X12_partsOf_42 at h
  have hx := X.1
  have hb := X.2.1
  refine lv_iadd hx hb dX12_partsOf_42 ?_
  obtain ⟨t4, ht4, h⟩ := Option.bind_eq_some_iff.mp h
  refine xr_top (w := .int t4) (by rw [Option.some.inj ht4]) ?_
  refine lv_istore (lv' := [(4, .int t4), (0, .ref (κ.1 + v0)), (1, .int v1), (2, .int v2), (3, .int v3), (5, .int v5)]) hx hb dX12_partsOf_43 hl (by decide) rfl (fun ls hl => ?_)
  refine lv_iinc (v := (v5 + 1)) (lv' := [(5, .int (v5 + 1)), (4, .int t4), (0, .ref (κ.1 + v0)), (1, .int v1), (2, .int v2), (3, .int v3)]) hx hb dX12_partsOf_45 hl (k := 5) rfl rfl (by decide) rfl (fun ls hl => ?_)
  refine lv_goto (tgt := 14) hx hb dX12_partsOf_48 (by decide) ?_
  rw [← Option.some.inj h] at hK
  exact hW14 t4 (v5 + 1) M hK H locs ls O (lv_sub hl [2, 3, 4, 5, 1, 0] rfl)
set_option maxRecDepth 100000 in
set_option maxHeartbeats 4000000 in
theorem F_X12_partsOf_85_ok {dd : Nat} (hdd : 2 ≤ dd) {rc : Nat → Int32 → xM → Option (Int32 × xM)} (hrc0 : ∀ (κ : xQ) (a0 : Nat) (a1 : Int32) (M : xM) (ro : Int32) (mo : xM), rc a0 a1 M = some (ro, mo) → xC l yX12_partsOf cX12_partsOf 6 (some .int) dd 0 0 κ [.ref (κ.1 + a0), .int a1] M (some (.int ro)) mo) (X : xX p s m args c cX12_partsOf 6 RX12 κ) (hr : meth.sig.returnType = (some .int)) (hlk : meth.locks = false) {ro : Int32} {mo : xM} (v0 : Nat) (v1 : Int32) (v2 : Int32) (v3 : Int32) {W4 : Int32 × Int32 × xM → Prop} (hW4 : ∀ (v2 : Int32) (v3 : Int32) (M : xM), W4 (v2, v3, M) → ∀ (H : Heap) (locs : List Loc) (ls : Array Slot), xO κ s M H locs → lv_has ls 6 [(0, .ref (κ.1 + v0)), (1, .int v1), (2, .int v2), (3, .int v3)] → W p l e (xRm (dd + 1) 0 0) s m args below meth c H locs 0 0 (xQf below args s 0 0 κ (some (.int ro)) mo) (F0 m 4 ls [])) (M : xM) (x : (Int32 × Int32 × xM) ⊕ (Int32 × xM)) (h : F_X12_partsOf_85 rc v0 v1 v2 v3 M = some x) (hK : (xKl W4 (fun o => o = (ro, mo))) x) (H : Heap) (locs : List Loc) (ls : Array Slot) (O : xO κ s M H locs) (hl : lv_has ls 6 [(0, .ref (κ.1 + v0)), (1, .int v1), (2, .int v2), (3, .int v3)]) : W p l e (xRm (dd + 1) 0 0) s m args below meth c H locs 0 0 (xQf below args s 0 0 κ (some (.int ro)) mo) (F0 m 85 ls []) := by
  unfold F_X12_partsOf_85 at h
  have hx := X.1
  have hb := X.2.1
  refine lv_iload_n hx hb dX12_partsOf_85 rfl (lv_at hl 3 rfl) ?_
  refine lv_iconst (v := (1 : Int32)) hx hb dX12_partsOf_86 (by decide) ?_
  refine lv_isub hx hb dX12_partsOf_87 ?_
  refine lv_iload_n hx hb dX12_partsOf_88 rfl (lv_at hl 1 rfl) ?_
  refine lv_iand hx hb dX12_partsOf_89 ?_
  obtain ⟨t8, ht8, h⟩ := Option.bind_eq_some_iff.mp h
  refine xr_top (w := .int t8) (by rw [Option.some.inj ht8]) ?_
  refine lv_istore_n (lv' := [(3, .int t8), (0, .ref (κ.1 + v0)), (1, .int v1), (2, .int v2)]) hx hb dX12_partsOf_90 rfl hl (by decide) rfl (fun ls hl => ?_)
  refine lv_goto (tgt := 4) hx hb dX12_partsOf_91 (by decide) ?_
  rw [← Option.some.inj h] at hK
  exact hW4 v2 t8 M hK H locs ls O (lv_sub hl [1, 2, 3, 0] rfl)
set_option maxRecDepth 100000 in
set_option maxHeartbeats 4000000 in
theorem F_X12_partsOf_84_ok {dd : Nat} (hdd : 2 ≤ dd) {rc : Nat → Int32 → xM → Option (Int32 × xM)} (hrc0 : ∀ (κ : xQ) (a0 : Nat) (a1 : Int32) (M : xM) (ro : Int32) (mo : xM), rc a0 a1 M = some (ro, mo) → xC l yX12_partsOf cX12_partsOf 6 (some .int) dd 0 0 κ [.ref (κ.1 + a0), .int a1] M (some (.int ro)) mo) (X : xX p s m args c cX12_partsOf 6 RX12 κ) (hr : meth.sig.returnType = (some .int)) (hlk : meth.locks = false) {ro : Int32} {mo : xM} (v0 : Nat) (v1 : Int32) (v3 : Int32) (s0 : Int32) {W4 : Int32 × Int32 × xM → Prop} (hW4 : ∀ (v2 : Int32) (v3 : Int32) (M : xM), W4 (v2, v3, M) → ∀ (H : Heap) (locs : List Loc) (ls : Array Slot), xO κ s M H locs → lv_has ls 6 [(0, .ref (κ.1 + v0)), (1, .int v1), (2, .int v2), (3, .int v3)] → W p l e (xRm (dd + 1) 0 0) s m args below meth c H locs 0 0 (xQf below args s 0 0 κ (some (.int ro)) mo) (F0 m 4 ls [])) (M : xM) (x : (Int32 × Int32 × xM) ⊕ (Int32 × xM)) (h : F_X12_partsOf_84 rc v0 v1 v3 s0 M = some x) (hK : (xKl W4 (fun o => o = (ro, mo))) x) (H : Heap) (locs : List Loc) (ls : Array Slot) (O : xO κ s M H locs) (hl : lv_has ls 6 [(0, .ref (κ.1 + v0)), (1, .int v1), (3, .int v3)]) : W p l e (xRm (dd + 1) 0 0) s m args below meth c H locs 0 0 (xQf below args s 0 0 κ (some (.int ro)) mo) (F0 m 84 ls [.int s0]) := by
  unfold F_X12_partsOf_84 at h
  have hx := X.1
  have hb := X.2.1
  refine lv_istore_n (lv' := [(2, .int s0), (0, .ref (κ.1 + v0)), (1, .int v1), (3, .int v3)]) hx hb dX12_partsOf_84 rfl hl (by decide) rfl (fun ls hl => ?_)
  exact F_X12_partsOf_85_ok hdd hrc0 X hr hlk v0 v1 s0 v3 hW4 M _ h hK H locs ls O (lv_sub hl [1, 2, 0, 3] rfl)
set_option maxRecDepth 100000 in
set_option maxHeartbeats 4000000 in
theorem F_X12_partsOf_51_ok {dd : Nat} (hdd : 2 ≤ dd) {rc : Nat → Int32 → xM → Option (Int32 × xM)} (hrc0 : ∀ (κ : xQ) (a0 : Nat) (a1 : Int32) (M : xM) (ro : Int32) (mo : xM), rc a0 a1 M = some (ro, mo) → xC l yX12_partsOf cX12_partsOf 6 (some .int) dd 0 0 κ [.ref (κ.1 + a0), .int a1] M (some (.int ro)) mo) (X : xX p s m args c cX12_partsOf 6 RX12 κ) (hr : meth.sig.returnType = (some .int)) (hlk : meth.locks = false) {ro : Int32} {mo : xM} (v0 : Nat) (v1 : Int32) (v2 : Int32) (v3 : Int32) (v4 : Int32) {W4 : Int32 × Int32 × xM → Prop} (hW4 : ∀ (v2 : Int32) (v3 : Int32) (M : xM), W4 (v2, v3, M) → ∀ (H : Heap) (locs : List Loc) (ls : Array Slot), xO κ s M H locs → lv_has ls 6 [(0, .ref (κ.1 + v0)), (1, .int v1), (2, .int v2), (3, .int v3)] → W p l e (xRm (dd + 1) 0 0) s m args below meth c H locs 0 0 (xQf below args s 0 0 κ (some (.int ro)) mo) (F0 m 4 ls [])) (M : xM) (x : (Int32 × Int32 × xM) ⊕ (Int32 × xM)) (h : F_X12_partsOf_51 rc v0 v1 v2 v3 v4 M = some x) (hK : (xKl W4 (fun o => o = (ro, mo))) x) (H : Heap) (locs : List Loc) (ls : Array Slot) (O : xO κ s M H locs) (hl : lv_has ls 6 [(0, .ref (κ.1 + v0)), (1, .int v1), (2, .int v2), (3, .int v3), (4, .int v4)]) : W p l e (xRm (dd + 1) 0 0) s m args below meth c H locs 0 0 (xQf below args s 0 0 κ (some (.int ro)) mo) (F0 m 51 ls []) := by
  unfold F_X12_partsOf_51 at h
  have hx := X.1
  have hb := X.2.1
  refine lv_iload hx hb dX12_partsOf_51 (lv_at hl 4 rfl) ?_
  refine lv_if_eq (tgt := 59) hx hb dX12_partsOf_53 (by decide) (fun hc53 => ?_) (fun hc53 => ?_)
  · rw [if_pos hc53] at h
    refine lv_iconst (v := (1 : Int32)) hx hb dX12_partsOf_59 (by decide) ?_
    refine lv_aload_n hx hb dX12_partsOf_60 rfl (lv_at hl 0 rfl) ?_
    refine lv_iload_n hx hb dX12_partsOf_61 rfl (lv_at hl 1 rfl) ?_
    refine lv_iload_n hx hb dX12_partsOf_62 rfl (lv_at hl 3 rfl) ?_
    refine lv_iconst (v := (-1 : Int32)) hx hb dX12_partsOf_63 (by decide) ?_
    refine lv_ixor hx hb dX12_partsOf_64 ?_
    refine lv_iand hx hb dX12_partsOf_65 ?_
    obtain ⟨_, hut5, h⟩ := Option.bind_eq_some_iff.mp h
    obtain ⟨t6, ht6, h⟩ := Option.bind_eq_some_iff.mp h
    refine xr_callV (rest := [.int (1 : Int32)]) X O (hrc0 κ v0 (v1 &&& (v3 ^^^ (-1 : Int32))) M _ _ ht6) lk_X12_428 hut5 (Nat.le_refl _) rfl hl.1 rfl (Nat.le_of_ble_eq_true rfl) dX12_partsOf_66 ⟨Nat.le_of_ble_eq_true rfl, Nat.le_of_ble_eq_true rfl⟩ (fun H locs O => ?_)
    refine W.eq (g2 := F0 m 69 ls [.int t6.1, .int (1 : Int32)]) rfl ?_
    refine lv_iadd hx hb dX12_partsOf_69 ?_
    obtain ⟨t7, ht7, h⟩ := Option.bind_eq_some_iff.mp h
    refine xr_top (w := .int t7) (by rw [Option.some.inj ht7]) ?_
    refine lv_istore (lv' := [(5, .int t7), (0, .ref (κ.1 + v0)), (1, .int v1), (2, .int v2), (3, .int v3), (4, .int v4)]) hx hb dX12_partsOf_70 hl (by decide) rfl (fun ls hl => ?_)
    refine lv_iload hx hb dX12_partsOf_72 (lv_at hl 0 rfl) ?_
    refine lv_iload_n hx hb dX12_partsOf_74 rfl (lv_at hl 3 rfl) ?_
    refine lv_icmp_le (tgt := 83) hx hb dX12_partsOf_75 (by decide) (fun hc75 => ?_) (fun hc75 => ?_)
    · rw [if_pos hc75] at h
      refine lv_iload_n hx hb dX12_partsOf_83 rfl (lv_at hl 3 rfl) ?_
      exact F_X12_partsOf_84_ok hdd hrc0 X hr hlk v0 v1 v3 v2 hW4 t6.2 _ h hK H locs ls O (lv_sub hl [1, 2, 4] rfl)
    rw [if_neg hc75] at h
    refine lv_iload hx hb dX12_partsOf_78 (lv_at hl 0 rfl) ?_
    refine lv_goto (tgt := 84) hx hb dX12_partsOf_80 (by decide) ?_
    exact F_X12_partsOf_84_ok hdd hrc0 X hr hlk v0 v1 v3 t7 hW4 t6.2 _ h hK H locs ls O (lv_sub hl [1, 2, 4] rfl)
  rw [if_neg hc53] at h
  refine lv_goto (tgt := 85) hx hb dX12_partsOf_56 (by decide) ?_
  exact F_X12_partsOf_85_ok hdd hrc0 X hr hlk v0 v1 v2 v3 hW4 M _ h hK H locs ls O (lv_sub hl [0, 1, 2, 3] rfl)
set_option maxRecDepth 100000 in
set_option maxHeartbeats 4000000 in
theorem F_X12_partsOf_14_bok {dd : Nat} (hdd : 2 ≤ dd) {rc : Nat → Int32 → xM → Option (Int32 × xM)} (hrc0 : ∀ (κ : xQ) (a0 : Nat) (a1 : Int32) (M : xM) (ro : Int32) (mo : xM), rc a0 a1 M = some (ro, mo) → xC l yX12_partsOf cX12_partsOf 6 (some .int) dd 0 0 κ [.ref (κ.1 + a0), .int a1] M (some (.int ro)) mo) (X : xX p s m args c cX12_partsOf 6 RX12 κ) (hr : meth.sig.returnType = (some .int)) (hlk : meth.locks = false) {ro : Int32} {mo : xM} (v0 : Nat) (v1 : Int32) (v2 : Int32) (v3 : Int32) (v4 : Int32) (v5 : Int32) {W4 : Int32 × Int32 × xM → Prop} (hW4 : ∀ (v2 : Int32) (v3 : Int32) (M : xM), W4 (v2, v3, M) → ∀ (H : Heap) (locs : List Loc) (ls : Array Slot), xO κ s M H locs → lv_has ls 6 [(0, .ref (κ.1 + v0)), (1, .int v1), (2, .int v2), (3, .int v3)] → W p l e (xRm (dd + 1) 0 0) s m args below meth c H locs 0 0 (xQf below args s 0 0 κ (some (.int ro)) mo) (F0 m 4 ls [])) {W14 : Int32 × Int32 × xM → Prop} (hW14 : ∀ (v4 : Int32) (v5 : Int32) (M : xM), W14 (v4, v5, M) → ∀ (H : Heap) (locs : List Loc) (ls : Array Slot), xO κ s M H locs → lv_has ls 6 [(0, .ref (κ.1 + v0)), (1, .int v1), (2, .int v2), (3, .int v3), (4, .int v4), (5, .int v5)] → W p l e (xRm (dd + 1) 0 0) s m args below meth c H locs 0 0 (xQf below args s 0 0 κ (some (.int ro)) mo) (F0 m 14 ls [])) (M : xM) (x : (Int32 × Int32 × xM) ⊕ ((Int32 × Int32 × xM) ⊕ (Int32 × xM))) (h : F_X12_partsOf_14b rc v0 v1 v2 v3 (v4, v5, M) = some x) (hK : (xKl W14 (xKl W4 (fun o => o = (ro, mo)))) x) (H : Heap) (locs : List Loc) (ls : Array Slot) (O : xO κ s M H locs) (hl : lv_has ls 6 [(0, .ref (κ.1 + v0)), (1, .int v1), (2, .int v2), (3, .int v3), (4, .int v4), (5, .int v5)]) : W p l e (xRm (dd + 1) 0 0) s m args below meth c H locs 0 0 (xQf below args s 0 0 κ (some (.int ro)) mo) (F0 m 14 ls []) := by
  unfold F_X12_partsOf_14b at h
  dsimp only at h
  have hx := X.1
  have hb := X.2.1
  refine lv_iload hx hb dX12_partsOf_14 (lv_at hl 5 rfl) ?_
  refine lv_iconst (v := (5 : Int32)) hx hb dX12_partsOf_16 (by decide) ?_
  refine lv_icmp_ge (tgt := 51) hx hb dX12_partsOf_17 (by decide) (fun hc17 => ?_) (fun hc17 => ?_)
  · rw [if_pos hc17] at h
    obtain ⟨_, hw0, ew0⟩ := Option.map_eq_some_iff.mp h
    rw [← ew0] at hK
    have h := hw0
    exact F_X12_partsOf_51_ok hdd hrc0 X hr hlk v0 v1 v2 v3 v4 hW4 M _ h hK H locs ls O (lv_sub hl [0, 1, 2, 3, 4] rfl)
  rw [if_neg hc17] at h
  refine lv_iload hx hb dX12_partsOf_20 (lv_at hl 4 rfl) ?_
  refine lv_iload_n hx hb dX12_partsOf_22 rfl (lv_at hl 3 rfl) ?_
  refine lv_i2l (v := v3.toInt64) hx hb dX12_partsOf_23 rfl ?_
  refine lv_iload hx hb dX12_partsOf_24 (lv_at hl 5 rfl) ?_
  obtain ⟨t1, ht1, h⟩ := Option.bind_eq_some_iff.mp h
  refine xr_callS (rest := [.int v4]) X O (T_X12_isIn l κ v3.toInt64 v5 M _ _ ht1) lk_X12_253 (by omega) rfl hl.1 rfl (Nat.le_of_ble_eq_true rfl) dX12_partsOf_26 ⟨Nat.le_of_ble_eq_true rfl, Nat.le_of_ble_eq_true rfl⟩ (fun H locs O => ?_)
  refine W.eq (g2 := F0 m 29 ls [.int t1.1, .int v4]) rfl ?_
  refine lv_if_eq (tgt := 41) hx hb dX12_partsOf_29 (by decide) (fun hc29 => ?_) (fun hc29 => ?_)
  · rw [if_pos hc29] at h
    refine lv_iconst (v := (0 : Int32)) hx hb dX12_partsOf_41 (by decide) ?_
    exact F_X12_partsOf_42_ok hdd hrc0 X hr hlk v0 v1 v2 v3 v5 (0 : Int32) v4 hW4 hW14 t1.2 _ h hK H locs ls O (lv_sub hl [0, 1, 2, 3, 5] rfl)
  rw [if_neg hc29] at h
  refine lv_aload_n hx hb dX12_partsOf_32 rfl (lv_at hl 0 rfl) ?_
  refine lv_iload hx hb dX12_partsOf_33 (lv_at hl 5 rfl) ?_
  obtain ⟨_, hut2, h⟩ := Option.bind_eq_some_iff.mp h
  obtain ⟨t3, ht3, h⟩ := Option.bind_eq_some_iff.mp h
  refine xr_callV (rest := [.int v4]) X O (T_X12_balanceOf l κ v0 v5 t1.2 _ _ ht3) lk_X12_424 hut2 (by omega) rfl hl.1 rfl (Nat.le_of_ble_eq_true rfl) dX12_partsOf_35 ⟨Nat.le_of_ble_eq_true rfl, Nat.le_of_ble_eq_true rfl⟩ (fun H locs O => ?_)
  refine W.eq (g2 := F0 m 38 ls [.int t3.1, .int v4]) rfl ?_
  refine lv_goto (tgt := 42) hx hb dX12_partsOf_38 (by decide) ?_
  exact F_X12_partsOf_42_ok hdd hrc0 X hr hlk v0 v1 v2 v3 v5 t3.1 v4 hW4 hW14 t3.2 _ h hK H locs ls O (lv_sub hl [0, 1, 2, 3, 5] rfl)
set_option maxRecDepth 100000 in
set_option maxHeartbeats 4000000 in
theorem F_X12_partsOf_14_ok {dd : Nat} (hdd : 2 ≤ dd) {rc : Nat → Int32 → xM → Option (Int32 × xM)} (hrc0 : ∀ (κ : xQ) (a0 : Nat) (a1 : Int32) (M : xM) (ro : Int32) (mo : xM), rc a0 a1 M = some (ro, mo) → xC l yX12_partsOf cX12_partsOf 6 (some .int) dd 0 0 κ [.ref (κ.1 + a0), .int a1] M (some (.int ro)) mo) (X : xX p s m args c cX12_partsOf 6 RX12 κ) (hr : meth.sig.returnType = (some .int)) (hlk : meth.locks = false) {ro : Int32} {mo : xM} (v0 : Nat) (v1 : Int32) (v2 : Int32) (v3 : Int32) (v4 : Int32) (v5 : Int32) {W4 : Int32 × Int32 × xM → Prop} (hW4 : ∀ (v2 : Int32) (v3 : Int32) (M : xM), W4 (v2, v3, M) → ∀ (H : Heap) (locs : List Loc) (ls : Array Slot), xO κ s M H locs → lv_has ls 6 [(0, .ref (κ.1 + v0)), (1, .int v1), (2, .int v2), (3, .int v3)] → W p l e (xRm (dd + 1) 0 0) s m args below meth c H locs 0 0 (xQf below args s 0 0 κ (some (.int ro)) mo) (F0 m 4 ls [])) (M : xM) (x : (Int32 × Int32 × xM) ⊕ (Int32 × xM)) (h : F_X12_partsOf_14 rc v0 v1 v2 v3 v4 v5 M = some x) (hK : (xKl W4 (fun o => o = (ro, mo))) x) (H : Heap) (locs : List Loc) (ls : Array Slot) (O : xO κ s M H locs) (hl : lv_has ls 6 [(0, .ref (κ.1 + v0)), (1, .int v1), (2, .int v2), (3, .int v3), (4, .int v4), (5, .int v5)]) : W p l e (xRm (dd + 1) 0 0) s m args below meth c H locs 0 0 (xQf below args s 0 0 κ (some (.int ro)) mo) (F0 m 14 ls []) := by
  refine xit_K (Wh := fun x => ∀ (H : Heap) (locs : List Loc) (ls : Array Slot), xO κ s x.2.2 H locs → lv_has ls 6 [(0, .ref (κ.1 + v0)), (1, .int v1), (2, .int v2), (3, .int v3), (4, .int x.1), (5, .int x.2.1)] → W p l e (xRm (dd + 1) 0 0) s m args below meth c H locs 0 0 (xQf below args s 0 0 κ (some (.int ro)) mo) (F0 m 14 ls [])) (Kp := (xKl W4 (fun o => o = (ro, mo)))) ?_ xFU (v4, v5, M) x h hK H locs ls O hl
  intro y x h hK H locs ls O hl
  exact F_X12_partsOf_14_bok hdd hrc0 X hr hlk v0 v1 v2 v3 y.1 y.2.1 hW4 (fun _ _ _ hw => hw) y.2.2 x h hK H locs ls O hl
set_option maxRecDepth 100000 in
set_option maxHeartbeats 4000000 in
theorem F_X12_partsOf_94_ok {dd : Nat} (hdd : 2 ≤ dd) {rc : Nat → Int32 → xM → Option (Int32 × xM)} (hrc0 : ∀ (κ : xQ) (a0 : Nat) (a1 : Int32) (M : xM) (ro : Int32) (mo : xM), rc a0 a1 M = some (ro, mo) → xC l yX12_partsOf cX12_partsOf 6 (some .int) dd 0 0 κ [.ref (κ.1 + a0), .int a1] M (some (.int ro)) mo) (X : xX p s m args c cX12_partsOf 6 RX12 κ) (hr : meth.sig.returnType = (some .int)) (hlk : meth.locks = false) {ro : Int32} {mo : xM} (v2 : Int32) (M : xM) (x : Int32 × xM) (h : F_X12_partsOf_94 rc v2 M = some x) (hK : (fun o => o = (ro, mo)) x) (H : Heap) (locs : List Loc) (ls : Array Slot) (O : xO κ s M H locs) (hl : lv_has ls 6 [(2, .int v2)]) : W p l e (xRm (dd + 1) 0 0) s m args below meth c H locs 0 0 (xQf below args s 0 0 κ (some (.int ro)) mo) (F0 m 94 ls []) := by
  unfold F_X12_partsOf_94 at h
  have hx := X.1
  have hb := X.2.1
  refine lv_iload_n hx hb dX12_partsOf_94 rfl (lv_at hl 0 rfl) ?_
  rw [← Option.some.inj h] at hK
  have hK : (v2, M) = (ro, mo) := hK
  obtain ⟨hK1, hK2⟩ := Prod.mk.inj hK
  rw [hK2] at O
  refine xr_top (w := .int ro) (by rw [hK1]) ?_
  exact xr_iret X hr hlk O dX12_partsOf_95
set_option maxRecDepth 100000 in
set_option maxHeartbeats 4000000 in
theorem F_X12_partsOf_4_bok {dd : Nat} (hdd : 2 ≤ dd) {rc : Nat → Int32 → xM → Option (Int32 × xM)} (hrc0 : ∀ (κ : xQ) (a0 : Nat) (a1 : Int32) (M : xM) (ro : Int32) (mo : xM), rc a0 a1 M = some (ro, mo) → xC l yX12_partsOf cX12_partsOf 6 (some .int) dd 0 0 κ [.ref (κ.1 + a0), .int a1] M (some (.int ro)) mo) (X : xX p s m args c cX12_partsOf 6 RX12 κ) (hr : meth.sig.returnType = (some .int)) (hlk : meth.locks = false) {ro : Int32} {mo : xM} (v0 : Nat) (v1 : Int32) (v2 : Int32) (v3 : Int32) {W4 : Int32 × Int32 × xM → Prop} (hW4 : ∀ (v2 : Int32) (v3 : Int32) (M : xM), W4 (v2, v3, M) → ∀ (H : Heap) (locs : List Loc) (ls : Array Slot), xO κ s M H locs → lv_has ls 6 [(0, .ref (κ.1 + v0)), (1, .int v1), (2, .int v2), (3, .int v3)] → W p l e (xRm (dd + 1) 0 0) s m args below meth c H locs 0 0 (xQf below args s 0 0 κ (some (.int ro)) mo) (F0 m 4 ls [])) (M : xM) (x : (Int32 × Int32 × xM) ⊕ (Int32 × xM)) (h : F_X12_partsOf_4b rc v0 v1 (v2, v3, M) = some x) (hK : (xKl W4 (fun o => o = (ro, mo))) x) (H : Heap) (locs : List Loc) (ls : Array Slot) (O : xO κ s M H locs) (hl : lv_has ls 6 [(0, .ref (κ.1 + v0)), (1, .int v1), (2, .int v2), (3, .int v3)]) : W p l e (xRm (dd + 1) 0 0) s m args below meth c H locs 0 0 (xQf below args s 0 0 κ (some (.int ro)) mo) (F0 m 4 ls []) := by
  unfold F_X12_partsOf_4b at h
  dsimp only at h
  have hx := X.1
  have hb := X.2.1
  refine lv_iload_n hx hb dX12_partsOf_4 rfl (lv_at hl 3 rfl) ?_
  refine lv_if_le (tgt := 94) hx hb dX12_partsOf_5 (by decide) (fun hc5 => ?_) (fun hc5 => ?_)
  · rw [if_pos hc5] at h
    obtain ⟨_, hw0, ew0⟩ := Option.map_eq_some_iff.mp h
    rw [← ew0] at hK
    have h := hw0
    exact F_X12_partsOf_94_ok hdd hrc0 X hr hlk v2 M _ h hK H locs ls O (lv_sub hl [2] rfl)
  rw [if_neg hc5] at h
  refine lv_iconst (v := (0 : Int32)) hx hb dX12_partsOf_8 (by decide) ?_
  refine lv_istore (lv' := [(4, .int (0 : Int32)), (0, .ref (κ.1 + v0)), (1, .int v1), (2, .int v2), (3, .int v3)]) hx hb dX12_partsOf_9 hl (by decide) rfl (fun ls hl => ?_)
  refine lv_iconst (v := (0 : Int32)) hx hb dX12_partsOf_11 (by decide) ?_
  refine lv_istore (lv' := [(5, .int (0 : Int32)), (4, .int (0 : Int32)), (0, .ref (κ.1 + v0)), (1, .int v1), (2, .int v2), (3, .int v3)]) hx hb dX12_partsOf_12 hl (by decide) rfl (fun ls hl => ?_)
  exact F_X12_partsOf_14_ok hdd hrc0 X hr hlk v0 v1 v2 v3 (0 : Int32) (0 : Int32) hW4 M _ h hK H locs ls O (lv_sub hl [2, 3, 4, 5, 1, 0] rfl)
set_option maxRecDepth 100000 in
set_option maxHeartbeats 4000000 in
theorem F_X12_partsOf_4_ok {dd : Nat} (hdd : 2 ≤ dd) {rc : Nat → Int32 → xM → Option (Int32 × xM)} (hrc0 : ∀ (κ : xQ) (a0 : Nat) (a1 : Int32) (M : xM) (ro : Int32) (mo : xM), rc a0 a1 M = some (ro, mo) → xC l yX12_partsOf cX12_partsOf 6 (some .int) dd 0 0 κ [.ref (κ.1 + a0), .int a1] M (some (.int ro)) mo) (X : xX p s m args c cX12_partsOf 6 RX12 κ) (hr : meth.sig.returnType = (some .int)) (hlk : meth.locks = false) {ro : Int32} {mo : xM} (v0 : Nat) (v1 : Int32) (v2 : Int32) (v3 : Int32) (M : xM) (x : Int32 × xM) (h : F_X12_partsOf_4 rc v0 v1 v2 v3 M = some x) (hK : (fun o => o = (ro, mo)) x) (H : Heap) (locs : List Loc) (ls : Array Slot) (O : xO κ s M H locs) (hl : lv_has ls 6 [(0, .ref (κ.1 + v0)), (1, .int v1), (2, .int v2), (3, .int v3)]) : W p l e (xRm (dd + 1) 0 0) s m args below meth c H locs 0 0 (xQf below args s 0 0 κ (some (.int ro)) mo) (F0 m 4 ls []) := by
  refine xit_K (Wh := fun x => ∀ (H : Heap) (locs : List Loc) (ls : Array Slot), xO κ s x.2.2 H locs → lv_has ls 6 [(0, .ref (κ.1 + v0)), (1, .int v1), (2, .int x.1), (3, .int x.2.1)] → W p l e (xRm (dd + 1) 0 0) s m args below meth c H locs 0 0 (xQf below args s 0 0 κ (some (.int ro)) mo) (F0 m 4 ls [])) (Kp := (fun o => o = (ro, mo))) ?_ xFU (v2, v3, M) x h hK H locs ls O hl
  intro y x h hK H locs ls O hl
  exact F_X12_partsOf_4_bok hdd hrc0 X hr hlk v0 v1 y.1 y.2.1 (fun _ _ _ hw => hw) y.2.2 x h hK H locs ls O hl
set_option maxRecDepth 100000 in
set_option maxHeartbeats 4000000 in
theorem To_X12_partsOf (l : Launch) {dd : Nat} (hdd : 2 ≤ dd) {rc : Nat → Int32 → xM → Option (Int32 × xM)} (hrc0 : ∀ (κ : xQ) (a0 : Nat) (a1 : Int32) (M : xM) (ro : Int32) (mo : xM), rc a0 a1 M = some (ro, mo) → xC l yX12_partsOf cX12_partsOf 6 (some .int) dd 0 0 κ [.ref (κ.1 + a0), .int a1] M (some (.int ro)) mo) (κ : xQ) (a0 : Nat) (a1 : Int32) (M : xM) (ro : Int32) (mo : xM) (h : F_X12_partsOf rc a0 a1 M = some (ro, mo)) : xC l yX12_partsOf cX12_partsOf 6 (some .int) (dd + 1) 0 0 κ [.ref (κ.1 + a0), .int a1] M (some (.int ro)) mo := by
  refine xC_of rfl (Nat.le_of_ble_eq_true rfl) fun p e s m args below meth c X hr hlk hnm H locs ls O hl => ?_
  have X : xX p s m args c cX12_partsOf 6 RX12 κ := X
  have hl : lv_has ls 6 [(0, .ref (κ.1 + a0)), (1, .int a1)] := hl
  have hx := X.1
  have hb := X.2.1
  obtain ⟨x, hx0⟩ : ∃ x, (ro, mo) = x := ⟨_, rfl⟩
  rw [hx0] at h
  have hK : x = (ro, mo) := hx0.symm
  unfold F_X12_partsOf at h
  refine lv_iconst (v := (0 : Int32)) hx hb dX12_partsOf_0 (by decide) ?_
  refine lv_istore_n (lv' := [(2, .int (0 : Int32)), (0, .ref (κ.1 + a0)), (1, .int a1)]) hx hb dX12_partsOf_1 rfl hl (by decide) rfl (fun ls hl => ?_)
  refine lv_iload_n hx hb dX12_partsOf_2 rfl (lv_at hl 2 rfl) ?_
  refine lv_istore_n (lv' := [(3, .int a1), (2, .int (0 : Int32)), (0, .ref (κ.1 + a0)), (1, .int a1)]) hx hb dX12_partsOf_3 rfl hl (by decide) rfl (fun ls hl => ?_)
  exact F_X12_partsOf_4_ok hdd hrc0 X hr hlk a0 a1 (0 : Int32) a1 M _ h hK H locs ls O (lv_sub hl [2, 3, 1, 0] rfl)
set_option maxRecDepth 100000 in
set_option maxHeartbeats 4000000 in
theorem K_X12_partsOf (l : Launch) : ∀ n : Nat, (∀ (κ : xQ) (a0 : Nat) (a1 : Int32) (M : xM) (ro : Int32) (mo : xM), R_X12_partsOf n a0 a1 M = some (ro, mo) → xC l yX12_partsOf cX12_partsOf 6 (some .int) (2 + n) 0 0 κ [.ref (κ.1 + a0), .int a1] M (some (.int ro)) mo) := by
  intro n
  induction n with
  | zero => exact fun κ a0 a1 M ro mo h => (by cases h)
  | succ n h0 => exact fun κ a0 a1 M ro mo h => To_X12_partsOf l (dd := 2 + n) (Nat.le_add_right _ _) h0 κ a0 a1 M ro mo h
set_option maxRecDepth 100000 in
set_option maxHeartbeats 4000000 in
theorem Tx_X12_partsOf (l : Launch) (κ : xQ) (a0 : Nat) (a1 : Int32) (M : xM) (ro : Int32) (mo : xM) (h : Fx_X12_partsOf a0 a1 M = some (ro, mo)) : xC l yX12_partsOf cX12_partsOf 6 (some .int) 9 0 0 κ [.ref (κ.1 + a0), .int a1] M (some (.int ro)) mo := (K_X12_partsOf l 7) κ a0 a1 M ro mo h
def F_X12_payments_30 (v0 : Nat) (v2 : Int32) (s0 : Int32) (s1 : Int32) (M : xM) : Option ((Int32 × Int32 × xM) ⊕ (Int32 × xM)) :=
(some ((s1 ||| s0))).bind fun t7 =>
some (.inl (t7, (v2 + 1), M))
def F_X12_payments_38 (v0 : Nat) (v1 : Int32) (M : xM) : Option (Int32 × xM) :=
(F_X12_bitsOf v1 M).bind fun t4 =>
(xck t4.2 v0 12).bind fun _ =>
(Fx_X12_partsOf v0 v1 t4.2).bind fun t6 =>
some ((t4.1 - t6.1), t6.2)
def F_X12_payments_9b (v0 : Nat) : (Int32 × Int32 × xM) → Option ((Int32 × Int32 × xM) ⊕ (Int32 × xM)) := fun ⟨v1, v2, M⟩ =>
if (5 : Int32) ≤ v2 then (
(F_X12_payments_38 v0 v1 M).map Sum.inr)
else (
(xck M v0 12).bind fun _ =>
(F_X12_balanceOf v0 v2 M).bind fun t3 =>
if t3.1 = 0 then (
F_X12_payments_30 v0 v2 (0 : Int32) v1 t3.2)
else (
F_X12_payments_30 v0 v2 ((1 : Int32) <<< (v2 &&& 31)) v1 t3.2))
def F_X12_payments_9 (v0 : Nat) (v1 : Int32) (v2 : Int32) (M : xM) : Option (Int32 × xM) := xit (F_X12_payments_9b v0) xFU (v1, v2, M)
def F_X12_payments (a0 : Nat) (M : xM) : Option (Int32 × xM) :=
(xpI M a0 12 0 (0 : Int32)).bind fun t1 =>
F_X12_payments_9 a0 (0 : Int32) (0 : Int32) t1
set_option maxRecDepth 100000 in
set_option maxHeartbeats 4000000 in
theorem F_X12_payments_30_ok (X : xX p s m args c cX12_payments 3 RX12 κ) (hr : meth.sig.returnType = (some .int)) (hlk : meth.locks = false) {ro : Int32} {mo : xM} (v0 : Nat) (v2 : Int32) (s0 : Int32) (s1 : Int32) {W9 : Int32 × Int32 × xM → Prop} (hW9 : ∀ (v1 : Int32) (v2 : Int32) (M : xM), W9 (v1, v2, M) → ∀ (H : Heap) (locs : List Loc) (ls : Array Slot), xO κ s M H locs → lv_has ls 3 [(0, .ref (κ.1 + v0)), (1, .int v1), (2, .int v2)] → W p l e (xRm 10 0 0) s m args below meth c H locs 0 0 (xQf below args s 0 0 κ (some (.int ro)) mo) (F0 m 9 ls [])) (M : xM) (x : (Int32 × Int32 × xM) ⊕ (Int32 × xM)) (h : F_X12_payments_30 v0 v2 s0 s1 M = some x) (hK : (xKl W9 (fun o => o = (ro, mo))) x) (H : Heap) (locs : List Loc) (ls : Array Slot) (O : xO κ s M H locs) (hl : lv_has ls 3 [(0, .ref (κ.1 + v0)), (2, .int v2)]) : W p l e (xRm 10 0 0) s m args below meth c H locs 0 0 (xQf below args s 0 0 κ (some (.int ro)) mo) (F0 m 30 ls [.int s0, .int s1]) := by
  unfold F_X12_payments_30 at h
  have hx := X.1
  have hb := X.2.1
  refine lv_ior hx hb dX12_payments_30 ?_
  obtain ⟨t7, ht7, h⟩ := Option.bind_eq_some_iff.mp h
  refine xr_top (w := .int t7) (by rw [Option.some.inj ht7]) ?_
  refine lv_istore_n (lv' := [(1, .int t7), (0, .ref (κ.1 + v0)), (2, .int v2)]) hx hb dX12_payments_31 rfl hl (by decide) rfl (fun ls hl => ?_)
  refine lv_iinc (v := (v2 + 1)) (lv' := [(2, .int (v2 + 1)), (1, .int t7), (0, .ref (κ.1 + v0))]) hx hb dX12_payments_32 hl (k := 2) rfl rfl (by decide) rfl (fun ls hl => ?_)
  refine lv_goto (tgt := 9) hx hb dX12_payments_35 (by decide) ?_
  rw [← Option.some.inj h] at hK
  exact hW9 t7 (v2 + 1) M hK H locs ls O (lv_sub hl [2, 1, 0] rfl)
set_option maxRecDepth 100000 in
set_option maxHeartbeats 4000000 in
theorem F_X12_payments_38_ok (X : xX p s m args c cX12_payments 3 RX12 κ) (hr : meth.sig.returnType = (some .int)) (hlk : meth.locks = false) {ro : Int32} {mo : xM} (v0 : Nat) (v1 : Int32) (M : xM) (x : Int32 × xM) (h : F_X12_payments_38 v0 v1 M = some x) (hK : (fun o => o = (ro, mo)) x) (H : Heap) (locs : List Loc) (ls : Array Slot) (O : xO κ s M H locs) (hl : lv_has ls 3 [(0, .ref (κ.1 + v0)), (1, .int v1)]) : W p l e (xRm 10 0 0) s m args below meth c H locs 0 0 (xQf below args s 0 0 κ (some (.int ro)) mo) (F0 m 38 ls []) := by
  unfold F_X12_payments_38 at h
  have hx := X.1
  have hb := X.2.1
  refine lv_iload_n hx hb dX12_payments_38 rfl (lv_at hl 1 rfl) ?_
  obtain ⟨t4, ht4, h⟩ := Option.bind_eq_some_iff.mp h
  refine xr_callS (rest := []) X O (T_X12_bitsOf l κ v1 M _ _ ht4) lk_X12_260 (Nat.le_of_ble_eq_true rfl) rfl hl.1 rfl (Nat.le_of_ble_eq_true rfl) dX12_payments_39 ⟨Nat.le_of_ble_eq_true rfl, Nat.le_of_ble_eq_true rfl⟩ (fun H locs O => ?_)
  refine W.eq (g2 := F0 m 42 ls [.int t4.1]) rfl ?_
  refine lv_aload_n hx hb dX12_payments_42 rfl (lv_at hl 0 rfl) ?_
  refine lv_iload_n hx hb dX12_payments_43 rfl (lv_at hl 1 rfl) ?_
  obtain ⟨_, hut5, h⟩ := Option.bind_eq_some_iff.mp h
  obtain ⟨t6, ht6, h⟩ := Option.bind_eq_some_iff.mp h
  refine xr_callV (rest := [.int t4.1]) X O (Tx_X12_partsOf l κ v0 v1 t4.2 _ _ ht6) lk_X12_428 hut5 (Nat.le_of_ble_eq_true rfl) rfl hl.1 rfl (Nat.le_of_ble_eq_true rfl) dX12_payments_44 ⟨Nat.le_of_ble_eq_true rfl, Nat.le_of_ble_eq_true rfl⟩ (fun H locs O => ?_)
  refine W.eq (g2 := F0 m 47 ls [.int t6.1, .int t4.1]) rfl ?_
  refine lv_isub hx hb dX12_payments_47 ?_
  rw [← Option.some.inj h] at hK
  have hK : ((t4.1 - t6.1), t6.2) = (ro, mo) := hK
  obtain ⟨hK1, hK2⟩ := Prod.mk.inj hK
  rw [hK2] at O
  refine xr_top (w := .int ro) (by rw [hK1]) ?_
  exact xr_iret X hr hlk O dX12_payments_48
set_option maxRecDepth 100000 in
set_option maxHeartbeats 4000000 in
theorem F_X12_payments_9_bok (X : xX p s m args c cX12_payments 3 RX12 κ) (hr : meth.sig.returnType = (some .int)) (hlk : meth.locks = false) {ro : Int32} {mo : xM} (v0 : Nat) (v1 : Int32) (v2 : Int32) {W9 : Int32 × Int32 × xM → Prop} (hW9 : ∀ (v1 : Int32) (v2 : Int32) (M : xM), W9 (v1, v2, M) → ∀ (H : Heap) (locs : List Loc) (ls : Array Slot), xO κ s M H locs → lv_has ls 3 [(0, .ref (κ.1 + v0)), (1, .int v1), (2, .int v2)] → W p l e (xRm 10 0 0) s m args below meth c H locs 0 0 (xQf below args s 0 0 κ (some (.int ro)) mo) (F0 m 9 ls [])) (M : xM) (x : (Int32 × Int32 × xM) ⊕ (Int32 × xM)) (h : F_X12_payments_9b v0 (v1, v2, M) = some x) (hK : (xKl W9 (fun o => o = (ro, mo))) x) (H : Heap) (locs : List Loc) (ls : Array Slot) (O : xO κ s M H locs) (hl : lv_has ls 3 [(0, .ref (κ.1 + v0)), (1, .int v1), (2, .int v2)]) : W p l e (xRm 10 0 0) s m args below meth c H locs 0 0 (xQf below args s 0 0 κ (some (.int ro)) mo) (F0 m 9 ls []) := by
  unfold F_X12_payments_9b at h
  dsimp only at h
  have hx := X.1
  have hb := X.2.1
  refine lv_iload_n hx hb dX12_payments_9 rfl (lv_at hl 2 rfl) ?_
  refine lv_iconst (v := (5 : Int32)) hx hb dX12_payments_10 (by decide) ?_
  refine lv_icmp_ge (tgt := 38) hx hb dX12_payments_11 (by decide) (fun hc11 => ?_) (fun hc11 => ?_)
  · rw [if_pos hc11] at h
    obtain ⟨_, hw0, ew0⟩ := Option.map_eq_some_iff.mp h
    rw [← ew0] at hK
    have h := hw0
    exact F_X12_payments_38_ok X hr hlk v0 v1 M _ h hK H locs ls O (lv_sub hl [0, 1] rfl)
  rw [if_neg hc11] at h
  refine lv_iload_n hx hb dX12_payments_14 rfl (lv_at hl 1 rfl) ?_
  refine lv_aload_n hx hb dX12_payments_15 rfl (lv_at hl 0 rfl) ?_
  refine lv_iload_n hx hb dX12_payments_16 rfl (lv_at hl 2 rfl) ?_
  obtain ⟨_, hut2, h⟩ := Option.bind_eq_some_iff.mp h
  obtain ⟨t3, ht3, h⟩ := Option.bind_eq_some_iff.mp h
  refine xr_callV (rest := [.int v1]) X O (T_X12_balanceOf l κ v0 v2 M _ _ ht3) lk_X12_424 hut2 (Nat.le_of_ble_eq_true rfl) rfl hl.1 rfl (Nat.le_of_ble_eq_true rfl) dX12_payments_17 ⟨Nat.le_of_ble_eq_true rfl, Nat.le_of_ble_eq_true rfl⟩ (fun H locs O => ?_)
  refine W.eq (g2 := F0 m 20 ls [.int t3.1, .int v1]) rfl ?_
  refine lv_if_eq (tgt := 29) hx hb dX12_payments_20 (by decide) (fun hc20 => ?_) (fun hc20 => ?_)
  · rw [if_pos hc20] at h
    refine lv_iconst (v := (0 : Int32)) hx hb dX12_payments_29 (by decide) ?_
    exact F_X12_payments_30_ok X hr hlk v0 v2 (0 : Int32) v1 hW9 t3.2 _ h hK H locs ls O (lv_sub hl [0, 2] rfl)
  rw [if_neg hc20] at h
  refine lv_iconst (v := (1 : Int32)) hx hb dX12_payments_23 (by decide) ?_
  refine lv_iload_n hx hb dX12_payments_24 rfl (lv_at hl 2 rfl) ?_
  refine lv_ishl hx hb dX12_payments_25 ?_
  refine lv_goto (tgt := 30) hx hb dX12_payments_26 (by decide) ?_
  exact F_X12_payments_30_ok X hr hlk v0 v2 ((1 : Int32) <<< (v2 &&& 31)) v1 hW9 t3.2 _ h hK H locs ls O (lv_sub hl [0, 2] rfl)
set_option maxRecDepth 100000 in
set_option maxHeartbeats 4000000 in
theorem F_X12_payments_9_ok (X : xX p s m args c cX12_payments 3 RX12 κ) (hr : meth.sig.returnType = (some .int)) (hlk : meth.locks = false) {ro : Int32} {mo : xM} (v0 : Nat) (v1 : Int32) (v2 : Int32) (M : xM) (x : Int32 × xM) (h : F_X12_payments_9 v0 v1 v2 M = some x) (hK : (fun o => o = (ro, mo)) x) (H : Heap) (locs : List Loc) (ls : Array Slot) (O : xO κ s M H locs) (hl : lv_has ls 3 [(0, .ref (κ.1 + v0)), (1, .int v1), (2, .int v2)]) : W p l e (xRm 10 0 0) s m args below meth c H locs 0 0 (xQf below args s 0 0 κ (some (.int ro)) mo) (F0 m 9 ls []) := by
  refine xit_K (Wh := fun x => ∀ (H : Heap) (locs : List Loc) (ls : Array Slot), xO κ s x.2.2 H locs → lv_has ls 3 [(0, .ref (κ.1 + v0)), (1, .int x.1), (2, .int x.2.1)] → W p l e (xRm 10 0 0) s m args below meth c H locs 0 0 (xQf below args s 0 0 κ (some (.int ro)) mo) (F0 m 9 ls [])) (Kp := (fun o => o = (ro, mo))) ?_ xFU (v1, v2, M) x h hK H locs ls O hl
  intro y x h hK H locs ls O hl
  exact F_X12_payments_9_bok X hr hlk v0 y.1 y.2.1 (fun _ _ _ hw => hw) y.2.2 x h hK H locs ls O hl
set_option maxRecDepth 100000 in
set_option maxHeartbeats 4000000 in
theorem T_X12_payments (l : Launch) (κ : xQ) (a0 : Nat) (M : xM) (ro : Int32) (mo : xM) (h : F_X12_payments a0 M = some (ro, mo)) : xC l yX12_payments cX12_payments 3 (some .int) 10 0 0 κ [.ref (κ.1 + a0)] M (some (.int ro)) mo := by
  refine xC_of rfl (Nat.le_of_ble_eq_true rfl) fun p e s m args below meth c X hr hlk hnm H locs ls O hl => ?_
  have X : xX p s m args c cX12_payments 3 RX12 κ := X
  have hl : lv_has ls 3 [(0, .ref (κ.1 + a0))] := hl
  have hx := X.1
  have hb := X.2.1
  obtain ⟨x, hx0⟩ : ∃ x, (ro, mo) = x := ⟨_, rfl⟩
  rw [hx0] at h
  have hK : x = (ro, mo) := hx0.symm
  unfold F_X12_payments at h
  refine lv_aload_n hx hb dX12_payments_0 rfl (lv_at hl 0 rfl) ?_
  refine lv_iconst (v := (0 : Int32)) hx hb dX12_payments_1 (by decide) ?_
  obtain ⟨t1, ht1, h⟩ := Option.bind_eq_some_iff.mp h
  refine xr_putI X O ht1 fl_X12_1 dX12_payments_2 (fun H locs O => ?_)
  refine lv_iconst (v := (0 : Int32)) hx hb dX12_payments_5 (by decide) ?_
  refine lv_istore_n (lv' := [(1, .int (0 : Int32)), (0, .ref (κ.1 + a0))]) hx hb dX12_payments_6 rfl hl (by decide) rfl (fun ls hl => ?_)
  refine lv_iconst (v := (0 : Int32)) hx hb dX12_payments_7 (by decide) ?_
  refine lv_istore_n (lv' := [(2, .int (0 : Int32)), (1, .int (0 : Int32)), (0, .ref (κ.1 + a0))]) hx hb dX12_payments_8 rfl hl (by decide) rfl (fun ls hl => ?_)
  exact F_X12_payments_9_ok X hr hlk a0 (0 : Int32) (0 : Int32) t1 _ h hK H locs ls O (lv_sub hl [2, 1, 0] rfl)
def F_X12_noLooked_65 (M : xM) : Option (Int32 × xM) :=
some ((-3 : Int32), M)
def F_X12_noLooked_74 (M : xM) : Option (Int32 × xM) :=
some ((0 : Int32), M)
def F_X12_noLooked_34b (v0 : Nat) (v1 : Int32) : (Int32 × xM) → Option ((Int32 × xM) ⊕ (Int32 × xM)) := fun ⟨v3, M⟩ =>
(xgP M v0 12 34).bind fun t6 =>
(xaI M 20 t6 v1).bind fun t7 =>
if t7 ≤ v3 then (
(F_X12_noLooked_74 M).map Sum.inr)
else (
(xgP M v0 12 35).bind fun t8 =>
(xaJ M t8 (((40 : Int32) * v1) + v3)).bind fun t9 =>
(F_X12_within t9 (0 : Int64) (1099 : Int64) M).bind fun t10 =>
if t10.1 = 0 then (
(F_X12_noLooked_65 t10.2).map Sum.inr)
else (
some (.inl ((v3 + 1), t10.2))))
def F_X12_noLooked_34 (v0 : Nat) (v1 : Int32) (v3 : Int32) (M : xM) : Option (Int32 × xM) := xit (F_X12_noLooked_34b v0 v1) xFU (v3, M)
def F_X12_noLooked (a0 : Nat) (a1 : Int32) (M : xM) : Option (Int32 × xM) :=
(xck M a0 12).bind fun _ =>
(F_X12_noTray a0 a1 M).bind fun t2 =>
if t2.1 = 0 then (
(xgP t2.2 a0 12 34).bind fun t3 =>
(xaI t2.2 20 t3 a1).bind fun t4 =>
(F_X12_within t4.toInt64 (1 : Int64) (8 : Int64) t2.2).bind fun t5 =>
if t5.1 = 0 then (
some ((-4 : Int32), t5.2))
else (
F_X12_noLooked_34 a0 a1 (0 : Int32) t5.2))
else (
some (t2.1, t2.2))
set_option maxRecDepth 100000 in
set_option maxHeartbeats 4000000 in
theorem F_X12_noLooked_65_ok (X : xX p s m args c cX12_noLooked 4 RX12 κ) (hr : meth.sig.returnType = (some .int)) (hlk : meth.locks = false) {ro : Int32} {mo : xM} (M : xM) (x : Int32 × xM) (h : F_X12_noLooked_65 M = some x) (hK : (fun o => o = (ro, mo)) x) (H : Heap) (locs : List Loc) (ls : Array Slot) (O : xO κ s M H locs) (hl : lv_has ls 4 []) : W p l e (xRm 4 0 0) s m args below meth c H locs 0 0 (xQf below args s 0 0 κ (some (.int ro)) mo) (F0 m 65 ls []) := by
  unfold F_X12_noLooked_65 at h
  have hx := X.1
  have hb := X.2.1
  refine lv_bipush (v := (-3 : Int32)) hx hb dX12_noLooked_65 (by decide) ?_
  rw [← Option.some.inj h] at hK
  have hK : ((-3 : Int32), M) = (ro, mo) := hK
  obtain ⟨hK1, hK2⟩ := Prod.mk.inj hK
  rw [hK2] at O
  refine xr_top (w := .int ro) (by rw [hK1]) ?_
  exact xr_iret X hr hlk O dX12_noLooked_67
set_option maxRecDepth 100000 in
set_option maxHeartbeats 4000000 in
theorem F_X12_noLooked_74_ok (X : xX p s m args c cX12_noLooked 4 RX12 κ) (hr : meth.sig.returnType = (some .int)) (hlk : meth.locks = false) {ro : Int32} {mo : xM} (M : xM) (x : Int32 × xM) (h : F_X12_noLooked_74 M = some x) (hK : (fun o => o = (ro, mo)) x) (H : Heap) (locs : List Loc) (ls : Array Slot) (O : xO κ s M H locs) (hl : lv_has ls 4 []) : W p l e (xRm 4 0 0) s m args below meth c H locs 0 0 (xQf below args s 0 0 κ (some (.int ro)) mo) (F0 m 74 ls []) := by
  unfold F_X12_noLooked_74 at h
  have hx := X.1
  have hb := X.2.1
  refine lv_iconst (v := (0 : Int32)) hx hb dX12_noLooked_74 (by decide) ?_
  rw [← Option.some.inj h] at hK
  have hK : ((0 : Int32), M) = (ro, mo) := hK
  obtain ⟨hK1, hK2⟩ := Prod.mk.inj hK
  rw [hK2] at O
  refine xr_top (w := .int ro) (by rw [hK1]) ?_
  exact xr_iret X hr hlk O dX12_noLooked_75
set_option maxRecDepth 100000 in
set_option maxHeartbeats 4000000 in
theorem F_X12_noLooked_34_bok (X : xX p s m args c cX12_noLooked 4 RX12 κ) (hr : meth.sig.returnType = (some .int)) (hlk : meth.locks = false) {ro : Int32} {mo : xM} (v0 : Nat) (v1 : Int32) (v3 : Int32) {W34 : Int32 × xM → Prop} (hW34 : ∀ (v3 : Int32) (M : xM), W34 (v3, M) → ∀ (H : Heap) (locs : List Loc) (ls : Array Slot), xO κ s M H locs → lv_has ls 4 [(0, .ref (κ.1 + v0)), (1, .int v1), (3, .int v3)] → W p l e (xRm 4 0 0) s m args below meth c H locs 0 0 (xQf below args s 0 0 κ (some (.int ro)) mo) (F0 m 34 ls [])) (M : xM) (x : (Int32 × xM) ⊕ (Int32 × xM)) (h : F_X12_noLooked_34b v0 v1 (v3, M) = some x) (hK : (xKl W34 (fun o => o = (ro, mo))) x) (H : Heap) (locs : List Loc) (ls : Array Slot) (O : xO κ s M H locs) (hl : lv_has ls 4 [(0, .ref (κ.1 + v0)), (1, .int v1), (3, .int v3)]) : W p l e (xRm 4 0 0) s m args below meth c H locs 0 0 (xQf below args s 0 0 κ (some (.int ro)) mo) (F0 m 34 ls []) := by
  unfold F_X12_noLooked_34b at h
  dsimp only at h
  have hx := X.1
  have hb := X.2.1
  refine lv_iload_n hx hb dX12_noLooked_34 rfl (lv_at hl 2 rfl) ?_
  refine lv_aload_n hx hb dX12_noLooked_35 rfl (lv_at hl 0 rfl) ?_
  obtain ⟨t6, ht6, h⟩ := Option.bind_eq_some_iff.mp h
  refine xr_getP X O ht6 fl_X12_73 dX12_noLooked_36 ?_
  refine lv_iload_n hx hb dX12_noLooked_39 rfl (lv_at hl 1 rfl) ?_
  obtain ⟨t7, ht7, h⟩ := Option.bind_eq_some_iff.mp h
  refine xr_aldI X O ht7 dX12_noLooked_40 ?_
  refine lv_icmp_ge (tgt := 74) hx hb dX12_noLooked_41 (by decide) (fun hc41 => ?_) (fun hc41 => ?_)
  · rw [if_pos hc41] at h
    obtain ⟨_, hw0, ew0⟩ := Option.map_eq_some_iff.mp h
    rw [← ew0] at hK
    have h := hw0
    exact F_X12_noLooked_74_ok X hr hlk  M _ h hK H locs ls O (lv_sub hl [] rfl)
  rw [if_neg hc41] at h
  refine lv_aload_n hx hb dX12_noLooked_44 rfl (lv_at hl 0 rfl) ?_
  obtain ⟨t8, ht8, h⟩ := Option.bind_eq_some_iff.mp h
  refine xr_getP X O ht8 fl_X12_76 dX12_noLooked_45 ?_
  refine lv_bipush (v := (40 : Int32)) hx hb dX12_noLooked_48 (by decide) ?_
  refine lv_iload_n hx hb dX12_noLooked_50 rfl (lv_at hl 1 rfl) ?_
  refine lv_imul hx hb dX12_noLooked_51 ?_
  refine lv_iload_n hx hb dX12_noLooked_52 rfl (lv_at hl 2 rfl) ?_
  refine lv_iadd hx hb dX12_noLooked_53 ?_
  obtain ⟨t9, ht9, h⟩ := Option.bind_eq_some_iff.mp h
  refine xr_aldJ X O ht9 dX12_noLooked_54 ?_
  refine lv_lconst (v := (0 : Int64)) hx hb dX12_noLooked_55 (by decide) ?_
  refine lv_ldc2 (v := (1099 : Int64)) hx hb X.2.2.2.1 (X.2.2.2.2.1 _ ct_X12_433) dX12_noLooked_56 ?_
  obtain ⟨t10, ht10, h⟩ := Option.bind_eq_some_iff.mp h
  refine xr_callS (rest := []) X O (T_X12_within l κ t9 (0 : Int64) (1099 : Int64) M _ _ ht10) lk_X12_145 (Nat.le_of_ble_eq_true rfl) rfl hl.1 rfl (Nat.le_of_ble_eq_true rfl) dX12_noLooked_59 ⟨Nat.le_of_ble_eq_true rfl, Nat.le_of_ble_eq_true rfl⟩ (fun H locs O => ?_)
  refine W.eq (g2 := F0 m 62 ls [.int t10.1]) rfl ?_
  refine lv_if_ne (tgt := 68) hx hb dX12_noLooked_62 (by decide) (fun hc62 => ?_) (fun hc62 => ?_)
  · rw [if_neg hc62] at h
    refine lv_iinc (v := (v3 + 1)) (lv' := [(3, .int (v3 + 1)), (0, .ref (κ.1 + v0)), (1, .int v1)]) hx hb dX12_noLooked_68 hl (k := 2) rfl rfl (by decide) rfl (fun ls hl => ?_)
    refine lv_goto (tgt := 34) hx hb dX12_noLooked_71 (by decide) ?_
    rw [← Option.some.inj h] at hK
    exact hW34 (v3 + 1) t10.2 hK H locs ls O (lv_sub hl [1, 2, 0] rfl)
  rw [if_pos hc62] at h
  obtain ⟨_, hw0, ew0⟩ := Option.map_eq_some_iff.mp h
  rw [← ew0] at hK
  have h := hw0
  exact F_X12_noLooked_65_ok X hr hlk  t10.2 _ h hK H locs ls O (lv_sub hl [] rfl)
set_option maxRecDepth 100000 in
set_option maxHeartbeats 4000000 in
theorem F_X12_noLooked_34_ok (X : xX p s m args c cX12_noLooked 4 RX12 κ) (hr : meth.sig.returnType = (some .int)) (hlk : meth.locks = false) {ro : Int32} {mo : xM} (v0 : Nat) (v1 : Int32) (v3 : Int32) (M : xM) (x : Int32 × xM) (h : F_X12_noLooked_34 v0 v1 v3 M = some x) (hK : (fun o => o = (ro, mo)) x) (H : Heap) (locs : List Loc) (ls : Array Slot) (O : xO κ s M H locs) (hl : lv_has ls 4 [(0, .ref (κ.1 + v0)), (1, .int v1), (3, .int v3)]) : W p l e (xRm 4 0 0) s m args below meth c H locs 0 0 (xQf below args s 0 0 κ (some (.int ro)) mo) (F0 m 34 ls []) := by
  refine xit_K (Wh := fun x => ∀ (H : Heap) (locs : List Loc) (ls : Array Slot), xO κ s x.2 H locs → lv_has ls 4 [(0, .ref (κ.1 + v0)), (1, .int v1), (3, .int x.1)] → W p l e (xRm 4 0 0) s m args below meth c H locs 0 0 (xQf below args s 0 0 κ (some (.int ro)) mo) (F0 m 34 ls [])) (Kp := (fun o => o = (ro, mo))) ?_ xFU (v3, M) x h hK H locs ls O hl
  intro y x h hK H locs ls O hl
  exact F_X12_noLooked_34_bok X hr hlk v0 v1 y.1 (fun _ _ hw => hw) y.2 x h hK H locs ls O hl
set_option maxRecDepth 100000 in
set_option maxHeartbeats 4000000 in
theorem T_X12_noLooked (l : Launch) (κ : xQ) (a0 : Nat) (a1 : Int32) (M : xM) (ro : Int32) (mo : xM) (h : F_X12_noLooked a0 a1 M = some (ro, mo)) : xC l yX12_noLooked cX12_noLooked 4 (some .int) 4 0 0 κ [.ref (κ.1 + a0), .int a1] M (some (.int ro)) mo := by
  refine xC_of rfl (Nat.le_of_ble_eq_true rfl) fun p e s m args below meth c X hr hlk hnm H locs ls O hl => ?_
  have X : xX p s m args c cX12_noLooked 4 RX12 κ := X
  have hl : lv_has ls 4 [(0, .ref (κ.1 + a0)), (1, .int a1)] := hl
  have hx := X.1
  have hb := X.2.1
  obtain ⟨x, hx0⟩ : ∃ x, (ro, mo) = x := ⟨_, rfl⟩
  rw [hx0] at h
  have hK : x = (ro, mo) := hx0.symm
  unfold F_X12_noLooked at h
  refine lv_aload_n hx hb dX12_noLooked_0 rfl (lv_at hl 0 rfl) ?_
  refine lv_iload_n hx hb dX12_noLooked_1 rfl (lv_at hl 1 rfl) ?_
  obtain ⟨_, hut1, h⟩ := Option.bind_eq_some_iff.mp h
  obtain ⟨t2, ht2, h⟩ := Option.bind_eq_some_iff.mp h
  refine xr_callV (rest := []) X O (T_X12_noTray l κ a0 a1 M _ _ ht2) lk_X12_350 hut1 (Nat.le_of_ble_eq_true rfl) rfl hl.1 rfl (Nat.le_of_ble_eq_true rfl) dX12_noLooked_2 ⟨Nat.le_of_ble_eq_true rfl, Nat.le_of_ble_eq_true rfl⟩ (fun H locs O => ?_)
  refine W.eq (g2 := F0 m 5 ls [.int t2.1]) rfl ?_
  refine lv_istore_n (lv' := [(2, .int t2.1), (0, .ref (κ.1 + a0)), (1, .int a1)]) hx hb dX12_noLooked_5 rfl hl (by decide) rfl (fun ls hl => ?_)
  refine lv_iload_n hx hb dX12_noLooked_6 rfl (lv_at hl 0 rfl) ?_
  refine lv_if_eq (tgt := 12) hx hb dX12_noLooked_7 (by decide) (fun hc7 => ?_) (fun hc7 => ?_)
  · rw [if_pos hc7] at h
    refine lv_aload_n hx hb dX12_noLooked_12 rfl (lv_at hl 1 rfl) ?_
    obtain ⟨t3, ht3, h⟩ := Option.bind_eq_some_iff.mp h
    refine xr_getP X O ht3 fl_X12_73 dX12_noLooked_13 ?_
    refine lv_iload_n hx hb dX12_noLooked_16 rfl (lv_at hl 2 rfl) ?_
    obtain ⟨t4, ht4, h⟩ := Option.bind_eq_some_iff.mp h
    refine xr_aldI X O ht4 dX12_noLooked_17 ?_
    refine lv_i2l (v := t4.toInt64) hx hb dX12_noLooked_18 rfl ?_
    refine lv_lconst (v := (1 : Int64)) hx hb dX12_noLooked_19 (by decide) ?_
    refine lv_ldc2 (v := (8 : Int64)) hx hb X.2.2.2.1 (X.2.2.2.2.1 _ ct_X12_431) dX12_noLooked_20 ?_
    obtain ⟨t5, ht5, h⟩ := Option.bind_eq_some_iff.mp h
    refine xr_callS (rest := []) X O (T_X12_within l κ t4.toInt64 (1 : Int64) (8 : Int64) t2.2 _ _ ht5) lk_X12_145 (Nat.le_of_ble_eq_true rfl) rfl hl.1 rfl (Nat.le_of_ble_eq_true rfl) dX12_noLooked_23 ⟨Nat.le_of_ble_eq_true rfl, Nat.le_of_ble_eq_true rfl⟩ (fun H locs O => ?_)
    refine W.eq (g2 := F0 m 26 ls [.int t5.1]) rfl ?_
    refine lv_if_ne (tgt := 32) hx hb dX12_noLooked_26 (by decide) (fun hc26 => ?_) (fun hc26 => ?_)
    · rw [if_neg hc26] at h
      refine lv_iconst (v := (0 : Int32)) hx hb dX12_noLooked_32 (by decide) ?_
      refine lv_istore_n (lv' := [(3, .int (0 : Int32)), (2, .int t2.1), (0, .ref (κ.1 + a0)), (1, .int a1)]) hx hb dX12_noLooked_33 rfl hl (by decide) rfl (fun ls hl => ?_)
      exact F_X12_noLooked_34_ok X hr hlk a0 a1 (0 : Int32) t5.2 _ h hK H locs ls O (lv_sub hl [2, 3, 0] rfl)
    rw [if_pos hc26] at h
    refine lv_bipush (v := (-4 : Int32)) hx hb dX12_noLooked_29 (by decide) ?_
    rw [← Option.some.inj h] at hK
    have hK : ((-4 : Int32), t5.2) = (ro, mo) := hK
    obtain ⟨hK1, hK2⟩ := Prod.mk.inj hK
    rw [hK2] at O
    refine xr_top (w := .int ro) (by rw [hK1]) ?_
    exact xr_iret X hr hlk O dX12_noLooked_31
  rw [if_neg hc7] at h
  refine lv_iload_n hx hb dX12_noLooked_10 rfl (lv_at hl 0 rfl) ?_
  rw [← Option.some.inj h] at hK
  have hK : (t2.1, t2.2) = (ro, mo) := hK
  obtain ⟨hK1, hK2⟩ := Prod.mk.inj hK
  rw [hK2] at O
  refine xr_top (w := .int ro) (by rw [hK1]) ?_
  exact xr_iret X hr hlk O dX12_noLooked_11
def F_X12_moonsOf_75 (v0 : Nat) (v1 : Int32) (v2 : Int32) (v3 : Int32) (v5 : Int32) (s0 : Int32) (s1 : Int32) (M : xM) : Option ((Int32 × Int32 × xM) ⊕ ((Int32 × Int32 × xM) ⊕ (Int32 × xM))) :=
(some ((s1 &&& s0))).bind fun t9 =>
some (.inl (t9, (v5 + 1), M))
def F_X12_moonsOf_97 (v0 : Nat) (v1 : Int32) (v3 : Int32) (s0 : Int32) (s1 : Int32) (M : xM) : Option ((Int32 × Int32 × xM) ⊕ (Int32 × xM)) :=
(some ((s1 ||| s0))).bind fun t10 =>
some (.inl (t10, (v3 + 1), M))
def F_X12_moonsOf_84 (v0 : Nat) (v1 : Int32) (v2 : Int32) (v3 : Int32) (v4 : Int32) (M : xM) : Option ((Int32 × Int32 × xM) ⊕ (Int32 × xM)) :=
if v4 = 0 then (
F_X12_moonsOf_97 v0 v1 v3 (0 : Int32) v2 M)
else (
F_X12_moonsOf_97 v0 v1 v3 ((1 : Int32) <<< (v3 &&& 31)) v2 M)
def F_X12_moonsOf_16b (v0 : Nat) (v1 : Int32) (v2 : Int32) (v3 : Int32) : (Int32 × Int32 × xM) → Option ((Int32 × Int32 × xM) ⊕ ((Int32 × Int32 × xM) ⊕ (Int32 × xM))) := fun ⟨v4, v5, M⟩ =>
(xgP M v0 12 34).bind fun t1 =>
(xaI M 20 t1 v1).bind fun t2 =>
if t2 ≤ v5 then (
(F_X12_moonsOf_84 v0 v1 v2 v3 v4 M).map Sum.inr)
else (
(xgP M v0 12 35).bind fun t3 =>
(xaJ M t3 (((40 : Int32) * v1) + v5)).bind fun t4 =>
(xgP M v0 12 1).bind fun t5 =>
(xaI M 20 t5 (107 : Int32)).bind fun t6 =>
(xck M v0 12).bind fun _ =>
(F_X12_levelOf v0 (t6 + (t4.toInt32 - t4.toInt32 / (100 : Int32) * (100 : Int32))) v3 M).bind fun t8 =>
if t8.1 = (t4.toInt32 / (100 : Int32)) then (
F_X12_moonsOf_75 v0 v1 v2 v3 v5 (1 : Int32) v4 t8.2)
else (
F_X12_moonsOf_75 v0 v1 v2 v3 v5 (0 : Int32) v4 t8.2))
def F_X12_moonsOf_16 (v0 : Nat) (v1 : Int32) (v2 : Int32) (v3 : Int32) (v4 : Int32) (v5 : Int32) (M : xM) : Option ((Int32 × Int32 × xM) ⊕ (Int32 × xM)) := xit (F_X12_moonsOf_16b v0 v1 v2 v3) xFU (v4, v5, M)
def F_X12_moonsOf_105 (v2 : Int32) (M : xM) : Option (Int32 × xM) :=
some (v2, M)
def F_X12_moonsOf_4b (v0 : Nat) (v1 : Int32) : (Int32 × Int32 × xM) → Option ((Int32 × Int32 × xM) ⊕ (Int32 × xM)) := fun ⟨v2, v3, M⟩ =>
if (10 : Int32) ≤ v3 then (
(F_X12_moonsOf_105 v2 M).map Sum.inr)
else (
F_X12_moonsOf_16 v0 v1 v2 v3 (1 : Int32) (0 : Int32) M)
def F_X12_moonsOf_4 (v0 : Nat) (v1 : Int32) (v2 : Int32) (v3 : Int32) (M : xM) : Option (Int32 × xM) := xit (F_X12_moonsOf_4b v0 v1) xFU (v2, v3, M)
def F_X12_moonsOf (a0 : Nat) (a1 : Int32) (M : xM) : Option (Int32 × xM) :=
F_X12_moonsOf_4 a0 a1 (0 : Int32) (0 : Int32) M
set_option maxRecDepth 100000 in
set_option maxHeartbeats 4000000 in
theorem F_X12_moonsOf_75_ok (X : xX p s m args c cX12_moonsOf 7 RX12 κ) (hr : meth.sig.returnType = (some .int)) (hlk : meth.locks = false) {ro : Int32} {mo : xM} (v0 : Nat) (v1 : Int32) (v2 : Int32) (v3 : Int32) (v5 : Int32) (s0 : Int32) (s1 : Int32) {W4 : Int32 × Int32 × xM → Prop} (hW4 : ∀ (v2 : Int32) (v3 : Int32) (M : xM), W4 (v2, v3, M) → ∀ (H : Heap) (locs : List Loc) (ls : Array Slot), xO κ s M H locs → lv_has ls 7 [(0, .ref (κ.1 + v0)), (1, .int v1), (2, .int v2), (3, .int v3)] → W p l e (xRm 5 0 0) s m args below meth c H locs 0 0 (xQf below args s 0 0 κ (some (.int ro)) mo) (F0 m 4 ls [])) {W16 : Int32 × Int32 × xM → Prop} (hW16 : ∀ (v4 : Int32) (v5 : Int32) (M : xM), W16 (v4, v5, M) → ∀ (H : Heap) (locs : List Loc) (ls : Array Slot), xO κ s M H locs → lv_has ls 7 [(0, .ref (κ.1 + v0)), (1, .int v1), (2, .int v2), (3, .int v3), (4, .int v4), (5, .int v5)] → W p l e (xRm 5 0 0) s m args below meth c H locs 0 0 (xQf below args s 0 0 κ (some (.int ro)) mo) (F0 m 16 ls [])) (M : xM) (x : (Int32 × Int32 × xM) ⊕ ((Int32 × Int32 × xM) ⊕ (Int32 × xM))) (h : F_X12_moonsOf_75 v0 v1 v2 v3 v5 s0 s1 M = some x) (hK : (xKl W16 (xKl W4 (fun o => o = (ro, mo)))) x) (H : Heap) (locs : List Loc) (ls : Array Slot) (O : xO κ s M H locs) (hl : lv_has ls 7 [(0, .ref (κ.1 + v0)), (1, .int v1), (2, .int v2), (3, .int v3), (5, .int v5)]) : W p l e (xRm 5 0 0) s m args below meth c H locs 0 0 (xQf below args s 0 0 κ (some (.int ro)) mo) (F0 m 75 ls [.int s0, .int s1]) := by
  unfold F_X12_moonsOf_75 at h
  have hx := X.1
  have hb := X.2.1
  refine lv_iand hx hb dX12_moonsOf_75 ?_
  obtain ⟨t9, ht9, h⟩ := Option.bind_eq_some_iff.mp h
  refine xr_top (w := .int t9) (by rw [Option.some.inj ht9]) ?_
  refine lv_istore (lv' := [(4, .int t9), (0, .ref (κ.1 + v0)), (1, .int v1), (2, .int v2), (3, .int v3), (5, .int v5)]) hx hb dX12_moonsOf_76 hl (by decide) rfl (fun ls hl => ?_)
  refine lv_iinc (v := (v5 + 1)) (lv' := [(5, .int (v5 + 1)), (4, .int t9), (0, .ref (κ.1 + v0)), (1, .int v1), (2, .int v2), (3, .int v3)]) hx hb dX12_moonsOf_78 hl (k := 5) rfl rfl (by decide) rfl (fun ls hl => ?_)
  refine lv_goto (tgt := 16) hx hb dX12_moonsOf_81 (by decide) ?_
  rw [← Option.some.inj h] at hK
  exact hW16 t9 (v5 + 1) M hK H locs ls O (lv_sub hl [2, 3, 4, 5, 1, 0] rfl)
set_option maxRecDepth 100000 in
set_option maxHeartbeats 4000000 in
theorem F_X12_moonsOf_97_ok (X : xX p s m args c cX12_moonsOf 7 RX12 κ) (hr : meth.sig.returnType = (some .int)) (hlk : meth.locks = false) {ro : Int32} {mo : xM} (v0 : Nat) (v1 : Int32) (v3 : Int32) (s0 : Int32) (s1 : Int32) {W4 : Int32 × Int32 × xM → Prop} (hW4 : ∀ (v2 : Int32) (v3 : Int32) (M : xM), W4 (v2, v3, M) → ∀ (H : Heap) (locs : List Loc) (ls : Array Slot), xO κ s M H locs → lv_has ls 7 [(0, .ref (κ.1 + v0)), (1, .int v1), (2, .int v2), (3, .int v3)] → W p l e (xRm 5 0 0) s m args below meth c H locs 0 0 (xQf below args s 0 0 κ (some (.int ro)) mo) (F0 m 4 ls [])) (M : xM) (x : (Int32 × Int32 × xM) ⊕ (Int32 × xM)) (h : F_X12_moonsOf_97 v0 v1 v3 s0 s1 M = some x) (hK : (xKl W4 (fun o => o = (ro, mo))) x) (H : Heap) (locs : List Loc) (ls : Array Slot) (O : xO κ s M H locs) (hl : lv_has ls 7 [(0, .ref (κ.1 + v0)), (1, .int v1), (3, .int v3)]) : W p l e (xRm 5 0 0) s m args below meth c H locs 0 0 (xQf below args s 0 0 κ (some (.int ro)) mo) (F0 m 97 ls [.int s0, .int s1]) := by
  unfold F_X12_moonsOf_97 at h
  have hx := X.1
  have hb := X.2.1
  refine lv_ior hx hb dX12_moonsOf_97 ?_
  obtain ⟨t10, ht10, h⟩ := Option.bind_eq_some_iff.mp h
  refine xr_top (w := .int t10) (by rw [Option.some.inj ht10]) ?_
  refine lv_istore_n (lv' := [(2, .int t10), (0, .ref (κ.1 + v0)), (1, .int v1), (3, .int v3)]) hx hb dX12_moonsOf_98 rfl hl (by decide) rfl (fun ls hl => ?_)
  refine lv_iinc (v := (v3 + 1)) (lv' := [(3, .int (v3 + 1)), (2, .int t10), (0, .ref (κ.1 + v0)), (1, .int v1)]) hx hb dX12_moonsOf_99 hl (k := 3) rfl rfl (by decide) rfl (fun ls hl => ?_)
  refine lv_goto (tgt := 4) hx hb dX12_moonsOf_102 (by decide) ?_
  rw [← Option.some.inj h] at hK
  exact hW4 t10 (v3 + 1) M hK H locs ls O (lv_sub hl [2, 3, 1, 0] rfl)
set_option maxRecDepth 100000 in
set_option maxHeartbeats 4000000 in
theorem F_X12_moonsOf_84_ok (X : xX p s m args c cX12_moonsOf 7 RX12 κ) (hr : meth.sig.returnType = (some .int)) (hlk : meth.locks = false) {ro : Int32} {mo : xM} (v0 : Nat) (v1 : Int32) (v2 : Int32) (v3 : Int32) (v4 : Int32) {W4 : Int32 × Int32 × xM → Prop} (hW4 : ∀ (v2 : Int32) (v3 : Int32) (M : xM), W4 (v2, v3, M) → ∀ (H : Heap) (locs : List Loc) (ls : Array Slot), xO κ s M H locs → lv_has ls 7 [(0, .ref (κ.1 + v0)), (1, .int v1), (2, .int v2), (3, .int v3)] → W p l e (xRm 5 0 0) s m args below meth c H locs 0 0 (xQf below args s 0 0 κ (some (.int ro)) mo) (F0 m 4 ls [])) (M : xM) (x : (Int32 × Int32 × xM) ⊕ (Int32 × xM)) (h : F_X12_moonsOf_84 v0 v1 v2 v3 v4 M = some x) (hK : (xKl W4 (fun o => o = (ro, mo))) x) (H : Heap) (locs : List Loc) (ls : Array Slot) (O : xO κ s M H locs) (hl : lv_has ls 7 [(0, .ref (κ.1 + v0)), (1, .int v1), (2, .int v2), (3, .int v3), (4, .int v4)]) : W p l e (xRm 5 0 0) s m args below meth c H locs 0 0 (xQf below args s 0 0 κ (some (.int ro)) mo) (F0 m 84 ls []) := by
  unfold F_X12_moonsOf_84 at h
  have hx := X.1
  have hb := X.2.1
  refine lv_iload_n hx hb dX12_moonsOf_84 rfl (lv_at hl 2 rfl) ?_
  refine lv_iload hx hb dX12_moonsOf_85 (lv_at hl 4 rfl) ?_
  refine lv_if_eq (tgt := 96) hx hb dX12_moonsOf_87 (by decide) (fun hc87 => ?_) (fun hc87 => ?_)
  · rw [if_pos hc87] at h
    refine lv_iconst (v := (0 : Int32)) hx hb dX12_moonsOf_96 (by decide) ?_
    exact F_X12_moonsOf_97_ok X hr hlk v0 v1 v3 (0 : Int32) v2 hW4 M _ h hK H locs ls O (lv_sub hl [0, 1, 3] rfl)
  rw [if_neg hc87] at h
  refine lv_iconst (v := (1 : Int32)) hx hb dX12_moonsOf_90 (by decide) ?_
  refine lv_iload_n hx hb dX12_moonsOf_91 rfl (lv_at hl 3 rfl) ?_
  refine lv_ishl hx hb dX12_moonsOf_92 ?_
  refine lv_goto (tgt := 97) hx hb dX12_moonsOf_93 (by decide) ?_
  exact F_X12_moonsOf_97_ok X hr hlk v0 v1 v3 ((1 : Int32) <<< (v3 &&& 31)) v2 hW4 M _ h hK H locs ls O (lv_sub hl [0, 1, 3] rfl)
set_option maxRecDepth 100000 in
set_option maxHeartbeats 4000000 in
theorem F_X12_moonsOf_16_bok (X : xX p s m args c cX12_moonsOf 7 RX12 κ) (hr : meth.sig.returnType = (some .int)) (hlk : meth.locks = false) {ro : Int32} {mo : xM} (v0 : Nat) (v1 : Int32) (v2 : Int32) (v3 : Int32) (v4 : Int32) (v5 : Int32) {W4 : Int32 × Int32 × xM → Prop} (hW4 : ∀ (v2 : Int32) (v3 : Int32) (M : xM), W4 (v2, v3, M) → ∀ (H : Heap) (locs : List Loc) (ls : Array Slot), xO κ s M H locs → lv_has ls 7 [(0, .ref (κ.1 + v0)), (1, .int v1), (2, .int v2), (3, .int v3)] → W p l e (xRm 5 0 0) s m args below meth c H locs 0 0 (xQf below args s 0 0 κ (some (.int ro)) mo) (F0 m 4 ls [])) {W16 : Int32 × Int32 × xM → Prop} (hW16 : ∀ (v4 : Int32) (v5 : Int32) (M : xM), W16 (v4, v5, M) → ∀ (H : Heap) (locs : List Loc) (ls : Array Slot), xO κ s M H locs → lv_has ls 7 [(0, .ref (κ.1 + v0)), (1, .int v1), (2, .int v2), (3, .int v3), (4, .int v4), (5, .int v5)] → W p l e (xRm 5 0 0) s m args below meth c H locs 0 0 (xQf below args s 0 0 κ (some (.int ro)) mo) (F0 m 16 ls [])) (M : xM) (x : (Int32 × Int32 × xM) ⊕ ((Int32 × Int32 × xM) ⊕ (Int32 × xM))) (h : F_X12_moonsOf_16b v0 v1 v2 v3 (v4, v5, M) = some x) (hK : (xKl W16 (xKl W4 (fun o => o = (ro, mo)))) x) (H : Heap) (locs : List Loc) (ls : Array Slot) (O : xO κ s M H locs) (hl : lv_has ls 7 [(0, .ref (κ.1 + v0)), (1, .int v1), (2, .int v2), (3, .int v3), (4, .int v4), (5, .int v5)]) : W p l e (xRm 5 0 0) s m args below meth c H locs 0 0 (xQf below args s 0 0 κ (some (.int ro)) mo) (F0 m 16 ls []) := by
  unfold F_X12_moonsOf_16b at h
  dsimp only at h
  have hx := X.1
  have hb := X.2.1
  refine lv_iload hx hb dX12_moonsOf_16 (lv_at hl 5 rfl) ?_
  refine lv_aload_n hx hb dX12_moonsOf_18 rfl (lv_at hl 0 rfl) ?_
  obtain ⟨t1, ht1, h⟩ := Option.bind_eq_some_iff.mp h
  refine xr_getP X O ht1 fl_X12_73 dX12_moonsOf_19 ?_
  refine lv_iload_n hx hb dX12_moonsOf_22 rfl (lv_at hl 1 rfl) ?_
  obtain ⟨t2, ht2, h⟩ := Option.bind_eq_some_iff.mp h
  refine xr_aldI X O ht2 dX12_moonsOf_23 ?_
  refine lv_icmp_ge (tgt := 84) hx hb dX12_moonsOf_24 (by decide) (fun hc24 => ?_) (fun hc24 => ?_)
  · rw [if_pos hc24] at h
    obtain ⟨_, hw0, ew0⟩ := Option.map_eq_some_iff.mp h
    rw [← ew0] at hK
    have h := hw0
    exact F_X12_moonsOf_84_ok X hr hlk v0 v1 v2 v3 v4 hW4 M _ h hK H locs ls O (lv_sub hl [0, 1, 2, 3, 4] rfl)
  rw [if_neg hc24] at h
  refine lv_aload_n hx hb dX12_moonsOf_27 rfl (lv_at hl 0 rfl) ?_
  obtain ⟨t3, ht3, h⟩ := Option.bind_eq_some_iff.mp h
  refine xr_getP X O ht3 fl_X12_76 dX12_moonsOf_28 ?_
  refine lv_bipush (v := (40 : Int32)) hx hb dX12_moonsOf_31 (by decide) ?_
  refine lv_iload_n hx hb dX12_moonsOf_33 rfl (lv_at hl 1 rfl) ?_
  refine lv_imul hx hb dX12_moonsOf_34 ?_
  refine lv_iload hx hb dX12_moonsOf_35 (lv_at hl 5 rfl) ?_
  refine lv_iadd hx hb dX12_moonsOf_37 ?_
  obtain ⟨t4, ht4, h⟩ := Option.bind_eq_some_iff.mp h
  refine xr_aldJ X O ht4 dX12_moonsOf_38 ?_
  refine lv_l2i (v := t4.toInt32) hx hb dX12_moonsOf_39 rfl ?_
  refine lv_istore (lv' := [(6, .int t4.toInt32), (0, .ref (κ.1 + v0)), (1, .int v1), (2, .int v2), (3, .int v3), (4, .int v4), (5, .int v5)]) hx hb dX12_moonsOf_40 hl (by decide) rfl (fun ls hl => ?_)
  refine lv_iload hx hb dX12_moonsOf_42 (lv_at hl 5 rfl) ?_
  refine lv_aload_n hx hb dX12_moonsOf_44 rfl (lv_at hl 1 rfl) ?_
  refine lv_aload_n hx hb dX12_moonsOf_45 rfl (lv_at hl 1 rfl) ?_
  obtain ⟨t5, ht5, h⟩ := Option.bind_eq_some_iff.mp h
  refine xr_getP X O ht5 fl_X12_13 dX12_moonsOf_46 ?_
  refine lv_bipush (v := (107 : Int32)) hx hb dX12_moonsOf_49 (by decide) ?_
  obtain ⟨t6, ht6, h⟩ := Option.bind_eq_some_iff.mp h
  refine xr_aldI X O ht6 dX12_moonsOf_51 ?_
  refine lv_iload hx hb dX12_moonsOf_52 (lv_at hl 0 rfl) ?_
  refine lv_bipush (v := (100 : Int32)) hx hb dX12_moonsOf_54 (by decide) ?_
  refine lv_irem hx hb dX12_moonsOf_56 (by decide) ?_
  refine lv_iadd hx hb dX12_moonsOf_57 ?_
  refine lv_iload_n hx hb dX12_moonsOf_58 rfl (lv_at hl 4 rfl) ?_
  obtain ⟨_, hut7, h⟩ := Option.bind_eq_some_iff.mp h
  obtain ⟨t8, ht8, h⟩ := Option.bind_eq_some_iff.mp h
  refine xr_callV (rest := [.int v4]) X O (T_X12_levelOf l κ v0 (t6 + (t4.toInt32 - t4.toInt32 / (100 : Int32) * (100 : Int32))) v3 M _ _ ht8) lk_X12_263 hut7 (Nat.le_of_ble_eq_true rfl) rfl hl.1 rfl (Nat.le_of_ble_eq_true rfl) dX12_moonsOf_59 ⟨Nat.le_of_ble_eq_true rfl, Nat.le_of_ble_eq_true rfl⟩ (fun H locs O => ?_)
  refine W.eq (g2 := F0 m 62 ls [.int t8.1, .int v4]) rfl ?_
  refine lv_iload hx hb dX12_moonsOf_62 (lv_at hl 0 rfl) ?_
  refine lv_bipush (v := (100 : Int32)) hx hb dX12_moonsOf_64 (by decide) ?_
  refine lv_idiv hx hb dX12_moonsOf_66 (by decide) ?_
  refine lv_icmp_ne (tgt := 74) hx hb dX12_moonsOf_67 (by decide) (fun hc67 => ?_) (fun hc67 => ?_)
  · rw [if_neg hc67] at h
    refine lv_iconst (v := (0 : Int32)) hx hb dX12_moonsOf_74 (by decide) ?_
    exact F_X12_moonsOf_75_ok X hr hlk v0 v1 v2 v3 v5 (0 : Int32) v4 hW4 hW16 t8.2 _ h hK H locs ls O (lv_sub hl [1, 2, 3, 4, 6] rfl)
  rw [if_pos hc67] at h
  refine lv_iconst (v := (1 : Int32)) hx hb dX12_moonsOf_70 (by decide) ?_
  refine lv_goto (tgt := 75) hx hb dX12_moonsOf_71 (by decide) ?_
  exact F_X12_moonsOf_75_ok X hr hlk v0 v1 v2 v3 v5 (1 : Int32) v4 hW4 hW16 t8.2 _ h hK H locs ls O (lv_sub hl [1, 2, 3, 4, 6] rfl)
set_option maxRecDepth 100000 in
set_option maxHeartbeats 4000000 in
theorem F_X12_moonsOf_16_ok (X : xX p s m args c cX12_moonsOf 7 RX12 κ) (hr : meth.sig.returnType = (some .int)) (hlk : meth.locks = false) {ro : Int32} {mo : xM} (v0 : Nat) (v1 : Int32) (v2 : Int32) (v3 : Int32) (v4 : Int32) (v5 : Int32) {W4 : Int32 × Int32 × xM → Prop} (hW4 : ∀ (v2 : Int32) (v3 : Int32) (M : xM), W4 (v2, v3, M) → ∀ (H : Heap) (locs : List Loc) (ls : Array Slot), xO κ s M H locs → lv_has ls 7 [(0, .ref (κ.1 + v0)), (1, .int v1), (2, .int v2), (3, .int v3)] → W p l e (xRm 5 0 0) s m args below meth c H locs 0 0 (xQf below args s 0 0 κ (some (.int ro)) mo) (F0 m 4 ls [])) (M : xM) (x : (Int32 × Int32 × xM) ⊕ (Int32 × xM)) (h : F_X12_moonsOf_16 v0 v1 v2 v3 v4 v5 M = some x) (hK : (xKl W4 (fun o => o = (ro, mo))) x) (H : Heap) (locs : List Loc) (ls : Array Slot) (O : xO κ s M H locs) (hl : lv_has ls 7 [(0, .ref (κ.1 + v0)), (1, .int v1), (2, .int v2), (3, .int v3), (4, .int v4), (5, .int v5)]) : W p l e (xRm 5 0 0) s m args below meth c H locs 0 0 (xQf below args s 0 0 κ (some (.int ro)) mo) (F0 m 16 ls []) := by
  refine xit_K (Wh := fun x => ∀ (H : Heap) (locs : List Loc) (ls : Array Slot), xO κ s x.2.2 H locs → lv_has ls 7 [(0, .ref (κ.1 + v0)), (1, .int v1), (2, .int v2), (3, .int v3), (4, .int x.1), (5, .int x.2.1)] → W p l e (xRm 5 0 0) s m args below meth c H locs 0 0 (xQf below args s 0 0 κ (some (.int ro)) mo) (F0 m 16 ls [])) (Kp := (xKl W4 (fun o => o = (ro, mo)))) ?_ xFU (v4, v5, M) x h hK H locs ls O hl
  intro y x h hK H locs ls O hl
  exact F_X12_moonsOf_16_bok X hr hlk v0 v1 v2 v3 y.1 y.2.1 hW4 (fun _ _ _ hw => hw) y.2.2 x h hK H locs ls O hl
set_option maxRecDepth 100000 in
set_option maxHeartbeats 4000000 in
theorem F_X12_moonsOf_105_ok (X : xX p s m args c cX12_moonsOf 7 RX12 κ) (hr : meth.sig.returnType = (some .int)) (hlk : meth.locks = false) {ro : Int32} {mo : xM} (v2 : Int32) (M : xM) (x : Int32 × xM) (h : F_X12_moonsOf_105 v2 M = some x) (hK : (fun o => o = (ro, mo)) x) (H : Heap) (locs : List Loc) (ls : Array Slot) (O : xO κ s M H locs) (hl : lv_has ls 7 [(2, .int v2)]) : W p l e (xRm 5 0 0) s m args below meth c H locs 0 0 (xQf below args s 0 0 κ (some (.int ro)) mo) (F0 m 105 ls []) := by
  unfold F_X12_moonsOf_105 at h
  have hx := X.1
  have hb := X.2.1
  refine lv_iload_n hx hb dX12_moonsOf_105 rfl (lv_at hl 0 rfl) ?_
  rw [← Option.some.inj h] at hK
  have hK : (v2, M) = (ro, mo) := hK
  obtain ⟨hK1, hK2⟩ := Prod.mk.inj hK
  rw [hK2] at O
  refine xr_top (w := .int ro) (by rw [hK1]) ?_
  exact xr_iret X hr hlk O dX12_moonsOf_106
set_option maxRecDepth 100000 in
set_option maxHeartbeats 4000000 in
theorem F_X12_moonsOf_4_bok (X : xX p s m args c cX12_moonsOf 7 RX12 κ) (hr : meth.sig.returnType = (some .int)) (hlk : meth.locks = false) {ro : Int32} {mo : xM} (v0 : Nat) (v1 : Int32) (v2 : Int32) (v3 : Int32) {W4 : Int32 × Int32 × xM → Prop} (hW4 : ∀ (v2 : Int32) (v3 : Int32) (M : xM), W4 (v2, v3, M) → ∀ (H : Heap) (locs : List Loc) (ls : Array Slot), xO κ s M H locs → lv_has ls 7 [(0, .ref (κ.1 + v0)), (1, .int v1), (2, .int v2), (3, .int v3)] → W p l e (xRm 5 0 0) s m args below meth c H locs 0 0 (xQf below args s 0 0 κ (some (.int ro)) mo) (F0 m 4 ls [])) (M : xM) (x : (Int32 × Int32 × xM) ⊕ (Int32 × xM)) (h : F_X12_moonsOf_4b v0 v1 (v2, v3, M) = some x) (hK : (xKl W4 (fun o => o = (ro, mo))) x) (H : Heap) (locs : List Loc) (ls : Array Slot) (O : xO κ s M H locs) (hl : lv_has ls 7 [(0, .ref (κ.1 + v0)), (1, .int v1), (2, .int v2), (3, .int v3)]) : W p l e (xRm 5 0 0) s m args below meth c H locs 0 0 (xQf below args s 0 0 κ (some (.int ro)) mo) (F0 m 4 ls []) := by
  unfold F_X12_moonsOf_4b at h
  dsimp only at h
  have hx := X.1
  have hb := X.2.1
  refine lv_iload_n hx hb dX12_moonsOf_4 rfl (lv_at hl 3 rfl) ?_
  refine lv_bipush (v := (10 : Int32)) hx hb dX12_moonsOf_5 (by decide) ?_
  refine lv_icmp_ge (tgt := 105) hx hb dX12_moonsOf_7 (by decide) (fun hc7 => ?_) (fun hc7 => ?_)
  · rw [if_pos hc7] at h
    obtain ⟨_, hw0, ew0⟩ := Option.map_eq_some_iff.mp h
    rw [← ew0] at hK
    have h := hw0
    exact F_X12_moonsOf_105_ok X hr hlk v2 M _ h hK H locs ls O (lv_sub hl [2] rfl)
  rw [if_neg hc7] at h
  refine lv_iconst (v := (1 : Int32)) hx hb dX12_moonsOf_10 (by decide) ?_
  refine lv_istore (lv' := [(4, .int (1 : Int32)), (0, .ref (κ.1 + v0)), (1, .int v1), (2, .int v2), (3, .int v3)]) hx hb dX12_moonsOf_11 hl (by decide) rfl (fun ls hl => ?_)
  refine lv_iconst (v := (0 : Int32)) hx hb dX12_moonsOf_13 (by decide) ?_
  refine lv_istore (lv' := [(5, .int (0 : Int32)), (4, .int (1 : Int32)), (0, .ref (κ.1 + v0)), (1, .int v1), (2, .int v2), (3, .int v3)]) hx hb dX12_moonsOf_14 hl (by decide) rfl (fun ls hl => ?_)
  exact F_X12_moonsOf_16_ok X hr hlk v0 v1 v2 v3 (1 : Int32) (0 : Int32) hW4 M _ h hK H locs ls O (lv_sub hl [2, 3, 4, 5, 1, 0] rfl)
set_option maxRecDepth 100000 in
set_option maxHeartbeats 4000000 in
theorem F_X12_moonsOf_4_ok (X : xX p s m args c cX12_moonsOf 7 RX12 κ) (hr : meth.sig.returnType = (some .int)) (hlk : meth.locks = false) {ro : Int32} {mo : xM} (v0 : Nat) (v1 : Int32) (v2 : Int32) (v3 : Int32) (M : xM) (x : Int32 × xM) (h : F_X12_moonsOf_4 v0 v1 v2 v3 M = some x) (hK : (fun o => o = (ro, mo)) x) (H : Heap) (locs : List Loc) (ls : Array Slot) (O : xO κ s M H locs) (hl : lv_has ls 7 [(0, .ref (κ.1 + v0)), (1, .int v1), (2, .int v2), (3, .int v3)]) : W p l e (xRm 5 0 0) s m args below meth c H locs 0 0 (xQf below args s 0 0 κ (some (.int ro)) mo) (F0 m 4 ls []) := by
  refine xit_K (Wh := fun x => ∀ (H : Heap) (locs : List Loc) (ls : Array Slot), xO κ s x.2.2 H locs → lv_has ls 7 [(0, .ref (κ.1 + v0)), (1, .int v1), (2, .int x.1), (3, .int x.2.1)] → W p l e (xRm 5 0 0) s m args below meth c H locs 0 0 (xQf below args s 0 0 κ (some (.int ro)) mo) (F0 m 4 ls [])) (Kp := (fun o => o = (ro, mo))) ?_ xFU (v2, v3, M) x h hK H locs ls O hl
  intro y x h hK H locs ls O hl
  exact F_X12_moonsOf_4_bok X hr hlk v0 v1 y.1 y.2.1 (fun _ _ _ hw => hw) y.2.2 x h hK H locs ls O hl
set_option maxRecDepth 100000 in
set_option maxHeartbeats 4000000 in
theorem T_X12_moonsOf (l : Launch) (κ : xQ) (a0 : Nat) (a1 : Int32) (M : xM) (ro : Int32) (mo : xM) (h : F_X12_moonsOf a0 a1 M = some (ro, mo)) : xC l yX12_moonsOf cX12_moonsOf 7 (some .int) 5 0 0 κ [.ref (κ.1 + a0), .int a1] M (some (.int ro)) mo := by
  refine xC_of rfl (Nat.le_of_ble_eq_true rfl) fun p e s m args below meth c X hr hlk hnm H locs ls O hl => ?_
  have X : xX p s m args c cX12_moonsOf 7 RX12 κ := X
  have hl : lv_has ls 7 [(0, .ref (κ.1 + a0)), (1, .int a1)] := hl
  have hx := X.1
  have hb := X.2.1
  obtain ⟨x, hx0⟩ : ∃ x, (ro, mo) = x := ⟨_, rfl⟩
  rw [hx0] at h
  have hK : x = (ro, mo) := hx0.symm
  unfold F_X12_moonsOf at h
  refine lv_iconst (v := (0 : Int32)) hx hb dX12_moonsOf_0 (by decide) ?_
  refine lv_istore_n (lv' := [(2, .int (0 : Int32)), (0, .ref (κ.1 + a0)), (1, .int a1)]) hx hb dX12_moonsOf_1 rfl hl (by decide) rfl (fun ls hl => ?_)
  refine lv_iconst (v := (0 : Int32)) hx hb dX12_moonsOf_2 (by decide) ?_
  refine lv_istore_n (lv' := [(3, .int (0 : Int32)), (2, .int (0 : Int32)), (0, .ref (κ.1 + a0)), (1, .int a1)]) hx hb dX12_moonsOf_3 rfl hl (by decide) rfl (fun ls hl => ?_)
  exact F_X12_moonsOf_4_ok X hr hlk a0 a1 (0 : Int32) (0 : Int32) M _ h hK H locs ls O (lv_sub hl [2, 3, 1, 0] rfl)
def F_X12_moons (a0 : Nat) (a1 : Int32) (M : xM) : Option (Int32 × xM) :=
(xpI M a0 12 0 (0 : Int32)).bind fun t1 =>
(xck t1 a0 12).bind fun _ =>
(F_X12_noLooked a0 a1 t1).bind fun t3 =>
if t3.1 = 0 then (
(xck t3.2 a0 12).bind fun _ =>
(F_X12_moonsOf a0 a1 t3.2).bind fun t5 =>
some (t5.1, t5.2))
else (
some (t3.1, t3.2))
set_option maxRecDepth 100000 in
set_option maxHeartbeats 4000000 in
theorem T_X12_moons (l : Launch) (κ : xQ) (a0 : Nat) (a1 : Int32) (M : xM) (ro : Int32) (mo : xM) (h : F_X12_moons a0 a1 M = some (ro, mo)) : xC l yX12_moons cX12_moons 3 (some .int) 6 0 0 κ [.ref (κ.1 + a0), .int a1] M (some (.int ro)) mo := by
  refine xC_of rfl (Nat.le_of_ble_eq_true rfl) fun p e s m args below meth c X hr hlk hnm H locs ls O hl => ?_
  have X : xX p s m args c cX12_moons 3 RX12 κ := X
  have hl : lv_has ls 3 [(0, .ref (κ.1 + a0)), (1, .int a1)] := hl
  have hx := X.1
  have hb := X.2.1
  obtain ⟨x, hx0⟩ : ∃ x, (ro, mo) = x := ⟨_, rfl⟩
  rw [hx0] at h
  have hK : x = (ro, mo) := hx0.symm
  unfold F_X12_moons at h
  refine lv_aload_n hx hb dX12_moons_0 rfl (lv_at hl 0 rfl) ?_
  refine lv_iconst (v := (0 : Int32)) hx hb dX12_moons_1 (by decide) ?_
  obtain ⟨t1, ht1, h⟩ := Option.bind_eq_some_iff.mp h
  refine xr_putI X O ht1 fl_X12_1 dX12_moons_2 (fun H locs O => ?_)
  refine lv_aload_n hx hb dX12_moons_5 rfl (lv_at hl 0 rfl) ?_
  refine lv_iload_n hx hb dX12_moons_6 rfl (lv_at hl 1 rfl) ?_
  obtain ⟨_, hut2, h⟩ := Option.bind_eq_some_iff.mp h
  obtain ⟨t3, ht3, h⟩ := Option.bind_eq_some_iff.mp h
  refine xr_callV (rest := []) X O (T_X12_noLooked l κ a0 a1 t1 _ _ ht3) lk_X12_435 hut2 (Nat.le_of_ble_eq_true rfl) rfl hl.1 rfl (Nat.le_of_ble_eq_true rfl) dX12_moons_7 ⟨Nat.le_of_ble_eq_true rfl, Nat.le_of_ble_eq_true rfl⟩ (fun H locs O => ?_)
  refine W.eq (g2 := F0 m 10 ls [.int t3.1]) rfl ?_
  refine lv_istore_n (lv' := [(2, .int t3.1), (0, .ref (κ.1 + a0)), (1, .int a1)]) hx hb dX12_moons_10 rfl hl (by decide) rfl (fun ls hl => ?_)
  refine lv_iload_n hx hb dX12_moons_11 rfl (lv_at hl 0 rfl) ?_
  refine lv_if_eq (tgt := 19) hx hb dX12_moons_12 (by decide) (fun hc12 => ?_) (fun hc12 => ?_)
  · rw [if_pos hc12] at h
    refine lv_aload_n hx hb dX12_moons_19 rfl (lv_at hl 1 rfl) ?_
    refine lv_iload_n hx hb dX12_moons_20 rfl (lv_at hl 2 rfl) ?_
    obtain ⟨_, hut4, h⟩ := Option.bind_eq_some_iff.mp h
    obtain ⟨t5, ht5, h⟩ := Option.bind_eq_some_iff.mp h
    refine xr_callV (rest := []) X O (T_X12_moonsOf l κ a0 a1 t3.2 _ _ ht5) lk_X12_438 hut4 (Nat.le_of_ble_eq_true rfl) rfl hl.1 rfl (Nat.le_of_ble_eq_true rfl) dX12_moons_21 ⟨Nat.le_of_ble_eq_true rfl, Nat.le_of_ble_eq_true rfl⟩ (fun H locs O => ?_)
    refine W.eq (g2 := F0 m 24 ls [.int t5.1]) rfl ?_
    rw [← Option.some.inj h] at hK
    have hK : (t5.1, t5.2) = (ro, mo) := hK
    obtain ⟨hK1, hK2⟩ := Prod.mk.inj hK
    rw [hK2] at O
    refine xr_top (w := .int ro) (by rw [hK1]) ?_
    exact xr_iret X hr hlk O dX12_moons_24
  rw [if_neg hc12] at h
  refine lv_iload_n hx hb dX12_moons_15 rfl (lv_at hl 0 rfl) ?_
  refine lv_goto (tgt := 24) hx hb dX12_moons_16 (by decide) ?_
  rw [← Option.some.inj h] at hK
  have hK : (t3.1, t3.2) = (ro, mo) := hK
  obtain ⟨hK1, hK2⟩ := Prod.mk.inj hK
  rw [hK2] at O
  refine xr_top (w := .int ro) (by rw [hK1]) ?_
  exact xr_iret X hr hlk O dX12_moons_24
end G
