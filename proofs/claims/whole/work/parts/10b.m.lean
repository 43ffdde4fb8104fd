section G
variable {p : Program} {l : Launch} {e : Env} {s : State} {m : MethodId} {args : Array Value} {below : List Frame} {meth : Method} {c : Code} {κ : xQ}
def F_X3_setSize_48 (M : xM) : Option (xM) :=
some M
def F_X3_setSize_17b (v0 : Nat) : (Int32 × xM) → Option ((Int32 × xM) ⊕ (xM)) := fun ⟨v3, M⟩ =>
(xgI M v0 3 0).bind fun t4 =>
if t4 ≤ v3 then (
(F_X3_setSize_48 M).map Sum.inr)
else (
(xgI M v0 3 2).bind fun t5 =>
(xgI M v0 3 1).bind fun t6 =>
(xpI M v0 3 2 (t5 ||| ((1 : Int32) <<< ((v3 * t6) &&& 31)))).bind fun t7 =>
some (.inl ((v3 + 1), t7)))
def F_X3_setSize_17 (v0 : Nat) (v3 : Int32) (M : xM) : Option (xM) := xit (F_X3_setSize_17b v0) xFU (v3, M)
def F_X3_setSize (a0 : Nat) (a1 : Int32) (a2 : Int32) (M : xM) : Option (xM) :=
(xpI M a0 3 0 a1).bind fun t1 =>
(xpI t1 a0 3 1 a2).bind fun t2 =>
(xpI t2 a0 3 2 (0 : Int32)).bind fun t3 =>
F_X3_setSize_17 a0 (0 : Int32) t3
set_option maxRecDepth 100000 in
set_option maxHeartbeats 4000000 in
theorem F_X3_setSize_48_ok (X : xX p s m args c cX3_setSize 4 RX3 κ) (hr : meth.sig.returnType = none) (hlk : meth.locks = false) {mo : xM} (M : xM) (x : xM) (h : F_X3_setSize_48 M = some x) (hK : (fun o => o = mo) x) (H : Heap) (locs : List Loc) (ls : Array Slot) (O : xO κ s M H locs) (hl : lv_has ls 4 []) : W p l e (xRm 2 0 0) s m args below meth c H locs 0 0 (xQf below args s 0 0 κ none mo) (F0 m 48 ls []) := by
  unfold F_X3_setSize_48 at h
  have hx := X.1
  have hb := X.2.1
  rw [← Option.some.inj h] at hK
  have hK : M = mo := hK
  rw [hK] at O
  exact xr_vret X hr hlk O dX3_setSize_48
set_option maxRecDepth 100000 in
set_option maxHeartbeats 4000000 in
theorem F_X3_setSize_17_bok (X : xX p s m args c cX3_setSize 4 RX3 κ) (hr : meth.sig.returnType = none) (hlk : meth.locks = false) {mo : xM} (v0 : Nat) (v3 : Int32) {W17 : Int32 × xM → Prop} (hW17 : ∀ (v3 : Int32) (M : xM), W17 (v3, M) → ∀ (H : Heap) (locs : List Loc) (ls : Array Slot), xO κ s M H locs → lv_has ls 4 [(0, .ref (κ.1 + v0)), (3, .int v3)] → W p l e (xRm 2 0 0) s m args below meth c H locs 0 0 (xQf below args s 0 0 κ none mo) (F0 m 17 ls [])) (M : xM) (x : (Int32 × xM) ⊕ (xM)) (h : F_X3_setSize_17b v0 (v3, M) = some x) (hK : (xKl W17 (fun o => o = mo)) x) (H : Heap) (locs : List Loc) (ls : Array Slot) (O : xO κ s M H locs) (hl : lv_has ls 4 [(0, .ref (κ.1 + v0)), (3, .int v3)]) : W p l e (xRm 2 0 0) s m args below meth c H locs 0 0 (xQf below args s 0 0 κ none mo) (F0 m 17 ls []) := by
  unfold F_X3_setSize_17b at h
  dsimp only at h
  have hx := X.1
  have hb := X.2.1
  refine lv_iload_n hx hb dX3_setSize_17 rfl (lv_at hl 1 rfl) ?_
  refine lv_aload_n hx hb dX3_setSize_18 rfl (lv_at hl 0 rfl) ?_
  obtain ⟨t4, ht4, h⟩ := Option.bind_eq_some_iff.mp h
  refine xr_getI X O ht4 fl_X3_9 (Or.inl rfl) dX3_setSize_19 ?_
  refine lv_icmp_ge (tgt := 48) hx hb dX3_setSize_22 (by decide) (fun hc22 => ?_) (fun hc22 => ?_)
  · rw [if_pos hc22] at h
    obtain ⟨_, hw0, ew0⟩ := Option.map_eq_some_iff.mp h
    rw [← ew0] at hK
    have h := hw0
    exact F_X3_setSize_48_ok X hr hlk  M _ h hK H locs ls O (lv_sub hl [] rfl)
  rw [if_neg hc22] at h
  refine lv_aload_n hx hb dX3_setSize_25 rfl (lv_at hl 0 rfl) ?_
  refine lv_dup hx hb dX3_setSize_26 rfl ?_
  obtain ⟨t5, ht5, h⟩ := Option.bind_eq_some_iff.mp h
  refine xr_getI X O ht5 fl_X3_18 (Or.inl rfl) dX3_setSize_27 ?_
  refine lv_iconst (v := (1 : Int32)) hx hb dX3_setSize_30 (by decide) ?_
  refine lv_iload_n hx hb dX3_setSize_31 rfl (lv_at hl 1 rfl) ?_
  refine lv_aload_n hx hb dX3_setSize_32 rfl (lv_at hl 0 rfl) ?_
  obtain ⟨t6, ht6, h⟩ := Option.bind_eq_some_iff.mp h
  refine xr_getI X O ht6 fl_X3_15 (Or.inl rfl) dX3_setSize_33 ?_
  refine lv_imul hx hb dX3_setSize_36 ?_
  refine lv_ishl hx hb dX3_setSize_37 ?_
  refine lv_ior hx hb dX3_setSize_38 ?_
  obtain ⟨t7, ht7, h⟩ := Option.bind_eq_some_iff.mp h
  refine xr_putI X O ht7 fl_X3_18 dX3_setSize_39 (fun H locs O => ?_)
  refine lv_iinc (v := (v3 + 1)) (lv' := [(3, .int (v3 + 1)), (0, .ref (κ.1 + v0))]) hx hb dX3_setSize_42 hl (k := 1) rfl rfl (by decide) rfl (fun ls hl => ?_)
  refine lv_goto (tgt := 17) hx hb dX3_setSize_45 (by decide) ?_
  rw [← Option.some.inj h] at hK
  exact hW17 (v3 + 1) t7 hK H locs ls O (lv_sub hl [1, 0] rfl)
set_option maxRecDepth 100000 in
set_option maxHeartbeats 4000000 in
theorem F_X3_setSize_17_ok (X : xX p s m args c cX3_setSize 4 RX3 κ) (hr : meth.sig.returnType = none) (hlk : meth.locks = false) {mo : xM} (v0 : Nat) (v3 : Int32) (M : xM) (x : xM) (h : F_X3_setSize_17 v0 v3 M = some x) (hK : (fun o => o = mo) x) (H : Heap) (locs : List Loc) (ls : Array Slot) (O : xO κ s M H locs) (hl : lv_has ls 4 [(0, .ref (κ.1 + v0)), (3, .int v3)]) : W p l e (xRm 2 0 0) s m args below meth c H locs 0 0 (xQf below args s 0 0 κ none mo) (F0 m 17 ls []) := by
  refine xit_K (Wh := fun x => ∀ (H : Heap) (locs : List Loc) (ls : Array Slot), xO κ s x.2 H locs → lv_has ls 4 [(0, .ref (κ.1 + v0)), (3, .int x.1)] → W p l e (xRm 2 0 0) s m args below meth c H locs 0 0 (xQf below args s 0 0 κ none mo) (F0 m 17 ls [])) (Kp := (fun o => o = mo)) ?_ xFU (v3, M) x h hK H locs ls O hl
  intro y x h hK H locs ls O hl
  exact F_X3_setSize_17_bok X hr hlk v0 y.1 (fun _ _ hw => hw) y.2 x h hK H locs ls O hl
set_option maxRecDepth 100000 in
set_option maxHeartbeats 4000000 in
theorem T_X3_setSize (l : Launch) (κ : xQ) (a0 : Nat) (a1 : Int32) (a2 : Int32) (M : xM) (mo : xM) (h : F_X3_setSize a0 a1 a2 M = some mo) : xC l yX3_setSize cX3_setSize 4 none 2 0 0 κ [.ref (κ.1 + a0), .int a1, .int a2] M none mo := by
  refine xC_of rfl (Nat.le_of_ble_eq_true rfl) fun p e s m args below meth c X hr hlk hnm H locs ls O hl => ?_
  have X : xX p s m args c cX3_setSize 4 RX3 κ := X
  have hl : lv_has ls 4 [(0, .ref (κ.1 + a0)), (1, .int a1), (2, .int a2)] := hl
  have hx := X.1
  have hb := X.2.1
  obtain ⟨x, hx0⟩ : ∃ x, mo = x := ⟨_, rfl⟩
  rw [hx0] at h
  have hK : x = mo := hx0.symm
  unfold F_X3_setSize at h
  refine lv_aload_n hx hb dX3_setSize_0 rfl (lv_at hl 0 rfl) ?_
  refine lv_iload_n hx hb dX3_setSize_1 rfl (lv_at hl 1 rfl) ?_
  obtain ⟨t1, ht1, h⟩ := Option.bind_eq_some_iff.mp h
  refine xr_putI X O ht1 fl_X3_9 dX3_setSize_2 (fun H locs O => ?_)
  refine lv_aload_n hx hb dX3_setSize_5 rfl (lv_at hl 0 rfl) ?_
  refine lv_iload_n hx hb dX3_setSize_6 rfl (lv_at hl 2 rfl) ?_
  obtain ⟨t2, ht2, h⟩ := Option.bind_eq_some_iff.mp h
  refine xr_putI X O ht2 fl_X3_15 dX3_setSize_7 (fun H locs O => ?_)
  refine lv_aload_n hx hb dX3_setSize_10 rfl (lv_at hl 0 rfl) ?_
  refine lv_iconst (v := (0 : Int32)) hx hb dX3_setSize_11 (by decide) ?_
  obtain ⟨t3, ht3, h⟩ := Option.bind_eq_some_iff.mp h
  refine xr_putI X O ht3 fl_X3_18 dX3_setSize_12 (fun H locs O => ?_)
  refine lv_iconst (v := (0 : Int32)) hx hb dX3_setSize_15 (by decide) ?_
  refine lv_istore_n (lv' := [(3, .int (0 : Int32)), (0, .ref (κ.1 + a0)), (1, .int a1), (2, .int a2)]) hx hb dX3_setSize_16 rfl hl (by decide) rfl (fun ls hl => ?_)
  exact F_X3_setSize_17_ok X hr hlk a0 (0 : Int32) t3 _ h hK H locs ls O (lv_sub hl [1, 0] rfl)
def F_X3_clear (a0 : Nat) (M : xM) : Option (xM) :=
(xck M a0 3).bind fun _ =>
(F_X3_setSize a0 (1 : Int32) (1 : Int32) M).bind fun t2 =>
(xpI t2 a0 3 3 (0 : Int32)).bind fun t3 =>
(xpI t3 a0 3 4 (0 : Int32)).bind fun t4 =>
(xpI t4 a0 3 5 (0 : Int32)).bind fun t5 =>
(xpI t5 a0 3 6 (0 : Int32)).bind fun t6 =>
(xpI t6 a0 3 7 (0 : Int32)).bind fun t7 =>
(xpI t7 a0 3 8 (0 : Int32)).bind fun t8 =>
(xpI t8 a0 3 9 (0 : Int32)).bind fun t9 =>
(xpI t9 a0 3 10 (0 : Int32)).bind fun t10 =>
(xpI t10 a0 3 11 (0 : Int32)).bind fun t11 =>
(xgP t11 a0 3 16).bind fun t12 =>
(F_J7_fill_53178 t12 (0 : Int32) t11).bind fun t13 =>
some t13
set_option maxRecDepth 100000 in
set_option maxHeartbeats 4000000 in
theorem T_X3_clear (l : Launch) (κ : xQ) (a0 : Nat) (M : xM) (mo : xM) (h : F_X3_clear a0 M = some mo) : xC l yX3_clear cX3_clear 1 none 3 0 0 κ [.ref (κ.1 + a0)] M none mo := by
  refine xC_of rfl (Nat.le_of_ble_eq_true rfl) fun p e s m args below meth c X hr hlk hnm H locs ls O hl => ?_
  have X : xX p s m args c cX3_clear 1 RX3 κ := X
  have hl : lv_has ls 1 [(0, .ref (κ.1 + a0))] := hl
  have hx := X.1
  have hb := X.2.1
  obtain ⟨x, hx0⟩ : ∃ x, mo = x := ⟨_, rfl⟩
  rw [hx0] at h
  have hK : x = mo := hx0.symm
  unfold F_X3_clear at h
  refine lv_aload_n hx hb dX3_clear_0 rfl (lv_at hl 0 rfl) ?_
  refine lv_iconst (v := (1 : Int32)) hx hb dX3_clear_1 (by decide) ?_
  refine lv_iconst (v := (1 : Int32)) hx hb dX3_clear_2 (by decide) ?_
  obtain ⟨_, hut1, h⟩ := Option.bind_eq_some_iff.mp h
  obtain ⟨t2, ht2, h⟩ := Option.bind_eq_some_iff.mp h
  refine xr_callV (rest := []) X O (T_X3_setSize l κ a0 (1 : Int32) (1 : Int32) M _ ht2) lk_X3_40 hut1 (Nat.le_of_ble_eq_true rfl) rfl hl.1 rfl (Nat.le_of_ble_eq_true rfl) dX3_clear_3 ⟨Nat.le_of_ble_eq_true rfl, Nat.le_of_ble_eq_true rfl⟩ (fun H locs O => ?_)
  refine W.eq (g2 := F0 m 6 ls []) rfl ?_
  refine lv_aload_n hx hb dX3_clear_6 rfl (lv_at hl 0 rfl) ?_
  refine lv_iconst (v := (0 : Int32)) hx hb dX3_clear_7 (by decide) ?_
  obtain ⟨t3, ht3, h⟩ := Option.bind_eq_some_iff.mp h
  refine xr_putI X O ht3 fl_X3_44 dX3_clear_8 (fun H locs O => ?_)
  refine lv_aload_n hx hb dX3_clear_11 rfl (lv_at hl 0 rfl) ?_
  refine lv_iconst (v := (0 : Int32)) hx hb dX3_clear_12 (by decide) ?_
  obtain ⟨t4, ht4, h⟩ := Option.bind_eq_some_iff.mp h
  refine xr_putI X O ht4 fl_X3_47 dX3_clear_13 (fun H locs O => ?_)
  refine lv_aload_n hx hb dX3_clear_16 rfl (lv_at hl 0 rfl) ?_
  refine lv_iconst (v := (0 : Int32)) hx hb dX3_clear_17 (by decide) ?_
  obtain ⟨t5, ht5, h⟩ := Option.bind_eq_some_iff.mp h
  refine xr_putI X O ht5 fl_X3_50 dX3_clear_18 (fun H locs O => ?_)
  refine lv_aload_n hx hb dX3_clear_21 rfl (lv_at hl 0 rfl) ?_
  refine lv_iconst (v := (0 : Int32)) hx hb dX3_clear_22 (by decide) ?_
  obtain ⟨t6, ht6, h⟩ := Option.bind_eq_some_iff.mp h
  refine xr_putI X O ht6 fl_X3_53 dX3_clear_23 (fun H locs O => ?_)
  refine lv_aload_n hx hb dX3_clear_26 rfl (lv_at hl 0 rfl) ?_
  refine lv_iconst (v := (0 : Int32)) hx hb dX3_clear_27 (by decide) ?_
  obtain ⟨t7, ht7, h⟩ := Option.bind_eq_some_iff.mp h
  refine xr_putI X O ht7 fl_X3_56 dX3_clear_28 (fun H locs O => ?_)
  refine lv_aload_n hx hb dX3_clear_31 rfl (lv_at hl 0 rfl) ?_
  refine lv_iconst (v := (0 : Int32)) hx hb dX3_clear_32 (by decide) ?_
  obtain ⟨t8, ht8, h⟩ := Option.bind_eq_some_iff.mp h
  refine xr_putI X O ht8 fl_X3_59 dX3_clear_33 (fun H locs O => ?_)
  refine lv_aload_n hx hb dX3_clear_36 rfl (lv_at hl 0 rfl) ?_
  refine lv_iconst (v := (0 : Int32)) hx hb dX3_clear_37 (by decide) ?_
  obtain ⟨t9, ht9, h⟩ := Option.bind_eq_some_iff.mp h
  refine xr_putI X O ht9 fl_X3_62 dX3_clear_38 (fun H locs O => ?_)
  refine lv_aload_n hx hb dX3_clear_41 rfl (lv_at hl 0 rfl) ?_
  refine lv_iconst (v := (0 : Int32)) hx hb dX3_clear_42 (by decide) ?_
  obtain ⟨t10, ht10, h⟩ := Option.bind_eq_some_iff.mp h
  refine xr_putI X O ht10 fl_X3_65 dX3_clear_43 (fun H locs O => ?_)
  refine lv_aload_n hx hb dX3_clear_46 rfl (lv_at hl 0 rfl) ?_
  refine lv_iconst (v := (0 : Int32)) hx hb dX3_clear_47 (by decide) ?_
  obtain ⟨t11, ht11, h⟩ := Option.bind_eq_some_iff.mp h
  refine xr_putI X O ht11 fl_X3_68 dX3_clear_48 (fun H locs O => ?_)
  refine lv_aload_n hx hb dX3_clear_51 rfl (lv_at hl 0 rfl) ?_
  obtain ⟨t12, ht12, h⟩ := Option.bind_eq_some_iff.mp h
  refine xr_getP X O ht12 fl_X3_34 dX3_clear_52 ?_
  refine lv_iconst (v := (0 : Int32)) hx hb dX3_clear_55 (by decide) ?_
  obtain ⟨t13, ht13, h⟩ := Option.bind_eq_some_iff.mp h
  refine xr_callS (rest := []) X O (T_J7_fill_53178 l κ t12 (0 : Int32) t11 _ ht13) lk_X3_71 (Nat.le_of_ble_eq_true rfl) rfl hl.1 rfl (Nat.le_of_ble_eq_true rfl) dX3_clear_56 ⟨Nat.le_of_ble_eq_true rfl, Nat.le_of_ble_eq_true rfl⟩ (fun H locs O => ?_)
  refine W.eq (g2 := F0 m 59 ls []) rfl ?_
  rw [← Option.some.inj h] at hK
  have hK : t13 = mo := hK
  rw [hK] at O
  exact xr_vret X hr hlk O dX3_clear_59
def F_X3_take (a0 : Nat) (a1 : Nat) (M : xM) : Option (xM) :=
(xgI M a1 3 0).bind fun t1 =>
(xpI M a0 3 0 t1).bind fun t2 =>
(xgI t2 a1 3 1).bind fun t3 =>
(xpI t2 a0 3 1 t3).bind fun t4 =>
(xgI t4 a1 3 2).bind fun t5 =>
(xpI t4 a0 3 2 t5).bind fun t6 =>
(xgI t6 a1 3 3).bind fun t7 =>
(xpI t6 a0 3 3 t7).bind fun t8 =>
(xgI t8 a1 3 4).bind fun t9 =>
(xpI t8 a0 3 4 t9).bind fun t10 =>
(xgI t10 a1 3 5).bind fun t11 =>
(xpI t10 a0 3 5 t11).bind fun t12 =>
(xgI t12 a1 3 6).bind fun t13 =>
(xpI t12 a0 3 6 t13).bind fun t14 =>
(xgI t14 a1 3 7).bind fun t15 =>
(xpI t14 a0 3 7 t15).bind fun t16 =>
(xgI t16 a1 3 8).bind fun t17 =>
(xpI t16 a0 3 8 t17).bind fun t18 =>
(xgI t18 a1 3 9).bind fun t19 =>
(xpI t18 a0 3 9 t19).bind fun t20 =>
(xgI t20 a1 3 10).bind fun t21 =>
(xpI t20 a0 3 10 t21).bind fun t22 =>
(xgI t22 a1 3 11).bind fun t23 =>
(xpI t22 a0 3 11 t23).bind fun t24 =>
(xgP t24 a1 3 12).bind fun t25 =>
(xgP t24 a0 3 12).bind fun t26 =>
(xcp t24 t25 (0 : Int32) t26 (0 : Int32) (6 : Int32)).bind fun t27 =>
(xgP t27 a1 3 13).bind fun t28 =>
(xgP t27 a0 3 13).bind fun t29 =>
(xcp t27 t28 (0 : Int32) t29 (0 : Int32) (6 : Int32)).bind fun t30 =>
(xgP t30 a1 3 14).bind fun t31 =>
(xgP t30 a0 3 14).bind fun t32 =>
(xcp t30 t31 (0 : Int32) t32 (0 : Int32) (6 : Int32)).bind fun t33 =>
(xgP t33 a1 3 15).bind fun t34 =>
(xgP t33 a0 3 15).bind fun t35 =>
(xcp t33 t34 (0 : Int32) t35 (0 : Int32) (6 : Int32)).bind fun t36 =>
(xgP t36 a1 3 16).bind fun t37 =>
(xgP t36 a0 3 16).bind fun t38 =>
(xcp t36 t37 (0 : Int32) t38 (0 : Int32) (5 : Int32)).bind fun t39 =>
(xgP t39 a1 3 17).bind fun t40 =>
(xgP t39 a0 3 17).bind fun t41 =>
(xgI t39 a0 3 7).bind fun t42 =>
(xcp t39 t40 (0 : Int32) t41 (0 : Int32) t42).bind fun t43 =>
some t43
set_option maxRecDepth 100000 in
set_option maxHeartbeats 4000000 in
theorem T_X3_take (l : Launch) (κ : xQ) (a0 : Nat) (a1 : Nat) (M : xM) (mo : xM) (h : F_X3_take a0 a1 M = some mo) : xC l yX3_take cX3_take 2 none 2 0 0 κ [.ref (κ.1 + a0), .ref (κ.1 + a1)] M none mo := by
  refine xC_of rfl (Nat.le_of_ble_eq_true rfl) fun p e s m args below meth c X hr hlk hnm H locs ls O hl => ?_
  have X : xX p s m args c cX3_take 2 RX3 κ := X
  have hl : lv_has ls 2 [(0, .ref (κ.1 + a0)), (1, .ref (κ.1 + a1))] := hl
  have hx := X.1
  have hb := X.2.1
  obtain ⟨x, hx0⟩ : ∃ x, mo = x := ⟨_, rfl⟩
  rw [hx0] at h
  have hK : x = mo := hx0.symm
  unfold F_X3_take at h
  refine lv_aload_n hx hb dX3_take_0 rfl (lv_at hl 0 rfl) ?_
  refine lv_aload_n hx hb dX3_take_1 rfl (lv_at hl 1 rfl) ?_
  obtain ⟨t1, ht1, h⟩ := Option.bind_eq_some_iff.mp h
  refine xr_getI X O ht1 fl_X3_9 (Or.inl rfl) dX3_take_2 ?_
  obtain ⟨t2, ht2, h⟩ := Option.bind_eq_some_iff.mp h
  refine xr_putI X O ht2 fl_X3_9 dX3_take_5 (fun H locs O => ?_)
  refine lv_aload_n hx hb dX3_take_8 rfl (lv_at hl 0 rfl) ?_
  refine lv_aload_n hx hb dX3_take_9 rfl (lv_at hl 1 rfl) ?_
  obtain ⟨t3, ht3, h⟩ := Option.bind_eq_some_iff.mp h
  refine xr_getI X O ht3 fl_X3_15 (Or.inl rfl) dX3_take_10 ?_
  obtain ⟨t4, ht4, h⟩ := Option.bind_eq_some_iff.mp h
  refine xr_putI X O ht4 fl_X3_15 dX3_take_13 (fun H locs O => ?_)
  refine lv_aload_n hx hb dX3_take_16 rfl (lv_at hl 0 rfl) ?_
  refine lv_aload_n hx hb dX3_take_17 rfl (lv_at hl 1 rfl) ?_
  obtain ⟨t5, ht5, h⟩ := Option.bind_eq_some_iff.mp h
  refine xr_getI X O ht5 fl_X3_18 (Or.inl rfl) dX3_take_18 ?_
  obtain ⟨t6, ht6, h⟩ := Option.bind_eq_some_iff.mp h
  refine xr_putI X O ht6 fl_X3_18 dX3_take_21 (fun H locs O => ?_)
  refine lv_aload_n hx hb dX3_take_24 rfl (lv_at hl 0 rfl) ?_
  refine lv_aload_n hx hb dX3_take_25 rfl (lv_at hl 1 rfl) ?_
  obtain ⟨t7, ht7, h⟩ := Option.bind_eq_some_iff.mp h
  refine xr_getI X O ht7 fl_X3_44 (Or.inl rfl) dX3_take_26 ?_
  obtain ⟨t8, ht8, h⟩ := Option.bind_eq_some_iff.mp h
  refine xr_putI X O ht8 fl_X3_44 dX3_take_29 (fun H locs O => ?_)
  refine lv_aload_n hx hb dX3_take_32 rfl (lv_at hl 0 rfl) ?_
  refine lv_aload_n hx hb dX3_take_33 rfl (lv_at hl 1 rfl) ?_
  obtain ⟨t9, ht9, h⟩ := Option.bind_eq_some_iff.mp h
  refine xr_getI X O ht9 fl_X3_47 (Or.inl rfl) dX3_take_34 ?_
  obtain ⟨t10, ht10, h⟩ := Option.bind_eq_some_iff.mp h
  refine xr_putI X O ht10 fl_X3_47 dX3_take_37 (fun H locs O => ?_)
  refine lv_aload_n hx hb dX3_take_40 rfl (lv_at hl 0 rfl) ?_
  refine lv_aload_n hx hb dX3_take_41 rfl (lv_at hl 1 rfl) ?_
  obtain ⟨t11, ht11, h⟩ := Option.bind_eq_some_iff.mp h
  refine xr_getI X O ht11 fl_X3_50 (Or.inl rfl) dX3_take_42 ?_
  obtain ⟨t12, ht12, h⟩ := Option.bind_eq_some_iff.mp h
  refine xr_putI X O ht12 fl_X3_50 dX3_take_45 (fun H locs O => ?_)
  refine lv_aload_n hx hb dX3_take_48 rfl (lv_at hl 0 rfl) ?_
  refine lv_aload_n hx hb dX3_take_49 rfl (lv_at hl 1 rfl) ?_
  obtain ⟨t13, ht13, h⟩ := Option.bind_eq_some_iff.mp h
  refine xr_getI X O ht13 fl_X3_53 (Or.inl rfl) dX3_take_50 ?_
  obtain ⟨t14, ht14, h⟩ := Option.bind_eq_some_iff.mp h
  refine xr_putI X O ht14 fl_X3_53 dX3_take_53 (fun H locs O => ?_)
  refine lv_aload_n hx hb dX3_take_56 rfl (lv_at hl 0 rfl) ?_
  refine lv_aload_n hx hb dX3_take_57 rfl (lv_at hl 1 rfl) ?_
  obtain ⟨t15, ht15, h⟩ := Option.bind_eq_some_iff.mp h
  refine xr_getI X O ht15 fl_X3_56 (Or.inl rfl) dX3_take_58 ?_
  obtain ⟨t16, ht16, h⟩ := Option.bind_eq_some_iff.mp h
  refine xr_putI X O ht16 fl_X3_56 dX3_take_61 (fun H locs O => ?_)
  refine lv_aload_n hx hb dX3_take_64 rfl (lv_at hl 0 rfl) ?_
  refine lv_aload_n hx hb dX3_take_65 rfl (lv_at hl 1 rfl) ?_
  obtain ⟨t17, ht17, h⟩ := Option.bind_eq_some_iff.mp h
  refine xr_getI X O ht17 fl_X3_59 (Or.inl rfl) dX3_take_66 ?_
  obtain ⟨t18, ht18, h⟩ := Option.bind_eq_some_iff.mp h
  refine xr_putI X O ht18 fl_X3_59 dX3_take_69 (fun H locs O => ?_)
  refine lv_aload_n hx hb dX3_take_72 rfl (lv_at hl 0 rfl) ?_
  refine lv_aload_n hx hb dX3_take_73 rfl (lv_at hl 1 rfl) ?_
  obtain ⟨t19, ht19, h⟩ := Option.bind_eq_some_iff.mp h
  refine xr_getI X O ht19 fl_X3_62 (Or.inl rfl) dX3_take_74 ?_
  obtain ⟨t20, ht20, h⟩ := Option.bind_eq_some_iff.mp h
  refine xr_putI X O ht20 fl_X3_62 dX3_take_77 (fun H locs O => ?_)
  refine lv_aload_n hx hb dX3_take_80 rfl (lv_at hl 0 rfl) ?_
  refine lv_aload_n hx hb dX3_take_81 rfl (lv_at hl 1 rfl) ?_
  obtain ⟨t21, ht21, h⟩ := Option.bind_eq_some_iff.mp h
  refine xr_getI X O ht21 fl_X3_65 (Or.inl rfl) dX3_take_82 ?_
  obtain ⟨t22, ht22, h⟩ := Option.bind_eq_some_iff.mp h
  refine xr_putI X O ht22 fl_X3_65 dX3_take_85 (fun H locs O => ?_)
  refine lv_aload_n hx hb dX3_take_88 rfl (lv_at hl 0 rfl) ?_
  refine lv_aload_n hx hb dX3_take_89 rfl (lv_at hl 1 rfl) ?_
  obtain ⟨t23, ht23, h⟩ := Option.bind_eq_some_iff.mp h
  refine xr_getI X O ht23 fl_X3_68 (Or.inl rfl) dX3_take_90 ?_
  obtain ⟨t24, ht24, h⟩ := Option.bind_eq_some_iff.mp h
  refine xr_putI X O ht24 fl_X3_68 dX3_take_93 (fun H locs O => ?_)
  refine lv_aload_n hx hb dX3_take_96 rfl (lv_at hl 1 rfl) ?_
  obtain ⟨t25, ht25, h⟩ := Option.bind_eq_some_iff.mp h
  refine xr_getP X O ht25 fl_X3_21 dX3_take_97 ?_
  refine lv_iconst (v := (0 : Int32)) hx hb dX3_take_100 (by decide) ?_
  refine lv_aload_n hx hb dX3_take_101 rfl (lv_at hl 0 rfl) ?_
  obtain ⟨t26, ht26, h⟩ := Option.bind_eq_some_iff.mp h
  refine xr_getP X O ht26 fl_X3_21 dX3_take_102 ?_
  refine lv_iconst (v := (0 : Int32)) hx hb dX3_take_105 (by decide) ?_
  refine lv_bipush (v := (6 : Int32)) hx hb dX3_take_106 (by decide) ?_
  obtain ⟨t27, ht27, h⟩ := Option.bind_eq_some_iff.mp h
  refine xr_acp X O ht27 la_X3_77 hl.1 (by decide) (Nat.le_of_ble_eq_true rfl) dX3_take_108 (fun H locs O => ?_)
  refine lv_aload_n hx hb dX3_take_111 rfl (lv_at hl 1 rfl) ?_
  obtain ⟨t28, ht28, h⟩ := Option.bind_eq_some_iff.mp h
  refine xr_getP X O ht28 fl_X3_25 dX3_take_112 ?_
  refine lv_iconst (v := (0 : Int32)) hx hb dX3_take_115 (by decide) ?_
  refine lv_aload_n hx hb dX3_take_116 rfl (lv_at hl 0 rfl) ?_
  obtain ⟨t29, ht29, h⟩ := Option.bind_eq_some_iff.mp h
  refine xr_getP X O ht29 fl_X3_25 dX3_take_117 ?_
  refine lv_iconst (v := (0 : Int32)) hx hb dX3_take_120 (by decide) ?_
  refine lv_bipush (v := (6 : Int32)) hx hb dX3_take_121 (by decide) ?_
  obtain ⟨t30, ht30, h⟩ := Option.bind_eq_some_iff.mp h
  refine xr_acp X O ht30 la_X3_77 hl.1 (by decide) (Nat.le_of_ble_eq_true rfl) dX3_take_123 (fun H locs O => ?_)
  refine lv_aload_n hx hb dX3_take_126 rfl (lv_at hl 1 rfl) ?_
  obtain ⟨t31, ht31, h⟩ := Option.bind_eq_some_iff.mp h
  refine xr_getP X O ht31 fl_X3_28 dX3_take_127 ?_
  refine lv_iconst (v := (0 : Int32)) hx hb dX3_take_130 (by decide) ?_
  refine lv_aload_n hx hb dX3_take_131 rfl (lv_at hl 0 rfl) ?_
  obtain ⟨t32, ht32, h⟩ := Option.bind_eq_some_iff.mp h
  refine xr_getP X O ht32 fl_X3_28 dX3_take_132 ?_
  refine lv_iconst (v := (0 : Int32)) hx hb dX3_take_135 (by decide) ?_
  refine lv_bipush (v := (6 : Int32)) hx hb dX3_take_136 (by decide) ?_
  obtain ⟨t33, ht33, h⟩ := Option.bind_eq_some_iff.mp h
  refine xr_acp X O ht33 la_X3_77 hl.1 (by decide) (Nat.le_of_ble_eq_true rfl) dX3_take_138 (fun H locs O => ?_)
  refine lv_aload_n hx hb dX3_take_141 rfl (lv_at hl 1 rfl) ?_
  obtain ⟨t34, ht34, h⟩ := Option.bind_eq_some_iff.mp h
  refine xr_getP X O ht34 fl_X3_31 dX3_take_142 ?_
  refine lv_iconst (v := (0 : Int32)) hx hb dX3_take_145 (by decide) ?_
  refine lv_aload_n hx hb dX3_take_146 rfl (lv_at hl 0 rfl) ?_
  obtain ⟨t35, ht35, h⟩ := Option.bind_eq_some_iff.mp h
  refine xr_getP X O ht35 fl_X3_31 dX3_take_147 ?_
  refine lv_iconst (v := (0 : Int32)) hx hb dX3_take_150 (by decide) ?_
  refine lv_bipush (v := (6 : Int32)) hx hb dX3_take_151 (by decide) ?_
  obtain ⟨t36, ht36, h⟩ := Option.bind_eq_some_iff.mp h
  refine xr_acp X O ht36 la_X3_77 hl.1 (by decide) (Nat.le_of_ble_eq_true rfl) dX3_take_153 (fun H locs O => ?_)
  refine lv_aload_n hx hb dX3_take_156 rfl (lv_at hl 1 rfl) ?_
  obtain ⟨t37, ht37, h⟩ := Option.bind_eq_some_iff.mp h
  refine xr_getP X O ht37 fl_X3_34 dX3_take_157 ?_
  refine lv_iconst (v := (0 : Int32)) hx hb dX3_take_160 (by decide) ?_
  refine lv_aload_n hx hb dX3_take_161 rfl (lv_at hl 0 rfl) ?_
  obtain ⟨t38, ht38, h⟩ := Option.bind_eq_some_iff.mp h
  refine xr_getP X O ht38 fl_X3_34 dX3_take_162 ?_
  refine lv_iconst (v := (0 : Int32)) hx hb dX3_take_165 (by decide) ?_
  refine lv_iconst (v := (5 : Int32)) hx hb dX3_take_166 (by decide) ?_
  obtain ⟨t39, ht39, h⟩ := Option.bind_eq_some_iff.mp h
  refine xr_acp X O ht39 la_X3_77 hl.1 (by decide) (Nat.le_of_ble_eq_true rfl) dX3_take_167 (fun H locs O => ?_)
  refine lv_aload_n hx hb dX3_take_170 rfl (lv_at hl 1 rfl) ?_
  obtain ⟨t40, ht40, h⟩ := Option.bind_eq_some_iff.mp h
  refine xr_getP X O ht40 fl_X3_37 dX3_take_171 ?_
  refine lv_iconst (v := (0 : Int32)) hx hb dX3_take_174 (by decide) ?_
  refine lv_aload_n hx hb dX3_take_175 rfl (lv_at hl 0 rfl) ?_
  obtain ⟨t41, ht41, h⟩ := Option.bind_eq_some_iff.mp h
  refine xr_getP X O ht41 fl_X3_37 dX3_take_176 ?_
  refine lv_iconst (v := (0 : Int32)) hx hb dX3_take_179 (by decide) ?_
  refine lv_aload_n hx hb dX3_take_180 rfl (lv_at hl 0 rfl) ?_
  obtain ⟨t42, ht42, h⟩ := Option.bind_eq_some_iff.mp h
  refine xr_getI X O ht42 fl_X3_56 (Or.inl rfl) dX3_take_181 ?_
  obtain ⟨t43, ht43, h⟩ := Option.bind_eq_some_iff.mp h
  refine xr_acp X O ht43 la_X3_77 hl.1 (by decide) (Nat.le_of_ble_eq_true rfl) dX3_take_184 (fun H locs O => ?_)
  rw [← Option.some.inj h] at hK
  have hK : t43 = mo := hK
  rw [hK] at O
  exact xr_vret X hr hlk O dX3_take_187
def F_X3_addPlot (a0 : Nat) (a1 : Int32) (a2 : Int32) (a3 : Int32) (M : xM) : Option (xM) :=
(xgI M a0 3 5).bind fun t1 =>
if (6 : Int32) ≤ t1 then (
some M)
else (
(xgP M a0 3 12).bind fun t2 =>
(xgI M a0 3 5).bind fun t3 =>
(xsI M t2 t3 a1).bind fun t4 =>
(xgP t4 a0 3 13).bind fun t5 =>
(xgI t4 a0 3 5).bind fun t6 =>
(xsI t4 t5 t6 a2).bind fun t7 =>
(xgP t7 a0 3 14).bind fun t8 =>
(xgI t7 a0 3 5).bind fun t9 =>
(xsI t7 t8 t9 a3).bind fun t10 =>
(xgI t10 a0 3 5).bind fun t11 =>
(xpI t10 a0 3 5 (t11 + (1 : Int32))).bind fun t12 =>
some t12)
set_option maxRecDepth 100000 in
set_option maxHeartbeats 4000000 in
theorem T_X3_addPlot (l : Launch) (κ : xQ) (a0 : Nat) (a1 : Int32) (a2 : Int32) (a3 : Int32) (M : xM) (mo : xM) (h : F_X3_addPlot a0 a1 a2 a3 M = some mo) : xC l yX3_addPlot cX3_addPlot 4 none 2 0 0 κ [.ref (κ.1 + a0), .int a1, .int a2, .int a3] M none mo := by
  refine xC_of rfl (Nat.le_of_ble_eq_true rfl) fun p e s m args below meth c X hr hlk hnm H locs ls O hl => ?_
  have X : xX p s m args c cX3_addPlot 4 RX3 κ := X
  have hl : lv_has ls 4 [(0, .ref (κ.1 + a0)), (1, .int a1), (2, .int a2), (3, .int a3)] := hl
  have hx := X.1
  have hb := X.2.1
  obtain ⟨x, hx0⟩ : ∃ x, mo = x := ⟨_, rfl⟩
  rw [hx0] at h
  have hK : x = mo := hx0.symm
  unfold F_X3_addPlot at h
  refine lv_aload_n hx hb dX3_addPlot_0 rfl (lv_at hl 0 rfl) ?_
  obtain ⟨t1, ht1, h⟩ := Option.bind_eq_some_iff.mp h
  refine xr_getI X O ht1 fl_X3_50 (Or.inl rfl) dX3_addPlot_1 ?_
  refine lv_bipush (v := (6 : Int32)) hx hb dX3_addPlot_4 (by decide) ?_
  refine lv_icmp_ge (tgt := 49) hx hb dX3_addPlot_6 (by decide) (fun hc6 => ?_) (fun hc6 => ?_)
  · rw [if_pos hc6] at h
    rw [← Option.some.inj h] at hK
    have hK : M = mo := hK
    rw [hK] at O
    exact xr_vret X hr hlk O dX3_addPlot_49
  rw [if_neg hc6] at h
  refine lv_aload_n hx hb dX3_addPlot_9 rfl (lv_at hl 0 rfl) ?_
  obtain ⟨t2, ht2, h⟩ := Option.bind_eq_some_iff.mp h
  refine xr_getP X O ht2 fl_X3_21 dX3_addPlot_10 ?_
  refine lv_aload_n hx hb dX3_addPlot_13 rfl (lv_at hl 0 rfl) ?_
  obtain ⟨t3, ht3, h⟩ := Option.bind_eq_some_iff.mp h
  refine xr_getI X O ht3 fl_X3_50 (Or.inl rfl) dX3_addPlot_14 ?_
  refine lv_iload_n hx hb dX3_addPlot_17 rfl (lv_at hl 1 rfl) ?_
  obtain ⟨t4, ht4, h⟩ := Option.bind_eq_some_iff.mp h
  refine xr_stI X O ht4 dX3_addPlot_18 (fun H locs O => ?_)
  refine lv_aload_n hx hb dX3_addPlot_19 rfl (lv_at hl 0 rfl) ?_
  obtain ⟨t5, ht5, h⟩ := Option.bind_eq_some_iff.mp h
  refine xr_getP X O ht5 fl_X3_25 dX3_addPlot_20 ?_
  refine lv_aload_n hx hb dX3_addPlot_23 rfl (lv_at hl 0 rfl) ?_
  obtain ⟨t6, ht6, h⟩ := Option.bind_eq_some_iff.mp h
  refine xr_getI X O ht6 fl_X3_50 (Or.inl rfl) dX3_addPlot_24 ?_
  refine lv_iload_n hx hb dX3_addPlot_27 rfl (lv_at hl 2 rfl) ?_
  obtain ⟨t7, ht7, h⟩ := Option.bind_eq_some_iff.mp h
  refine xr_stI X O ht7 dX3_addPlot_28 (fun H locs O => ?_)
  refine lv_aload_n hx hb dX3_addPlot_29 rfl (lv_at hl 0 rfl) ?_
  obtain ⟨t8, ht8, h⟩ := Option.bind_eq_some_iff.mp h
  refine xr_getP X O ht8 fl_X3_28 dX3_addPlot_30 ?_
  refine lv_aload_n hx hb dX3_addPlot_33 rfl (lv_at hl 0 rfl) ?_
  obtain ⟨t9, ht9, h⟩ := Option.bind_eq_some_iff.mp h
  refine xr_getI X O ht9 fl_X3_50 (Or.inl rfl) dX3_addPlot_34 ?_
  refine lv_iload_n hx hb dX3_addPlot_37 rfl (lv_at hl 3 rfl) ?_
  obtain ⟨t10, ht10, h⟩ := Option.bind_eq_some_iff.mp h
  refine xr_stI X O ht10 dX3_addPlot_38 (fun H locs O => ?_)
  refine lv_aload_n hx hb dX3_addPlot_39 rfl (lv_at hl 0 rfl) ?_
  refine lv_dup hx hb dX3_addPlot_40 rfl ?_
  obtain ⟨t11, ht11, h⟩ := Option.bind_eq_some_iff.mp h
  refine xr_getI X O ht11 fl_X3_50 (Or.inl rfl) dX3_addPlot_41 ?_
  refine lv_iconst (v := (1 : Int32)) hx hb dX3_addPlot_44 (by decide) ?_
  refine lv_iadd hx hb dX3_addPlot_45 ?_
  obtain ⟨t12, ht12, h⟩ := Option.bind_eq_some_iff.mp h
  refine xr_putI X O ht12 fl_X3_50 dX3_addPlot_46 (fun H locs O => ?_)
  rw [← Option.some.inj h] at hK
  have hK : t12 = mo := hK
  rw [hK] at O
  exact xr_vret X hr hlk O dX3_addPlot_49
def F_X3_cellsBetween_114 (v0 : Nat) (v4 : Int32) (v5 : Int32) (v6 : Int32) (v7 : Int32) (v8 : Int32) (M : xM) : Option ((Int32 × Int32 × xM) ⊕ (Int32 × xM)) :=
some (.inl (v7, (v8 + 1), M))
def F_X3_cellsBetween_84b (v0 : Nat) (v4 : Int32) (v5 : Int32) (v6 : Int32) (v8 : Int32) : (Int32 × Int32 × xM) → Option ((Int32 × Int32 × xM) ⊕ ((Int32 × Int32 × xM) ⊕ (Int32 × xM))) := fun ⟨v7, v9, M⟩ =>
if v6 < v9 then (
(F_X3_cellsBetween_114 v0 v4 v5 v6 v7 v8 M).map Sum.inr)
else (
(xgI M v0 3 1).bind fun t13 =>
(some ((v7 ||| ((1 : Int32) <<< (((v8 * t13) + v9) &&& 31))))).bind fun t14 =>
some (.inl (t14, (v9 + 1), M)))
def F_X3_cellsBetween_84 (v0 : Nat) (v4 : Int32) (v5 : Int32) (v6 : Int32) (v7 : Int32) (v8 : Int32) (v9 : Int32) (M : xM) : Option ((Int32 × Int32 × xM) ⊕ (Int32 × xM)) := xit (F_X3_cellsBetween_84b v0 v4 v5 v6 v8) xFU (v7, v9, M)
def F_X3_cellsBetween_120 (v7 : Int32) (M : xM) : Option (Int32 × xM) :=
some (v7, M)
def F_X3_cellsBetween_73b (v0 : Nat) (v4 : Int32) (v5 : Int32) (v6 : Int32) : (Int32 × Int32 × xM) → Option ((Int32 × Int32 × xM) ⊕ (Int32 × xM)) := fun ⟨v7, v8, M⟩ =>
if v4 < v8 then (
(F_X3_cellsBetween_120 v7 M).map Sum.inr)
else (
F_X3_cellsBetween_84 v0 v4 v5 v6 v7 v8 v5 M)
def F_X3_cellsBetween_73 (v0 : Nat) (v4 : Int32) (v5 : Int32) (v6 : Int32) (v7 : Int32) (v8 : Int32) (M : xM) : Option (Int32 × xM) := xit (F_X3_cellsBetween_73b v0 v4 v5 v6) xFU (v7, v8, M)
def F_X3_cellsBetween (a0 : Nat) (a1 : Int32) (a2 : Int32) (M : xM) : Option (Int32 × xM) :=
(xgI M a0 3 1).bind fun t1 =>
if t1 = 0 then none else
(xgI M a0 3 1).bind fun t2 =>
if t2 = 0 then none else
(F_J9_min_7cf53 (a1 / t1) (a2 / t2) M).bind fun t3 =>
(xgI t3.2 a0 3 1).bind fun t4 =>
if t4 = 0 then none else
(xgI t3.2 a0 3 1).bind fun t5 =>
if t5 = 0 then none else
(F_J9_max_7cf53 (a1 / t4) (a2 / t5) t3.2).bind fun t6 =>
(xgI t6.2 a0 3 1).bind fun t7 =>
if t7 = 0 then none else
(xgI t6.2 a0 3 1).bind fun t8 =>
if t8 = 0 then none else
(F_J9_min_7cf53 (a1 - a1 / t7 * t7) (a2 - a2 / t8 * t8) t6.2).bind fun t9 =>
(xgI t9.2 a0 3 1).bind fun t10 =>
if t10 = 0 then none else
(xgI t9.2 a0 3 1).bind fun t11 =>
if t11 = 0 then none else
(F_J9_max_7cf53 (a1 - a1 / t10 * t10) (a2 - a2 / t11 * t11) t9.2).bind fun t12 =>
F_X3_cellsBetween_73 a0 t6.1 t9.1 t12.1 (0 : Int32) t3.1 t12.2
set_option maxRecDepth 100000 in
set_option maxHeartbeats 4000000 in
theorem F_X3_cellsBetween_114_ok (X : xX p s m args c cX3_cellsBetween 10 RX3 κ) (hr : meth.sig.returnType = (some .int)) (hlk : meth.locks = false) {ro : Int32} {mo : xM} (v0 : Nat) (v4 : Int32) (v5 : Int32) (v6 : Int32) (v7 : Int32) (v8 : Int32) {W73 : Int32 × Int32 × xM → Prop} (hW73 : ∀ (v7 : Int32) (v8 : Int32) (M : xM), W73 (v7, v8, M) → ∀ (H : Heap) (locs : List Loc) (ls : Array Slot), xO κ s M H locs → lv_has ls 10 [(0, .ref (κ.1 + v0)), (4, .int v4), (5, .int v5), (6, .int v6), (7, .int v7), (8, .int v8)] → W p l e (xRm 3 0 0) s m args below meth c H locs 0 0 (xQf below args s 0 0 κ (some (.int ro)) mo) (F0 m 73 ls [])) (M : xM) (x : (Int32 × Int32 × xM) ⊕ (Int32 × xM)) (h : F_X3_cellsBetween_114 v0 v4 v5 v6 v7 v8 M = some x) (hK : (xKl W73 (fun o => o = (ro, mo))) x) (H : Heap) (locs : List Loc) (ls : Array Slot) (O : xO κ s M H locs) (hl : lv_has ls 10 [(0, .ref (κ.1 + v0)), (4, .int v4), (5, .int v5), (6, .int v6), (7, .int v7), (8, .int v8)]) : W p l e (xRm 3 0 0) s m args below meth c H locs 0 0 (xQf below args s 0 0 κ (some (.int ro)) mo) (F0 m 114 ls []) := by
  unfold F_X3_cellsBetween_114 at h
  have hx := X.1
  have hb := X.2.1
  refine lv_iinc (v := (v8 + 1)) (lv' := [(8, .int (v8 + 1)), (0, .ref (κ.1 + v0)), (4, .int v4), (5, .int v5), (6, .int v6), (7, .int v7)]) hx hb dX3_cellsBetween_114 hl (k := 5) rfl rfl (by decide) rfl (fun ls hl => ?_)
  refine lv_goto (tgt := 73) hx hb dX3_cellsBetween_117 (by decide) ?_
  rw [← Option.some.inj h] at hK
  exact hW73 v7 (v8 + 1) M hK H locs ls O (lv_sub hl [1, 2, 3, 4, 5, 0] rfl)
set_option maxRecDepth 100000 in
set_option maxHeartbeats 4000000 in
theorem F_X3_cellsBetween_84_bok (X : xX p s m args c cX3_cellsBetween 10 RX3 κ) (hr : meth.sig.returnType = (some .int)) (hlk : meth.locks = false) {ro : Int32} {mo : xM} (v0 : Nat) (v4 : Int32) (v5 : Int32) (v6 : Int32) (v7 : Int32) (v8 : Int32) (v9 : Int32) {W73 : Int32 × Int32 × xM → Prop} (hW73 : ∀ (v7 : Int32) (v8 : Int32) (M : xM), W73 (v7, v8, M) → ∀ (H : Heap) (locs : List Loc) (ls : Array Slot), xO κ s M H locs → lv_has ls 10 [(0, .ref (κ.1 + v0)), (4, .int v4), (5, .int v5), (6, .int v6), (7, .int v7), (8, .int v8)] → W p l e (xRm 3 0 0) s m args below meth c H locs 0 0 (xQf below args s 0 0 κ (some (.int ro)) mo) (F0 m 73 ls [])) {W84 : Int32 × Int32 × xM → Prop} (hW84 : ∀ (v7 : Int32) (v9 : Int32) (M : xM), W84 (v7, v9, M) → ∀ (H : Heap) (locs : List Loc) (ls : Array Slot), xO κ s M H locs → lv_has ls 10 [(0, .ref (κ.1 + v0)), (4, .int v4), (5, .int v5), (6, .int v6), (7, .int v7), (8, .int v8), (9, .int v9)] → W p l e (xRm 3 0 0) s m args below meth c H locs 0 0 (xQf below args s 0 0 κ (some (.int ro)) mo) (F0 m 84 ls [])) (M : xM) (x : (Int32 × Int32 × xM) ⊕ ((Int32 × Int32 × xM) ⊕ (Int32 × xM))) (h : F_X3_cellsBetween_84b v0 v4 v5 v6 v8 (v7, v9, M) = some x) (hK : (xKl W84 (xKl W73 (fun o => o = (ro, mo)))) x) (H : Heap) (locs : List Loc) (ls : Array Slot) (O : xO κ s M H locs) (hl : lv_has ls 10 [(0, .ref (κ.1 + v0)), (4, .int v4), (5, .int v5), (6, .int v6), (7, .int v7), (8, .int v8), (9, .int v9)]) : W p l e (xRm 3 0 0) s m args below meth c H locs 0 0 (xQf below args s 0 0 κ (some (.int ro)) mo) (F0 m 84 ls []) := by
  unfold F_X3_cellsBetween_84b at h
  dsimp only at h
  have hx := X.1
  have hb := X.2.1
  refine lv_iload hx hb dX3_cellsBetween_84 (lv_at hl 6 rfl) ?_
  refine lv_iload hx hb dX3_cellsBetween_86 (lv_at hl 3 rfl) ?_
  refine lv_icmp_gt (tgt := 114) hx hb dX3_cellsBetween_88 (by decide) (fun hc88 => ?_) (fun hc88 => ?_)
  · rw [if_pos hc88] at h
    obtain ⟨_, hw0, ew0⟩ := Option.map_eq_some_iff.mp h
    rw [← ew0] at hK
    have h := hw0
    exact F_X3_cellsBetween_114_ok X hr hlk v0 v4 v5 v6 v7 v8 hW73 M _ h hK H locs ls O (lv_sub hl [0, 1, 2, 3, 4, 5] rfl)
  rw [if_neg hc88] at h
  refine lv_iload hx hb dX3_cellsBetween_91 (lv_at hl 4 rfl) ?_
  refine lv_iconst (v := (1 : Int32)) hx hb dX3_cellsBetween_93 (by decide) ?_
  refine lv_iload hx hb dX3_cellsBetween_94 (lv_at hl 5 rfl) ?_
  refine lv_aload_n hx hb dX3_cellsBetween_96 rfl (lv_at hl 0 rfl) ?_
  obtain ⟨t13, ht13, h⟩ := Option.bind_eq_some_iff.mp h
  refine xr_getI X O ht13 fl_X3_15 (Or.inl rfl) dX3_cellsBetween_97 ?_
  refine lv_imul hx hb dX3_cellsBetween_100 ?_
  refine lv_iload hx hb dX3_cellsBetween_101 (lv_at hl 6 rfl) ?_
  refine lv_iadd hx hb dX3_cellsBetween_103 ?_
  refine lv_ishl hx hb dX3_cellsBetween_104 ?_
  refine lv_ior hx hb dX3_cellsBetween_105 ?_
  obtain ⟨t14, ht14, h⟩ := Option.bind_eq_some_iff.mp h
  refine xr_top (w := .int t14) (by rw [Option.some.inj ht14]) ?_
  refine lv_istore (lv' := [(7, .int t14), (0, .ref (κ.1 + v0)), (4, .int v4), (5, .int v5), (6, .int v6), (8, .int v8), (9, .int v9)]) hx hb dX3_cellsBetween_106 hl (by decide) rfl (fun ls hl => ?_)
  refine lv_iinc (v := (v9 + 1)) (lv' := [(9, .int (v9 + 1)), (7, .int t14), (0, .ref (κ.1 + v0)), (4, .int v4), (5, .int v5), (6, .int v6), (8, .int v8)]) hx hb dX3_cellsBetween_108 hl (k := 6) rfl rfl (by decide) rfl (fun ls hl => ?_)
  refine lv_goto (tgt := 84) hx hb dX3_cellsBetween_111 (by decide) ?_
  rw [← Option.some.inj h] at hK
  exact hW84 t14 (v9 + 1) M hK H locs ls O (lv_sub hl [2, 3, 4, 5, 1, 6, 0] rfl)
set_option maxRecDepth 100000 in
set_option maxHeartbeats 4000000 in
theorem F_X3_cellsBetween_84_ok (X : xX p s m args c cX3_cellsBetween 10 RX3 κ) (hr : meth.sig.returnType = (some .int)) (hlk : meth.locks = false) {ro : Int32} {mo : xM} (v0 : Nat) (v4 : Int32) (v5 : Int32) (v6 : Int32) (v7 : Int32) (v8 : Int32) (v9 : Int32) {W73 : Int32 × Int32 × xM → Prop} (hW73 : ∀ (v7 : Int32) (v8 : Int32) (M : xM), W73 (v7, v8, M) → ∀ (H : Heap) (locs : List Loc) (ls : Array Slot), xO κ s M H locs → lv_has ls 10 [(0, .ref (κ.1 + v0)), (4, .int v4), (5, .int v5), (6, .int v6), (7, .int v7), (8, .int v8)] → W p l e (xRm 3 0 0) s m args below meth c H locs 0 0 (xQf below args s 0 0 κ (some (.int ro)) mo) (F0 m 73 ls [])) (M : xM) (x : (Int32 × Int32 × xM) ⊕ (Int32 × xM)) (h : F_X3_cellsBetween_84 v0 v4 v5 v6 v7 v8 v9 M = some x) (hK : (xKl W73 (fun o => o = (ro, mo))) x) (H : Heap) (locs : List Loc) (ls : Array Slot) (O : xO κ s M H locs) (hl : lv_has ls 10 [(0, .ref (κ.1 + v0)), (4, .int v4), (5, .int v5), (6, .int v6), (7, .int v7), (8, .int v8), (9, .int v9)]) : W p l e (xRm 3 0 0) s m args below meth c H locs 0 0 (xQf below args s 0 0 κ (some (.int ro)) mo) (F0 m 84 ls []) := by
  refine xit_K (Wh := fun x => ∀ (H : Heap) (locs : List Loc) (ls : Array Slot), xO κ s x.2.2 H locs → lv_has ls 10 [(0, .ref (κ.1 + v0)), (4, .int v4), (5, .int v5), (6, .int v6), (7, .int x.1), (8, .int v8), (9, .int x.2.1)] → W p l e (xRm 3 0 0) s m args below meth c H locs 0 0 (xQf below args s 0 0 κ (some (.int ro)) mo) (F0 m 84 ls [])) (Kp := (xKl W73 (fun o => o = (ro, mo)))) ?_ xFU (v7, v9, M) x h hK H locs ls O hl
  intro y x h hK H locs ls O hl
  exact F_X3_cellsBetween_84_bok X hr hlk v0 v4 v5 v6 y.1 v8 y.2.1 hW73 (fun _ _ _ hw => hw) y.2.2 x h hK H locs ls O hl
set_option maxRecDepth 100000 in
set_option maxHeartbeats 4000000 in
theorem F_X3_cellsBetween_120_ok (X : xX p s m args c cX3_cellsBetween 10 RX3 κ) (hr : meth.sig.returnType = (some .int)) (hlk : meth.locks = false) {ro : Int32} {mo : xM} (v7 : Int32) (M : xM) (x : Int32 × xM) (h : F_X3_cellsBetween_120 v7 M = some x) (hK : (fun o => o = (ro, mo)) x) (H : Heap) (locs : List Loc) (ls : Array Slot) (O : xO κ s M H locs) (hl : lv_has ls 10 [(7, .int v7)]) : W p l e (xRm 3 0 0) s m args below meth c H locs 0 0 (xQf below args s 0 0 κ (some (.int ro)) mo) (F0 m 120 ls []) := by
  unfold F_X3_cellsBetween_120 at h
  have hx := X.1
  have hb := X.2.1
  refine lv_iload hx hb dX3_cellsBetween_120 (lv_at hl 0 rfl) ?_
  rw [← Option.some.inj h] at hK
  have hK : (v7, M) = (ro, mo) := hK
  obtain ⟨hK1, hK2⟩ := Prod.mk.inj hK
  rw [hK2] at O
  refine xr_top (w := .int ro) (by rw [hK1]) ?_
  exact xr_iret X hr hlk O dX3_cellsBetween_122
set_option maxRecDepth 100000 in
set_option maxHeartbeats 4000000 in
theorem F_X3_cellsBetween_73_bok (X : xX p s m args c cX3_cellsBetween 10 RX3 κ) (hr : meth.sig.returnType = (some .int)) (hlk : meth.locks = false) {ro : Int32} {mo : xM} (v0 : Nat) (v4 : Int32) (v5 : Int32) (v6 : Int32) (v7 : Int32) (v8 : Int32) {W73 : Int32 × Int32 × xM → Prop} (hW73 : ∀ (v7 : Int32) (v8 : Int32) (M : xM), W73 (v7, v8, M) → ∀ (H : Heap) (locs : List Loc) (ls : Array Slot), xO κ s M H locs → lv_has ls 10 [(0, .ref (κ.1 + v0)), (4, .int v4), (5, .int v5), (6, .int v6), (7, .int v7), (8, .int v8)] → W p l e (xRm 3 0 0) s m args below meth c H locs 0 0 (xQf below args s 0 0 κ (some (.int ro)) mo) (F0 m 73 ls [])) (M : xM) (x : (Int32 × Int32 × xM) ⊕ (Int32 × xM)) (h : F_X3_cellsBetween_73b v0 v4 v5 v6 (v7, v8, M) = some x) (hK : (xKl W73 (fun o => o = (ro, mo))) x) (H : Heap) (locs : List Loc) (ls : Array Slot) (O : xO κ s M H locs) (hl : lv_has ls 10 [(0, .ref (κ.1 + v0)), (4, .int v4), (5, .int v5), (6, .int v6), (7, .int v7), (8, .int v8)]) : W p l e (xRm 3 0 0) s m args below meth c H locs 0 0 (xQf below args s 0 0 κ (some (.int ro)) mo) (F0 m 73 ls []) := by
  unfold F_X3_cellsBetween_73b at h
  dsimp only at h
  have hx := X.1
  have hb := X.2.1
  refine lv_iload hx hb dX3_cellsBetween_73 (lv_at hl 5 rfl) ?_
  refine lv_iload hx hb dX3_cellsBetween_75 (lv_at hl 1 rfl) ?_
  refine lv_icmp_gt (tgt := 120) hx hb dX3_cellsBetween_77 (by decide) (fun hc77 => ?_) (fun hc77 => ?_)
  · rw [if_pos hc77] at h
    obtain ⟨_, hw0, ew0⟩ := Option.map_eq_some_iff.mp h
    rw [← ew0] at hK
    have h := hw0
    exact F_X3_cellsBetween_120_ok X hr hlk v7 M _ h hK H locs ls O (lv_sub hl [4] rfl)
  rw [if_neg hc77] at h
  refine lv_iload hx hb dX3_cellsBetween_80 (lv_at hl 2 rfl) ?_
  refine lv_istore (lv' := [(9, .int v5), (0, .ref (κ.1 + v0)), (4, .int v4), (5, .int v5), (6, .int v6), (7, .int v7), (8, .int v8)]) hx hb dX3_cellsBetween_82 hl (by decide) rfl (fun ls hl => ?_)
  exact F_X3_cellsBetween_84_ok X hr hlk v0 v4 v5 v6 v7 v8 v5 hW73 M _ h hK H locs ls O (lv_sub hl [1, 2, 3, 4, 5, 6, 0] rfl)
set_option maxRecDepth 100000 in
set_option maxHeartbeats 4000000 in
theorem F_X3_cellsBetween_73_ok (X : xX p s m args c cX3_cellsBetween 10 RX3 κ) (hr : meth.sig.returnType = (some .int)) (hlk : meth.locks = false) {ro : Int32} {mo : xM} (v0 : Nat) (v4 : Int32) (v5 : Int32) (v6 : Int32) (v7 : Int32) (v8 : Int32) (M : xM) (x : Int32 × xM) (h : F_X3_cellsBetween_73 v0 v4 v5 v6 v7 v8 M = some x) (hK : (fun o => o = (ro, mo)) x) (H : Heap) (locs : List Loc) (ls : Array Slot) (O : xO κ s M H locs) (hl : lv_has ls 10 [(0, .ref (κ.1 + v0)), (4, .int v4), (5, .int v5), (6, .int v6), (7, .int v7), (8, .int v8)]) : W p l e (xRm 3 0 0) s m args below meth c H locs 0 0 (xQf below args s 0 0 κ (some (.int ro)) mo) (F0 m 73 ls []) := by
  refine xit_K (Wh := fun x => ∀ (H : Heap) (locs : List Loc) (ls : Array Slot), xO κ s x.2.2 H locs → lv_has ls 10 [(0, .ref (κ.1 + v0)), (4, .int v4), (5, .int v5), (6, .int v6), (7, .int x.1), (8, .int x.2.1)] → W p l e (xRm 3 0 0) s m args below meth c H locs 0 0 (xQf below args s 0 0 κ (some (.int ro)) mo) (F0 m 73 ls [])) (Kp := (fun o => o = (ro, mo))) ?_ xFU (v7, v8, M) x h hK H locs ls O hl
  intro y x h hK H locs ls O hl
  exact F_X3_cellsBetween_73_bok X hr hlk v0 v4 v5 v6 y.1 y.2.1 (fun _ _ _ hw => hw) y.2.2 x h hK H locs ls O hl
set_option maxRecDepth 100000 in
set_option maxHeartbeats 4000000 in
theorem T_X3_cellsBetween (l : Launch) (κ : xQ) (a0 : Nat) (a1 : Int32) (a2 : Int32) (M : xM) (ro : Int32) (mo : xM) (h : F_X3_cellsBetween a0 a1 a2 M = some (ro, mo)) : xC l yX3_cellsBetween cX3_cellsBetween 10 (some .int) 3 0 0 κ [.ref (κ.1 + a0), .int a1, .int a2] M (some (.int ro)) mo := by
  refine xC_of rfl (Nat.le_of_ble_eq_true rfl) fun p e s m args below meth c X hr hlk hnm H locs ls O hl => ?_
  have X : xX p s m args c cX3_cellsBetween 10 RX3 κ := X
  have hl : lv_has ls 10 [(0, .ref (κ.1 + a0)), (1, .int a1), (2, .int a2)] := hl
  have hx := X.1
  have hb := X.2.1
  obtain ⟨x, hx0⟩ : ∃ x, (ro, mo) = x := ⟨_, rfl⟩
  rw [hx0] at h
  have hK : x = (ro, mo) := hx0.symm
  unfold F_X3_cellsBetween at h
  refine lv_iload_n hx hb dX3_cellsBetween_0 rfl (lv_at hl 1 rfl) ?_
  refine lv_aload_n hx hb dX3_cellsBetween_1 rfl (lv_at hl 0 rfl) ?_
  obtain ⟨t1, ht1, h⟩ := Option.bind_eq_some_iff.mp h
  refine xr_getI X O ht1 fl_X3_15 (Or.inl rfl) dX3_cellsBetween_2 ?_
  by_cases hz5 : t1 = 0
  · rw [if_pos hz5] at h; cases h
  rw [if_neg hz5] at h
  refine lv_idiv hx hb dX3_cellsBetween_5 hz5 ?_
  refine lv_iload_n hx hb dX3_cellsBetween_6 rfl (lv_at hl 2 rfl) ?_
  refine lv_aload_n hx hb dX3_cellsBetween_7 rfl (lv_at hl 0 rfl) ?_
  obtain ⟨t2, ht2, h⟩ := Option.bind_eq_some_iff.mp h
  refine xr_getI X O ht2 fl_X3_15 (Or.inl rfl) dX3_cellsBetween_8 ?_
  by_cases hz11 : t2 = 0
  · rw [if_pos hz11] at h; cases h
  rw [if_neg hz11] at h
  refine lv_idiv hx hb dX3_cellsBetween_11 hz11 ?_
  obtain ⟨t3, ht3, h⟩ := Option.bind_eq_some_iff.mp h
  refine xr_callS (rest := []) X O (T_J9_min_7cf53 l κ (a1 / t1) (a2 / t2) M _ _ ht3) lk_X3_87 (Nat.le_of_ble_eq_true rfl) rfl hl.1 rfl (Nat.le_of_ble_eq_true rfl) dX3_cellsBetween_12 ⟨Nat.le_of_ble_eq_true rfl, Nat.le_of_ble_eq_true rfl⟩ (fun H locs O => ?_)
  refine W.eq (g2 := F0 m 15 ls [.int t3.1]) rfl ?_
  refine lv_istore_n (lv' := [(3, .int t3.1), (0, .ref (κ.1 + a0)), (1, .int a1), (2, .int a2)]) hx hb dX3_cellsBetween_15 rfl hl (by decide) rfl (fun ls hl => ?_)
  refine lv_iload_n hx hb dX3_cellsBetween_16 rfl (lv_at hl 2 rfl) ?_
  refine lv_aload_n hx hb dX3_cellsBetween_17 rfl (lv_at hl 1 rfl) ?_
  obtain ⟨t4, ht4, h⟩ := Option.bind_eq_some_iff.mp h
  refine xr_getI X O ht4 fl_X3_15 (Or.inl rfl) dX3_cellsBetween_18 ?_
  by_cases hz21 : t4 = 0
  · rw [if_pos hz21] at h; cases h
  rw [if_neg hz21] at h
  refine lv_idiv hx hb dX3_cellsBetween_21 hz21 ?_
  refine lv_iload_n hx hb dX3_cellsBetween_22 rfl (lv_at hl 3 rfl) ?_
  refine lv_aload_n hx hb dX3_cellsBetween_23 rfl (lv_at hl 1 rfl) ?_
  obtain ⟨t5, ht5, h⟩ := Option.bind_eq_some_iff.mp h
  refine xr_getI X O ht5 fl_X3_15 (Or.inl rfl) dX3_cellsBetween_24 ?_
  by_cases hz27 : t5 = 0
  · rw [if_pos hz27] at h; cases h
  rw [if_neg hz27] at h
  refine lv_idiv hx hb dX3_cellsBetween_27 hz27 ?_
  obtain ⟨t6, ht6, h⟩ := Option.bind_eq_some_iff.mp h
  refine xr_callS (rest := []) X O (T_J9_max_7cf53 l κ (a1 / t4) (a2 / t5) t3.2 _ _ ht6) lk_X3_92 (Nat.le_of_ble_eq_true rfl) rfl hl.1 rfl (Nat.le_of_ble_eq_true rfl) dX3_cellsBetween_28 ⟨Nat.le_of_ble_eq_true rfl, Nat.le_of_ble_eq_true rfl⟩ (fun H locs O => ?_)
  refine W.eq (g2 := F0 m 31 ls [.int t6.1]) rfl ?_
  refine lv_istore (lv' := [(4, .int t6.1), (3, .int t3.1), (0, .ref (κ.1 + a0)), (1, .int a1), (2, .int a2)]) hx hb dX3_cellsBetween_31 hl (by decide) rfl (fun ls hl => ?_)
  refine lv_iload_n hx hb dX3_cellsBetween_33 rfl (lv_at hl 3 rfl) ?_
  refine lv_aload_n hx hb dX3_cellsBetween_34 rfl (lv_at hl 2 rfl) ?_
  obtain ⟨t7, ht7, h⟩ := Option.bind_eq_some_iff.mp h
  refine xr_getI X O ht7 fl_X3_15 (Or.inl rfl) dX3_cellsBetween_35 ?_
  by_cases hz38 : t7 = 0
  · rw [if_pos hz38] at h; cases h
  rw [if_neg hz38] at h
  refine lv_irem hx hb dX3_cellsBetween_38 hz38 ?_
  refine lv_iload_n hx hb dX3_cellsBetween_39 rfl (lv_at hl 4 rfl) ?_
  refine lv_aload_n hx hb dX3_cellsBetween_40 rfl (lv_at hl 2 rfl) ?_
  obtain ⟨t8, ht8, h⟩ := Option.bind_eq_some_iff.mp h
  refine xr_getI X O ht8 fl_X3_15 (Or.inl rfl) dX3_cellsBetween_41 ?_
  by_cases hz44 : t8 = 0
  · rw [if_pos hz44] at h; cases h
  rw [if_neg hz44] at h
  refine lv_irem hx hb dX3_cellsBetween_44 hz44 ?_
  obtain ⟨t9, ht9, h⟩ := Option.bind_eq_some_iff.mp h
  refine xr_callS (rest := []) X O (T_J9_min_7cf53 l κ (a1 - a1 / t7 * t7) (a2 - a2 / t8 * t8) t6.2 _ _ ht9) lk_X3_87 (Nat.le_of_ble_eq_true rfl) rfl hl.1 rfl (Nat.le_of_ble_eq_true rfl) dX3_cellsBetween_45 ⟨Nat.le_of_ble_eq_true rfl, Nat.le_of_ble_eq_true rfl⟩ (fun H locs O => ?_)
  refine W.eq (g2 := F0 m 48 ls [.int t9.1]) rfl ?_
  refine lv_istore (lv' := [(5, .int t9.1), (4, .int t6.1), (3, .int t3.1), (0, .ref (κ.1 + a0)), (1, .int a1), (2, .int a2)]) hx hb dX3_cellsBetween_48 hl (by decide) rfl (fun ls hl => ?_)
  refine lv_iload_n hx hb dX3_cellsBetween_50 rfl (lv_at hl 4 rfl) ?_
  refine lv_aload_n hx hb dX3_cellsBetween_51 rfl (lv_at hl 3 rfl) ?_
  obtain ⟨t10, ht10, h⟩ := Option.bind_eq_some_iff.mp h
  refine xr_getI X O ht10 fl_X3_15 (Or.inl rfl) dX3_cellsBetween_52 ?_
  by_cases hz55 : t10 = 0
  · rw [if_pos hz55] at h; cases h
  rw [if_neg hz55] at h
  refine lv_irem hx hb dX3_cellsBetween_55 hz55 ?_
  refine lv_iload_n hx hb dX3_cellsBetween_56 rfl (lv_at hl 5 rfl) ?_
  refine lv_aload_n hx hb dX3_cellsBetween_57 rfl (lv_at hl 3 rfl) ?_
  obtain ⟨t11, ht11, h⟩ := Option.bind_eq_some_iff.mp h
  refine xr_getI X O ht11 fl_X3_15 (Or.inl rfl) dX3_cellsBetween_58 ?_
  by_cases hz61 : t11 = 0
  · rw [if_pos hz61] at h; cases h
  rw [if_neg hz61] at h
  refine lv_irem hx hb dX3_cellsBetween_61 hz61 ?_
  obtain ⟨t12, ht12, h⟩ := Option.bind_eq_some_iff.mp h
  refine xr_callS (rest := []) X O (T_J9_max_7cf53 l κ (a1 - a1 / t10 * t10) (a2 - a2 / t11 * t11) t9.2 _ _ ht12) lk_X3_92 (Nat.le_of_ble_eq_true rfl) rfl hl.1 rfl (Nat.le_of_ble_eq_true rfl) dX3_cellsBetween_62 ⟨Nat.le_of_ble_eq_true rfl, Nat.le_of_ble_eq_true rfl⟩ (fun H locs O => ?_)
  refine W.eq (g2 := F0 m 65 ls [.int t12.1]) rfl ?_
  refine lv_istore (lv' := [(6, .int t12.1), (5, .int t9.1), (4, .int t6.1), (3, .int t3.1), (0, .ref (κ.1 + a0)), (1, .int a1), (2, .int a2)]) hx hb dX3_cellsBetween_65 hl (by decide) rfl (fun ls hl => ?_)
  refine lv_iconst (v := (0 : Int32)) hx hb dX3_cellsBetween_67 (by decide) ?_
  refine lv_istore (lv' := [(7, .int (0 : Int32)), (6, .int t12.1), (5, .int t9.1), (4, .int t6.1), (3, .int t3.1), (0, .ref (κ.1 + a0)), (1, .int a1), (2, .int a2)]) hx hb dX3_cellsBetween_68 hl (by decide) rfl (fun ls hl => ?_)
  refine lv_iload_n hx hb dX3_cellsBetween_70 rfl (lv_at hl 4 rfl) ?_
  refine lv_istore (lv' := [(8, .int t3.1), (7, .int (0 : Int32)), (6, .int t12.1), (5, .int t9.1), (4, .int t6.1), (3, .int t3.1), (0, .ref (κ.1 + a0)), (1, .int a1), (2, .int a2)]) hx hb dX3_cellsBetween_71 hl (by decide) rfl (fun ls hl => ?_)
  exact F_X3_cellsBetween_73_ok X hr hlk a0 t6.1 t9.1 t12.1 (0 : Int32) t3.1 t12.2 _ h hK H locs ls O (lv_sub hl [6, 4, 3, 2, 1, 0] rfl)
def F_X3_addPaper (a0 : Nat) (a1 : Int32) (a2 : Int32) (M : xM) : Option (xM) :=
(xgI M a0 3 6).bind fun t1 =>
if (6 : Int32) ≤ t1 then (
some M)
else (
(xgI M a0 3 1).bind fun t2 =>
if t2 ≤ 0 then (
some M)
else (
(xgP M a0 3 15).bind fun t3 =>
(xgI M a0 3 6).bind fun t4 =>
(xck M a0 3).bind fun _ =>
(F_X3_cellsBetween a0 a1 a2 M).bind fun t6 =>
(xsI t6.2 t3 t4 t6.1).bind fun t7 =>
(xgI t7 a0 3 6).bind fun t8 =>
(xpI t7 a0 3 6 (t8 + (1 : Int32))).bind fun t9 =>
some t9))
set_option maxRecDepth 100000 in
set_option maxHeartbeats 4000000 in
theorem T_X3_addPaper (l : Launch) (κ : xQ) (a0 : Nat) (a1 : Int32) (a2 : Int32) (M : xM) (mo : xM) (h : F_X3_addPaper a0 a1 a2 M = some mo) : xC l yX3_addPaper cX3_addPaper 3 none 4 0 0 κ [.ref (κ.1 + a0), .int a1, .int a2] M none mo := by
  refine xC_of rfl (Nat.le_of_ble_eq_true rfl) fun p e s m args below meth c X hr hlk hnm H locs ls O hl => ?_
  have X : xX p s m args c cX3_addPaper 3 RX3 κ := X
  have hl : lv_has ls 3 [(0, .ref (κ.1 + a0)), (1, .int a1), (2, .int a2)] := hl
  have hx := X.1
  have hb := X.2.1
  obtain ⟨x, hx0⟩ : ∃ x, mo = x := ⟨_, rfl⟩
  rw [hx0] at h
  have hK : x = mo := hx0.symm
  unfold F_X3_addPaper at h
  refine lv_aload_n hx hb dX3_addPaper_0 rfl (lv_at hl 0 rfl) ?_
  obtain ⟨t1, ht1, h⟩ := Option.bind_eq_some_iff.mp h
  refine xr_getI X O ht1 fl_X3_53 (Or.inl rfl) dX3_addPaper_1 ?_
  refine lv_bipush (v := (6 : Int32)) hx hb dX3_addPaper_4 (by decide) ?_
  refine lv_icmp_ge (tgt := 41) hx hb dX3_addPaper_6 (by decide) (fun hc6 => ?_) (fun hc6 => ?_)
  · rw [if_pos hc6] at h
    rw [← Option.some.inj h] at hK
    have hK : M = mo := hK
    rw [hK] at O
    exact xr_vret X hr hlk O dX3_addPaper_41
  rw [if_neg hc6] at h
  refine lv_aload_n hx hb dX3_addPaper_9 rfl (lv_at hl 0 rfl) ?_
  obtain ⟨t2, ht2, h⟩ := Option.bind_eq_some_iff.mp h
  refine xr_getI X O ht2 fl_X3_15 (Or.inl rfl) dX3_addPaper_10 ?_
  refine lv_if_le (tgt := 41) hx hb dX3_addPaper_13 (by decide) (fun hc13 => ?_) (fun hc13 => ?_)
  · rw [if_pos hc13] at h
    rw [← Option.some.inj h] at hK
    have hK : M = mo := hK
    rw [hK] at O
    exact xr_vret X hr hlk O dX3_addPaper_41
  rw [if_neg hc13] at h
  refine lv_aload_n hx hb dX3_addPaper_16 rfl (lv_at hl 0 rfl) ?_
  obtain ⟨t3, ht3, h⟩ := Option.bind_eq_some_iff.mp h
  refine xr_getP X O ht3 fl_X3_31 dX3_addPaper_17 ?_
  refine lv_aload_n hx hb dX3_addPaper_20 rfl (lv_at hl 0 rfl) ?_
  obtain ⟨t4, ht4, h⟩ := Option.bind_eq_some_iff.mp h
  refine xr_getI X O ht4 fl_X3_53 (Or.inl rfl) dX3_addPaper_21 ?_
  refine lv_aload_n hx hb dX3_addPaper_24 rfl (lv_at hl 0 rfl) ?_
  refine lv_iload_n hx hb dX3_addPaper_25 rfl (lv_at hl 1 rfl) ?_
  refine lv_iload_n hx hb dX3_addPaper_26 rfl (lv_at hl 2 rfl) ?_
  obtain ⟨_, hut5, h⟩ := Option.bind_eq_some_iff.mp h
  obtain ⟨t6, ht6, h⟩ := Option.bind_eq_some_iff.mp h
  refine xr_callV (rest := [.int t4, .ref (κ.1 + t3)]) X O (T_X3_cellsBetween l κ a0 a1 a2 M _ _ ht6) lk_X3_83 hut5 (Nat.le_of_ble_eq_true rfl) rfl hl.1 rfl (Nat.le_of_ble_eq_true rfl) dX3_addPaper_27 ⟨Nat.le_of_ble_eq_true rfl, Nat.le_of_ble_eq_true rfl⟩ (fun H locs O => ?_)
  refine W.eq (g2 := F0 m 30 ls [.int t6.1, .int t4, .ref (κ.1 + t3)]) rfl ?_
  obtain ⟨t7, ht7, h⟩ := Option.bind_eq_some_iff.mp h
  refine xr_stI X O ht7 dX3_addPaper_30 (fun H locs O => ?_)
  refine lv_aload_n hx hb dX3_addPaper_31 rfl (lv_at hl 0 rfl) ?_
  refine lv_dup hx hb dX3_addPaper_32 rfl ?_
  obtain ⟨t8, ht8, h⟩ := Option.bind_eq_some_iff.mp h
  refine xr_getI X O ht8 fl_X3_53 (Or.inl rfl) dX3_addPaper_33 ?_
  refine lv_iconst (v := (1 : Int32)) hx hb dX3_addPaper_36 (by decide) ?_
  refine lv_iadd hx hb dX3_addPaper_37 ?_
  obtain ⟨t9, ht9, h⟩ := Option.bind_eq_some_iff.mp h
  refine xr_putI X O ht9 fl_X3_53 dX3_addPaper_38 (fun H locs O => ?_)
  rw [← Option.some.inj h] at hK
  have hK : t9 = mo := hK
  rw [hK] at O
  exact xr_vret X hr hlk O dX3_addPaper_41
def F_X3_emit (a0 : Nat) (a1 : Int32) (M : xM) : Option (xM) :=
(xgI M a0 3 7).bind fun t1 =>
if (900 : Int32) ≤ t1 then (
some M)
else (
(xgP M a0 3 17).bind fun t2 =>
(xgI M a0 3 7).bind fun t3 =>
(xsI M t2 t3 a1).bind fun t4 =>
(xgI t4 a0 3 7).bind fun t5 =>
(xpI t4 a0 3 7 (t5 + (1 : Int32))).bind fun t6 =>
some t6)
set_option maxRecDepth 100000 in
set_option maxHeartbeats 4000000 in
theorem T_X3_emit (l : Launch) (κ : xQ) (a0 : Nat) (a1 : Int32) (M : xM) (mo : xM) (h : F_X3_emit a0 a1 M = some mo) : xC l yX3_emit cX3_emit 2 none 2 0 0 κ [.ref (κ.1 + a0), .int a1] M none mo := by
  refine xC_of rfl (Nat.le_of_ble_eq_true rfl) fun p e s m args below meth c X hr hlk hnm H locs ls O hl => ?_
  have X : xX p s m args c cX3_emit 2 RX3 κ := X
  have hl : lv_has ls 2 [(0, .ref (κ.1 + a0)), (1, .int a1)] := hl
  have hx := X.1
  have hb := X.2.1
  obtain ⟨x, hx0⟩ : ∃ x, mo = x := ⟨_, rfl⟩
  rw [hx0] at h
  have hK : x = mo := hx0.symm
  unfold F_X3_emit at h
  refine lv_aload_n hx hb dX3_emit_0 rfl (lv_at hl 0 rfl) ?_
  obtain ⟨t1, ht1, h⟩ := Option.bind_eq_some_iff.mp h
  refine xr_getI X O ht1 fl_X3_56 (Or.inl rfl) dX3_emit_1 ?_
  refine lv_sipush (v := (900 : Int32)) hx hb dX3_emit_4 (by decide) ?_
  refine lv_icmp_ge (tgt := 30) hx hb dX3_emit_7 (by decide) (fun hc7 => ?_) (fun hc7 => ?_)
  · rw [if_pos hc7] at h
    rw [← Option.some.inj h] at hK
    have hK : M = mo := hK
    rw [hK] at O
    exact xr_vret X hr hlk O dX3_emit_30
  rw [if_neg hc7] at h
  refine lv_aload_n hx hb dX3_emit_10 rfl (lv_at hl 0 rfl) ?_
  obtain ⟨t2, ht2, h⟩ := Option.bind_eq_some_iff.mp h
  refine xr_getP X O ht2 fl_X3_37 dX3_emit_11 ?_
  refine lv_aload_n hx hb dX3_emit_14 rfl (lv_at hl 0 rfl) ?_
  obtain ⟨t3, ht3, h⟩ := Option.bind_eq_some_iff.mp h
  refine xr_getI X O ht3 fl_X3_56 (Or.inl rfl) dX3_emit_15 ?_
  refine lv_iload_n hx hb dX3_emit_18 rfl (lv_at hl 1 rfl) ?_
  obtain ⟨t4, ht4, h⟩ := Option.bind_eq_some_iff.mp h
  refine xr_stI X O ht4 dX3_emit_19 (fun H locs O => ?_)
  refine lv_aload_n hx hb dX3_emit_20 rfl (lv_at hl 0 rfl) ?_
  refine lv_dup hx hb dX3_emit_21 rfl ?_
  obtain ⟨t5, ht5, h⟩ := Option.bind_eq_some_iff.mp h
  refine xr_getI X O ht5 fl_X3_56 (Or.inl rfl) dX3_emit_22 ?_
  refine lv_iconst (v := (1 : Int32)) hx hb dX3_emit_25 (by decide) ?_
  refine lv_iadd hx hb dX3_emit_26 ?_
  obtain ⟨t6, ht6, h⟩ := Option.bind_eq_some_iff.mp h
  refine xr_putI X O ht6 fl_X3_56 dX3_emit_27 (fun H locs O => ?_)
  rw [← Option.some.inj h] at hK
  have hK : t6 = mo := hK
  rw [hK] at O
  exact xr_vret X hr hlk O dX3_emit_30
def F_X3_balanceOf_26 (v0 : Nat) (v1 : Int32) (v2 : Int32) (v3 : Int32) (M : xM) : Option ((Int32 × Int32 × xM) ⊕ (Int32 × xM)) :=
some (.inl (v2, (v3 + 1), M))
def F_X3_balanceOf_32 (v2 : Int32) (M : xM) : Option (Int32 × xM) :=
some (v2, M)
def F_X3_balanceOf_4b (v0 : Nat) (v1 : Int32) : (Int32 × Int32 × xM) → Option ((Int32 × Int32 × xM) ⊕ (Int32 × xM)) := fun ⟨v2, v3, M⟩ =>
if (5 : Int32) ≤ v3 then (
(F_X3_balanceOf_32 v2 M).map Sum.inr)
else (
if ((v1 >>> (v3 &&& 31)) &&& (1 : Int32)) = 0 then (
F_X3_balanceOf_26 v0 v1 v2 v3 M)
else (
(xgP M v0 3 16).bind fun t1 =>
(xaI M 20 t1 v3).bind fun t2 =>
(some ((v2 + t2))).bind fun t3 =>
F_X3_balanceOf_26 v0 v1 t3 v3 M))
def F_X3_balanceOf_4 (v0 : Nat) (v1 : Int32) (v2 : Int32) (v3 : Int32) (M : xM) : Option (Int32 × xM) := xit (F_X3_balanceOf_4b v0 v1) xFU (v2, v3, M)
def F_X3_balanceOf (a0 : Nat) (a1 : Int32) (M : xM) : Option (Int32 × xM) :=
F_X3_balanceOf_4 a0 a1 (0 : Int32) (0 : Int32) M
set_option maxRecDepth 100000 in
set_option maxHeartbeats 4000000 in
theorem F_X3_balanceOf_26_ok (X : xX p s m args c cX3_balanceOf 4 RX3 κ) (hr : meth.sig.returnType = (some .int)) (hlk : meth.locks = false) {ro : Int32} {mo : xM} (v0 : Nat) (v1 : Int32) (v2 : Int32) (v3 : Int32) {W4 : Int32 × Int32 × xM → Prop} (hW4 : ∀ (v2 : Int32) (v3 : Int32) (M : xM), W4 (v2, v3, M) → ∀ (H : Heap) (locs : List Loc) (ls : Array Slot), xO κ s M H locs → lv_has ls 4 [(0, .ref (κ.1 + v0)), (1, .int v1), (2, .int v2), (3, .int v3)] → W p l e (xRm 2 0 0) s m args below meth c H locs 0 0 (xQf below args s 0 0 κ (some (.int ro)) mo) (F0 m 4 ls [])) (M : xM) (x : (Int32 × Int32 × xM) ⊕ (Int32 × xM)) (h : F_X3_balanceOf_26 v0 v1 v2 v3 M = some x) (hK : (xKl W4 (fun o => o = (ro, mo))) x) (H : Heap) (locs : List Loc) (ls : Array Slot) (O : xO κ s M H locs) (hl : lv_has ls 4 [(0, .ref (κ.1 + v0)), (1, .int v1), (2, .int v2), (3, .int v3)]) : W p l e (xRm 2 0 0) s m args below meth c H locs 0 0 (xQf below args s 0 0 κ (some (.int ro)) mo) (F0 m 26 ls []) := by
  unfold F_X3_balanceOf_26 at h
  have hx := X.1
  have hb := X.2.1
  refine lv_iinc (v := (v3 + 1)) (lv' := [(3, .int (v3 + 1)), (0, .ref (κ.1 + v0)), (1, .int v1), (2, .int v2)]) hx hb dX3_balanceOf_26 hl (k := 3) rfl rfl (by decide) rfl (fun ls hl => ?_)
  refine lv_goto (tgt := 4) hx hb dX3_balanceOf_29 (by decide) ?_
  rw [← Option.some.inj h] at hK
  exact hW4 v2 (v3 + 1) M hK H locs ls O (lv_sub hl [1, 2, 3, 0] rfl)
set_option maxRecDepth 100000 in
set_option maxHeartbeats 4000000 in
theorem F_X3_balanceOf_32_ok (X : xX p s m args c cX3_balanceOf 4 RX3 κ) (hr : meth.sig.returnType = (some .int)) (hlk : meth.locks = false) {ro : Int32} {mo : xM} (v2 : Int32) (M : xM) (x : Int32 × xM) (h : F_X3_balanceOf_32 v2 M = some x) (hK : (fun o => o = (ro, mo)) x) (H : Heap) (locs : List Loc) (ls : Array Slot) (O : xO κ s M H locs) (hl : lv_has ls 4 [(2, .int v2)]) : W p l e (xRm 2 0 0) s m args below meth c H locs 0 0 (xQf below args s 0 0 κ (some (.int ro)) mo) (F0 m 32 ls []) := by
  unfold F_X3_balanceOf_32 at h
  have hx := X.1
  have hb := X.2.1
  refine lv_iload_n hx hb dX3_balanceOf_32 rfl (lv_at hl 0 rfl) ?_
  rw [← Option.some.inj h] at hK
  have hK : (v2, M) = (ro, mo) := hK
  obtain ⟨hK1, hK2⟩ := Prod.mk.inj hK
  rw [hK2] at O
  refine xr_top (w := .int ro) (by rw [hK1]) ?_
  exact xr_iret X hr hlk O dX3_balanceOf_33
set_option maxRecDepth 100000 in
set_option maxHeartbeats 4000000 in
theorem F_X3_balanceOf_4_bok (X : xX p s m args c cX3_balanceOf 4 RX3 κ) (hr : meth.sig.returnType = (some .int)) (hlk : meth.locks = false) {ro : Int32} {mo : xM} (v0 : Nat) (v1 : Int32) (v2 : Int32) (v3 : Int32) {W4 : Int32 × Int32 × xM → Prop} (hW4 : ∀ (v2 : Int32) (v3 : Int32) (M : xM), W4 (v2, v3, M) → ∀ (H : Heap) (locs : List Loc) (ls : Array Slot), xO κ s M H locs → lv_has ls 4 [(0, .ref (κ.1 + v0)), (1, .int v1), (2, .int v2), (3, .int v3)] → W p l e (xRm 2 0 0) s m args below meth c H locs 0 0 (xQf below args s 0 0 κ (some (.int ro)) mo) (F0 m 4 ls [])) (M : xM) (x : (Int32 × Int32 × xM) ⊕ (Int32 × xM)) (h : F_X3_balanceOf_4b v0 v1 (v2, v3, M) = some x) (hK : (xKl W4 (fun o => o = (ro, mo))) x) (H : Heap) (locs : List Loc) (ls : Array Slot) (O : xO κ s M H locs) (hl : lv_has ls 4 [(0, .ref (κ.1 + v0)), (1, .int v1), (2, .int v2), (3, .int v3)]) : W p l e (xRm 2 0 0) s m args below meth c H locs 0 0 (xQf below args s 0 0 κ (some (.int ro)) mo) (F0 m 4 ls []) := by
  unfold F_X3_balanceOf_4b at h
  dsimp only at h
  have hx := X.1
  have hb := X.2.1
  refine lv_iload_n hx hb dX3_balanceOf_4 rfl (lv_at hl 3 rfl) ?_
  refine lv_iconst (v := (5 : Int32)) hx hb dX3_balanceOf_5 (by decide) ?_
  refine lv_icmp_ge (tgt := 32) hx hb dX3_balanceOf_6 (by decide) (fun hc6 => ?_) (fun hc6 => ?_)
  · rw [if_pos hc6] at h
    obtain ⟨_, hw0, ew0⟩ := Option.map_eq_some_iff.mp h
    rw [← ew0] at hK
    have h := hw0
    exact F_X3_balanceOf_32_ok X hr hlk v2 M _ h hK H locs ls O (lv_sub hl [2] rfl)
  rw [if_neg hc6] at h
  refine lv_iload_n hx hb dX3_balanceOf_9 rfl (lv_at hl 1 rfl) ?_
  refine lv_iload_n hx hb dX3_balanceOf_10 rfl (lv_at hl 3 rfl) ?_
  refine lv_ishr hx hb dX3_balanceOf_11 ?_
  refine lv_iconst (v := (1 : Int32)) hx hb dX3_balanceOf_12 (by decide) ?_
  refine lv_iand hx hb dX3_balanceOf_13 ?_
  refine lv_if_eq (tgt := 26) hx hb dX3_balanceOf_14 (by decide) (fun hc14 => ?_) (fun hc14 => ?_)
  · rw [if_pos hc14] at h
    exact F_X3_balanceOf_26_ok X hr hlk v0 v1 v2 v3 hW4 M _ h hK H locs ls O (lv_sub hl [0, 1, 2, 3] rfl)
  rw [if_neg hc14] at h
  refine lv_iload_n hx hb dX3_balanceOf_17 rfl (lv_at hl 2 rfl) ?_
  refine lv_aload_n hx hb dX3_balanceOf_18 rfl (lv_at hl 0 rfl) ?_
  obtain ⟨t1, ht1, h⟩ := Option.bind_eq_some_iff.mp h
  refine xr_getP X O ht1 fl_X3_34 dX3_balanceOf_19 ?_
  refine lv_iload_n hx hb dX3_balanceOf_22 rfl (lv_at hl 3 rfl) ?_
  obtain ⟨t2, ht2, h⟩ := Option.bind_eq_some_iff.mp h
  refine xr_aldI X O ht2 dX3_balanceOf_23 ?_
  refine lv_iadd hx hb dX3_balanceOf_24 ?_
  obtain ⟨t3, ht3, h⟩ := Option.bind_eq_some_iff.mp h
  refine xr_top (w := .int t3) (by rw [Option.some.inj ht3]) ?_
  refine lv_istore_n (lv' := [(2, .int t3), (0, .ref (κ.1 + v0)), (1, .int v1), (3, .int v3)]) hx hb dX3_balanceOf_25 rfl hl (by decide) rfl (fun ls hl => ?_)
  exact F_X3_balanceOf_26_ok X hr hlk v0 v1 t3 v3 hW4 M _ h hK H locs ls O (lv_sub hl [1, 2, 0, 3] rfl)
set_option maxRecDepth 100000 in
set_option maxHeartbeats 4000000 in
theorem F_X3_balanceOf_4_ok (X : xX p s m args c cX3_balanceOf 4 RX3 κ) (hr : meth.sig.returnType = (some .int)) (hlk : meth.locks = false) {ro : Int32} {mo : xM} (v0 : Nat) (v1 : Int32) (v2 : Int32) (v3 : Int32) (M : xM) (x : Int32 × xM) (h : F_X3_balanceOf_4 v0 v1 v2 v3 M = some x) (hK : (fun o => o = (ro, mo)) x) (H : Heap) (locs : List Loc) (ls : Array Slot) (O : xO κ s M H locs) (hl : lv_has ls 4 [(0, .ref (κ.1 + v0)), (1, .int v1), (2, .int v2), (3, .int v3)]) : W p l e (xRm 2 0 0) s m args below meth c H locs 0 0 (xQf below args s 0 0 κ (some (.int ro)) mo) (F0 m 4 ls []) := by
  refine xit_K (Wh := fun x => ∀ (H : Heap) (locs : List Loc) (ls : Array Slot), xO κ s x.2.2 H locs → lv_has ls 4 [(0, .ref (κ.1 + v0)), (1, .int v1), (2, .int x.1), (3, .int x.2.1)] → W p l e (xRm 2 0 0) s m args below meth c H locs 0 0 (xQf below args s 0 0 κ (some (.int ro)) mo) (F0 m 4 ls [])) (Kp := (fun o => o = (ro, mo))) ?_ xFU (v2, v3, M) x h hK H locs ls O hl
  intro y x h hK H locs ls O hl
  exact F_X3_balanceOf_4_bok X hr hlk v0 v1 y.1 y.2.1 (fun _ _ _ hw => hw) y.2.2 x h hK H locs ls O hl
set_option maxRecDepth 100000 in
set_option maxHeartbeats 4000000 in
theorem T_X3_balanceOf (l : Launch) (κ : xQ) (a0 : Nat) (a1 : Int32) (M : xM) (ro : Int32) (mo : xM) (h : F_X3_balanceOf a0 a1 M = some (ro, mo)) : xC l yX3_balanceOf cX3_balanceOf 4 (some .int) 2 0 0 κ [.ref (κ.1 + a0), .int a1] M (some (.int ro)) mo := by
  refine xC_of rfl (Nat.le_of_ble_eq_true rfl) fun p e s m args below meth c X hr hlk hnm H locs ls O hl => ?_
  have X : xX p s m args c cX3_balanceOf 4 RX3 κ := X
  have hl : lv_has ls 4 [(0, .ref (κ.1 + a0)), (1, .int a1)] := hl
  have hx := X.1
  have hb := X.2.1
  obtain ⟨x, hx0⟩ : ∃ x, (ro, mo) = x := ⟨_, rfl⟩
  rw [hx0] at h
  have hK : x = (ro, mo) := hx0.symm
  unfold F_X3_balanceOf at h
  refine lv_iconst (v := (0 : Int32)) hx hb dX3_balanceOf_0 (by decide) ?_
  refine lv_istore_n (lv' := [(2, .int (0 : Int32)), (0, .ref (κ.1 + a0)), (1, .int a1)]) hx hb dX3_balanceOf_1 rfl hl (by decide) rfl (fun ls hl => ?_)
  refine lv_iconst (v := (0 : Int32)) hx hb dX3_balanceOf_2 (by decide) ?_
  refine lv_istore_n (lv' := [(3, .int (0 : Int32)), (2, .int (0 : Int32)), (0, .ref (κ.1 + a0)), (1, .int a1)]) hx hb dX3_balanceOf_3 rfl hl (by decide) rfl (fun ls hl => ?_)
  exact F_X3_balanceOf_4_ok X hr hlk a0 a1 (0 : Int32) (0 : Int32) M _ h hK H locs ls O (lv_sub hl [2, 3, 1, 0] rfl)
def F_X3_mostGroups_62 (rc : Nat → Int32 → xM → Option (Int32 × xM)) (v0 : Nat) (v1 : Int32) (v2 : Int32) (v3 : Int32) (M : xM) : Option ((Int32 × Int32 × xM) ⊕ (Int32 × xM)) :=
some (.inl (v2, (v3 + 1), M))
def F_X3_mostGroups_31 (rc : Nat → Int32 → xM → Option (Int32 × xM)) (v0 : Nat) (v1 : Int32) (v2 : Int32) (v3 : Int32) (s0 : Int32) (M : xM) : Option ((Int32 × Int32 × xM) ⊕ (Int32 × xM)) :=
if s0 = 0 then (
F_X3_mostGroups_62 rc v0 v1 v2 v3 M)
else (
(xck M v0 3).bind fun _ =>
(F_X3_balanceOf v0 v3 M).bind fun t2 =>
if t2.1 = 0 then (
(xck t2.2 v0 3).bind fun _ =>
(rc v0 (v1 &&& (v3 ^^^ (-1 : Int32))) t2.2).bind fun t4 =>
(F_J9_max_7cf53 v2 ((1 : Int32) + t4.1) t4.2).bind fun t5 =>
F_X3_mostGroups_62 rc v0 v1 t5.1 v3 t5.2)
else (
F_X3_mostGroups_62 rc v0 v1 v2 v3 t2.2))
def F_X3_mostGroups_30 (rc : Nat → Int32 → xM → Option (Int32 × xM)) (v0 : Nat) (v1 : Int32) (v2 : Int32) (v3 : Int32) (M : xM) : Option ((Int32 × Int32 × xM) ⊕ (Int32 × xM)) :=
F_X3_mostGroups_31 rc v0 v1 v2 v3 (0 : Int32) M
def F_X3_mostGroups_68 (rc : Nat → Int32 → xM → Option (Int32 × xM)) (v2 : Int32) (M : xM) : Option (Int32 × xM) :=
some (v2, M)
def F_X3_mostGroups_4b (rc : Nat → Int32 → xM → Option (Int32 × xM)) (v0 : Nat) (v1 : Int32) : (Int32 × Int32 × xM) → Option ((Int32 × Int32 × xM) ⊕ (Int32 × xM)) := fun ⟨v2, v3, M⟩ =>
if v1 < v3 then (
(F_X3_mostGroups_68 rc v2 M).map Sum.inr)
else (
if (v3 &&& (v1 ^^^ (-1 : Int32))) = 0 then (
if ((v3 &&& v1) &&& (-v1)) = 0 then (
F_X3_mostGroups_30 rc v0 v1 v2 v3 M)
else (
F_X3_mostGroups_31 rc v0 v1 v2 v3 (1 : Int32) M))
else (
F_X3_mostGroups_30 rc v0 v1 v2 v3 M))
def F_X3_mostGroups_4 (rc : Nat → Int32 → xM → Option (Int32 × xM)) (v0 : Nat) (v1 : Int32) (v2 : Int32) (v3 : Int32) (M : xM) : Option (Int32 × xM) := xit (F_X3_mostGroups_4b rc v0 v1) xFU (v2, v3, M)
def F_X3_mostGroups (rc : Nat → Int32 → xM → Option (Int32 × xM)) (a0 : Nat) (a1 : Int32) (M : xM) : Option (Int32 × xM) :=
F_X3_mostGroups_4 rc a0 a1 (0 : Int32) (1 : Int32) M
def R_X3_mostGroups : Nat → Nat → Int32 → xM → Option (Int32 × xM)
  | 0 => fun _ _ _ => none
  | n + 1 => F_X3_mostGroups (R_X3_mostGroups n)
def F_X3_mostGroups_top : Nat → Int32 → xM → Option (Int32 × xM) := R_X3_mostGroups 7
def Fx_X3_mostGroups (a0 : Nat) (a1 : Int32) (M : xM) : Option (Int32 × xM) := R_X3_mostGroups 7 a0 a1 M
set_option maxRecDepth 100000 in
set_option maxHeartbeats 4000000 in
theorem F_X3_mostGroups_62_ok {dd : Nat} (hdd : 2 ≤ dd) {rc : Nat → Int32 → xM → Option (Int32 × xM)} (hrc0 : ∀ (κ : xQ) (a0 : Nat) (a1 : Int32) (M : xM) (ro : Int32) (mo : xM), rc a0 a1 M = some (ro, mo) → xC l yX3_mostGroups cX3_mostGroups 5 (some .int) dd 0 0 κ [.ref (κ.1 + a0), .int a1] M (some (.int ro)) mo) (X : xX p s m args c cX3_mostGroups 5 RX3 κ) (hr : meth.sig.returnType = (some .int)) (hlk : meth.locks = false) {ro : Int32} {mo : xM} (v0 : Nat) (v1 : Int32) (v2 : Int32) (v3 : Int32) {W4 : Int32 × Int32 × xM → Prop} (hW4 : ∀ (v2 : Int32) (v3 : Int32) (M : xM), W4 (v2, v3, M) → ∀ (H : Heap) (locs : List Loc) (ls : Array Slot), xO κ s M H locs → lv_has ls 5 [(0, .ref (κ.1 + v0)), (1, .int v1), (2, .int v2), (3, .int v3)] → W p l e (xRm (dd + 1) 0 0) s m args below meth c H locs 0 0 (xQf below args s 0 0 κ (some (.int ro)) mo) (F0 m 4 ls [])) (M : xM) (x : (Int32 × Int32 × xM) ⊕ (Int32 × xM)) (h : F_X3_mostGroups_62 rc v0 v1 v2 v3 M = some x) (hK : (xKl W4 (fun o => o = (ro, mo))) x) (H : Heap) (locs : List Loc) (ls : Array Slot) (O : xO κ s M H locs) (hl : lv_has ls 5 [(0, .ref (κ.1 + v0)), (1, .int v1), (2, .int v2), (3, .int v3)]) : W p l e (xRm (dd + 1) 0 0) s m args below meth c H locs 0 0 (xQf below args s 0 0 κ (some (.int ro)) mo) (F0 m 62 ls []) := by
  unfold F_X3_mostGroups_62 at h
  have hx := X.1
  have hb := X.2.1
  refine lv_iinc (v := (v3 + 1)) (lv' := [(3, .int (v3 + 1)), (0, .ref (κ.1 + v0)), (1, .int v1), (2, .int v2)]) hx hb dX3_mostGroups_62 hl (k := 3) rfl rfl (by decide) rfl (fun ls hl => ?_)
  refine lv_goto (tgt := 4) hx hb dX3_mostGroups_65 (by decide) ?_
  rw [← Option.some.inj h] at hK
  exact hW4 v2 (v3 + 1) M hK H locs ls O (lv_sub hl [1, 2, 3, 0] rfl)
set_option maxRecDepth 100000 in
set_option maxHeartbeats 4000000 in
theorem F_X3_mostGroups_31_ok {dd : Nat} (hdd : 2 ≤ dd) {rc : Nat → Int32 → xM → Option (Int32 × xM)} (hrc0 : ∀ (κ : xQ) (a0 : Nat) (a1 : Int32) (M : xM) (ro : Int32) (mo : xM), rc a0 a1 M = some (ro, mo) → xC l yX3_mostGroups cX3_mostGroups 5 (some .int) dd 0 0 κ [.ref (κ.1 + a0), .int a1] M (some (.int ro)) mo) (X : xX p s m args c cX3_mostGroups 5 RX3 κ) (hr : meth.sig.returnType = (some .int)) (hlk : meth.locks = false) {ro : Int32} {mo : xM} (v0 : Nat) (v1 : Int32) (v2 : Int32) (v3 : Int32) (s0 : Int32) {W4 : Int32 × Int32 × xM → Prop} (hW4 : ∀ (v2 : Int32) (v3 : Int32) (M : xM), W4 (v2, v3, M) → ∀ (H : Heap) (locs : List Loc) (ls : Array Slot), xO κ s M H locs → lv_has ls 5 [(0, .ref (κ.1 + v0)), (1, .int v1), (2, .int v2), (3, .int v3)] → W p l e (xRm (dd + 1) 0 0) s m args below meth c H locs 0 0 (xQf below args s 0 0 κ (some (.int ro)) mo) (F0 m 4 ls [])) (M : xM) (x : (Int32 × Int32 × xM) ⊕ (Int32 × xM)) (h : F_X3_mostGroups_31 rc v0 v1 v2 v3 s0 M = some x) (hK : (xKl W4 (fun o => o = (ro, mo))) x) (H : Heap) (locs : List Loc) (ls : Array Slot) (O : xO κ s M H locs) (hl : lv_has ls 5 [(0, .ref (κ.1 + v0)), (1, .int v1), (2, .int v2), (3, .int v3)]) : W p l e (xRm (dd + 1) 0 0) s m args below meth c H locs 0 0 (xQf below args s 0 0 κ (some (.int ro)) mo) (F0 m 31 ls [.int s0]) := by
  unfold F_X3_mostGroups_31 at h
  have hx := X.1
  have hb := X.2.1
  refine lv_istore (lv' := [(4, .int s0), (0, .ref (κ.1 + v0)), (1, .int v1), (2, .int v2), (3, .int v3)]) hx hb dX3_mostGroups_31 hl (by decide) rfl (fun ls hl => ?_)
  refine lv_iload hx hb dX3_mostGroups_33 (lv_at hl 0 rfl) ?_
  refine lv_if_eq (tgt := 62) hx hb dX3_mostGroups_35 (by decide) (fun hc35 => ?_) (fun hc35 => ?_)
  · rw [if_pos hc35] at h
    exact F_X3_mostGroups_62_ok hdd hrc0 X hr hlk v0 v1 v2 v3 hW4 M _ h hK H locs ls O (lv_sub hl [1, 2, 3, 4] rfl)
  rw [if_neg hc35] at h
  refine lv_aload_n hx hb dX3_mostGroups_38 rfl (lv_at hl 1 rfl) ?_
  refine lv_iload_n hx hb dX3_mostGroups_39 rfl (lv_at hl 4 rfl) ?_
  obtain ⟨_, hut1, h⟩ := Option.bind_eq_some_iff.mp h
  obtain ⟨t2, ht2, h⟩ := Option.bind_eq_some_iff.mp h
  refine xr_callV (rest := []) X O (T_X3_balanceOf l κ v0 v3 M _ _ ht2) lk_X3_99 hut1 (by omega) rfl hl.1 rfl (Nat.le_of_ble_eq_true rfl) dX3_mostGroups_40 ⟨Nat.le_of_ble_eq_true rfl, Nat.le_of_ble_eq_true rfl⟩ (fun H locs O => ?_)
  refine W.eq (g2 := F0 m 43 ls [.int t2.1]) rfl ?_
  refine lv_if_ne (tgt := 62) hx hb dX3_mostGroups_43 (by decide) (fun hc43 => ?_) (fun hc43 => ?_)
  · rw [if_neg hc43] at h
    exact F_X3_mostGroups_62_ok hdd hrc0 X hr hlk v0 v1 v2 v3 hW4 t2.2 _ h hK H locs ls O (lv_sub hl [1, 2, 3, 4] rfl)
  rw [if_pos hc43] at h
  refine lv_iload_n hx hb dX3_mostGroups_46 rfl (lv_at hl 3 rfl) ?_
  refine lv_iconst (v := (1 : Int32)) hx hb dX3_mostGroups_47 (by decide) ?_
  refine lv_aload_n hx hb dX3_mostGroups_48 rfl (lv_at hl 1 rfl) ?_
  refine lv_iload_n hx hb dX3_mostGroups_49 rfl (lv_at hl 2 rfl) ?_
  refine lv_iload_n hx hb dX3_mostGroups_50 rfl (lv_at hl 4 rfl) ?_
  refine lv_iconst (v := (-1 : Int32)) hx hb dX3_mostGroups_51 (by decide) ?_
  refine lv_ixor hx hb dX3_mostGroups_52 ?_
  refine lv_iand hx hb dX3_mostGroups_53 ?_
  obtain ⟨_, hut3, h⟩ := Option.bind_eq_some_iff.mp h
  obtain ⟨t4, ht4, h⟩ := Option.bind_eq_some_iff.mp h
  refine xr_callV (rest := [.int (1 : Int32), .int v2]) X O (hrc0 κ v0 (v1 &&& (v3 ^^^ (-1 : Int32))) t2.2 _ _ ht4) lk_X3_95 hut3 (Nat.le_refl _) rfl hl.1 rfl (Nat.le_of_ble_eq_true rfl) dX3_mostGroups_54 ⟨Nat.le_of_ble_eq_true rfl, Nat.le_of_ble_eq_true rfl⟩ (fun H locs O => ?_)
  refine W.eq (g2 := F0 m 57 ls [.int t4.1, .int (1 : Int32), .int v2]) rfl ?_
  refine lv_iadd hx hb dX3_mostGroups_57 ?_
  obtain ⟨t5, ht5, h⟩ := Option.bind_eq_some_iff.mp h
  refine xr_callS (rest := []) X O (T_J9_max_7cf53 l κ v2 ((1 : Int32) + t4.1) t4.2 _ _ ht5) lk_X3_92 (by omega) rfl hl.1 rfl (Nat.le_of_ble_eq_true rfl) dX3_mostGroups_58 ⟨Nat.le_of_ble_eq_true rfl, Nat.le_of_ble_eq_true rfl⟩ (fun H locs O => ?_)
  refine W.eq (g2 := F0 m 61 ls [.int t5.1]) rfl ?_
  refine lv_istore_n (lv' := [(2, .int t5.1), (4, .int s0), (0, .ref (κ.1 + v0)), (1, .int v1), (3, .int v3)]) hx hb dX3_mostGroups_61 rfl hl (by decide) rfl (fun ls hl => ?_)
  exact F_X3_mostGroups_62_ok hdd hrc0 X hr hlk v0 v1 t5.1 v3 hW4 t5.2 _ h hK H locs ls O (lv_sub hl [2, 3, 0, 4] rfl)
set_option maxRecDepth 100000 in
set_option maxHeartbeats 4000000 in
theorem F_X3_mostGroups_30_ok {dd : Nat} (hdd : 2 ≤ dd) {rc : Nat → Int32 → xM → Option (Int32 × xM)} (hrc0 : ∀ (κ : xQ) (a0 : Nat) (a1 : Int32) (M : xM) (ro : Int32) (mo : xM), rc a0 a1 M = some (ro, mo) → xC l yX3_mostGroups cX3_mostGroups 5 (some .int) dd 0 0 κ [.ref (κ.1 + a0), .int a1] M (some (.int ro)) mo) (X : xX p s m args c cX3_mostGroups 5 RX3 κ) (hr : meth.sig.returnType = (some .int)) (hlk : meth.locks = false) {ro : Int32} {mo : xM} (v0 : Nat) (v1 : Int32) (v2 : Int32) (v3 : Int32) {W4 : Int32 × Int32 × xM → Prop} (hW4 : ∀ (v2 : Int32) (v3 : Int32) (M : xM), W4 (v2, v3, M) → ∀ (H : Heap) (locs : List Loc) (ls : Array Slot), xO κ s M H locs → lv_has ls 5 [(0, .ref (κ.1 + v0)), (1, .int v1), (2, .int v2), (3, .int v3)] → W p l e (xRm (dd + 1) 0 0) s m args below meth c H locs 0 0 (xQf below args s 0 0 κ (some (.int ro)) mo) (F0 m 4 ls [])) (M : xM) (x : (Int32 × Int32 × xM) ⊕ (Int32 × xM)) (h : F_X3_mostGroups_30 rc v0 v1 v2 v3 M = some x) (hK : (xKl W4 (fun o => o = (ro, mo))) x) (H : Heap) (locs : List Loc) (ls : Array Slot) (O : xO κ s M H locs) (hl : lv_has ls 5 [(0, .ref (κ.1 + v0)), (1, .int v1), (2, .int v2), (3, .int v3)]) : W p l e (xRm (dd + 1) 0 0) s m args below meth c H locs 0 0 (xQf below args s 0 0 κ (some (.int ro)) mo) (F0 m 30 ls []) := by
  unfold F_X3_mostGroups_30 at h
  have hx := X.1
  have hb := X.2.1
  refine lv_iconst (v := (0 : Int32)) hx hb dX3_mostGroups_30 (by decide) ?_
  exact F_X3_mostGroups_31_ok hdd hrc0 X hr hlk v0 v1 v2 v3 (0 : Int32) hW4 M _ h hK H locs ls O (lv_sub hl [0, 1, 2, 3] rfl)
set_option maxRecDepth 100000 in
set_option maxHeartbeats 4000000 in
theorem F_X3_mostGroups_68_ok {dd : Nat} (hdd : 2 ≤ dd) {rc : Nat → Int32 → xM → Option (Int32 × xM)} (hrc0 : ∀ (κ : xQ) (a0 : Nat) (a1 : Int32) (M : xM) (ro : Int32) (mo : xM), rc a0 a1 M = some (ro, mo) → xC l yX3_mostGroups cX3_mostGroups 5 (some .int) dd 0 0 κ [.ref (κ.1 + a0), .int a1] M (some (.int ro)) mo) (X : xX p s m args c cX3_mostGroups 5 RX3 κ) (hr : meth.sig.returnType = (some .int)) (hlk : meth.locks = false) {ro : Int32} {mo : xM} (v2 : Int32) (M : xM) (x : Int32 × xM) (h : F_X3_mostGroups_68 rc v2 M = some x) (hK : (fun o => o = (ro, mo)) x) (H : Heap) (locs : List Loc) (ls : Array Slot) (O : xO κ s M H locs) (hl : lv_has ls 5 [(2, .int v2)]) : W p l e (xRm (dd + 1) 0 0) s m args below meth c H locs 0 0 (xQf below args s 0 0 κ (some (.int ro)) mo) (F0 m 68 ls []) := by
  unfold F_X3_mostGroups_68 at h
  have hx := X.1
  have hb := X.2.1
  refine lv_iload_n hx hb dX3_mostGroups_68 rfl (lv_at hl 0 rfl) ?_
  rw [← Option.some.inj h] at hK
  have hK : (v2, M) = (ro, mo) := hK
  obtain ⟨hK1, hK2⟩ := Prod.mk.inj hK
  rw [hK2] at O
  refine xr_top (w := .int ro) (by rw [hK1]) ?_
  exact xr_iret X hr hlk O dX3_mostGroups_69
set_option maxRecDepth 100000 in
set_option maxHeartbeats 4000000 in
theorem F_X3_mostGroups_4_bok {dd : Nat} (hdd : 2 ≤ dd) {rc : Nat → Int32 → xM → Option (Int32 × xM)} (hrc0 : ∀ (κ : xQ) (a0 : Nat) (a1 : Int32) (M : xM) (ro : Int32) (mo : xM), rc a0 a1 M = some (ro, mo) → xC l yX3_mostGroups cX3_mostGroups 5 (some .int) dd 0 0 κ [.ref (κ.1 + a0), .int a1] M (some (.int ro)) mo) (X : xX p s m args c cX3_mostGroups 5 RX3 κ) (hr : meth.sig.returnType = (some .int)) (hlk : meth.locks = false) {ro : Int32} {mo : xM} (v0 : Nat) (v1 : Int32) (v2 : Int32) (v3 : Int32) {W4 : Int32 × Int32 × xM → Prop} (hW4 : ∀ (v2 : Int32) (v3 : Int32) (M : xM), W4 (v2, v3, M) → ∀ (H : Heap) (locs : List Loc) (ls : Array Slot), xO κ s M H locs → lv_has ls 5 [(0, .ref (κ.1 + v0)), (1, .int v1), (2, .int v2), (3, .int v3)] → W p l e (xRm (dd + 1) 0 0) s m args below meth c H locs 0 0 (xQf below args s 0 0 κ (some (.int ro)) mo) (F0 m 4 ls [])) (M : xM) (x : (Int32 × Int32 × xM) ⊕ (Int32 × xM)) (h : F_X3_mostGroups_4b rc v0 v1 (v2, v3, M) = some x) (hK : (xKl W4 (fun o => o = (ro, mo))) x) (H : Heap) (locs : List Loc) (ls : Array Slot) (O : xO κ s M H locs) (hl : lv_has ls 5 [(0, .ref (κ.1 + v0)), (1, .int v1), (2, .int v2), (3, .int v3)]) : W p l e (xRm (dd + 1) 0 0) s m args below meth c H locs 0 0 (xQf below args s 0 0 κ (some (.int ro)) mo) (F0 m 4 ls []) := by
  unfold F_X3_mostGroups_4b at h
  dsimp only at h
  have hx := X.1
  have hb := X.2.1
  refine lv_iload_n hx hb dX3_mostGroups_4 rfl (lv_at hl 3 rfl) ?_
  refine lv_iload_n hx hb dX3_mostGroups_5 rfl (lv_at hl 1 rfl) ?_
  refine lv_icmp_gt (tgt := 68) hx hb dX3_mostGroups_6 (by decide) (fun hc6 => ?_) (fun hc6 => ?_)
  · rw [if_pos hc6] at h
    obtain ⟨_, hw0, ew0⟩ := Option.map_eq_some_iff.mp h
    rw [← ew0] at hK
    have h := hw0
    exact F_X3_mostGroups_68_ok hdd hrc0 X hr hlk v2 M _ h hK H locs ls O (lv_sub hl [2] rfl)
  rw [if_neg hc6] at h
  refine lv_iload_n hx hb dX3_mostGroups_9 rfl (lv_at hl 3 rfl) ?_
  refine lv_iload_n hx hb dX3_mostGroups_10 rfl (lv_at hl 1 rfl) ?_
  refine lv_iconst (v := (-1 : Int32)) hx hb dX3_mostGroups_11 (by decide) ?_
  refine lv_ixor hx hb dX3_mostGroups_12 ?_
  refine lv_iand hx hb dX3_mostGroups_13 ?_
  refine lv_if_ne (tgt := 30) hx hb dX3_mostGroups_14 (by decide) (fun hc14 => ?_) (fun hc14 => ?_)
  · rw [if_neg hc14] at h
    exact F_X3_mostGroups_30_ok hdd hrc0 X hr hlk v0 v1 v2 v3 hW4 M _ h hK H locs ls O (lv_sub hl [0, 1, 2, 3] rfl)
  rw [if_pos hc14] at h
  refine lv_iload_n hx hb dX3_mostGroups_17 rfl (lv_at hl 3 rfl) ?_
  refine lv_iload_n hx hb dX3_mostGroups_18 rfl (lv_at hl 1 rfl) ?_
  refine lv_iand hx hb dX3_mostGroups_19 ?_
  refine lv_iload_n hx hb dX3_mostGroups_20 rfl (lv_at hl 1 rfl) ?_
  refine lv_ineg hx hb dX3_mostGroups_21 ?_
  refine lv_iand hx hb dX3_mostGroups_22 ?_
  refine lv_if_eq (tgt := 30) hx hb dX3_mostGroups_23 (by decide) (fun hc23 => ?_) (fun hc23 => ?_)
  · rw [if_pos hc23] at h
    exact F_X3_mostGroups_30_ok hdd hrc0 X hr hlk v0 v1 v2 v3 hW4 M _ h hK H locs ls O (lv_sub hl [0, 1, 2, 3] rfl)
  rw [if_neg hc23] at h
  refine lv_iconst (v := (1 : Int32)) hx hb dX3_mostGroups_26 (by decide) ?_
  refine lv_goto (tgt := 31) hx hb dX3_mostGroups_27 (by decide) ?_
  exact F_X3_mostGroups_31_ok hdd hrc0 X hr hlk v0 v1 v2 v3 (1 : Int32) hW4 M _ h hK H locs ls O (lv_sub hl [0, 1, 2, 3] rfl)
set_option maxRecDepth 100000 in
set_option maxHeartbeats 4000000 in
theorem F_X3_mostGroups_4_ok {dd : Nat} (hdd : 2 ≤ dd) {rc : Nat → Int32 → xM → Option (Int32 × xM)} (hrc0 : ∀ (κ : xQ) (a0 : Nat) (a1 : Int32) (M : xM) (ro : Int32) (mo : xM), rc a0 a1 M = some (ro, mo) → xC l yX3_mostGroups cX3_mostGroups 5 (some .int) dd 0 0 κ [.ref (κ.1 + a0), .int a1] M (some (.int ro)) mo) (X : xX p s m args c cX3_mostGroups 5 RX3 κ) (hr : meth.sig.returnType = (some .int)) (hlk : meth.locks = false) {ro : Int32} {mo : xM} (v0 : Nat) (v1 : Int32) (v2 : Int32) (v3 : Int32) (M : xM) (x : Int32 × xM) (h : F_X3_mostGroups_4 rc v0 v1 v2 v3 M = some x) (hK : (fun o => o = (ro, mo)) x) (H : Heap) (locs : List Loc) (ls : Array Slot) (O : xO κ s M H locs) (hl : lv_has ls 5 [(0, .ref (κ.1 + v0)), (1, .int v1), (2, .int v2), (3, .int v3)]) : W p l e (xRm (dd + 1) 0 0) s m args below meth c H locs 0 0 (xQf below args s 0 0 κ (some (.int ro)) mo) (F0 m 4 ls []) := by
  refine xit_K (Wh := fun x => ∀ (H : Heap) (locs : List Loc) (ls : Array Slot), xO κ s x.2.2 H locs → lv_has ls 5 [(0, .ref (κ.1 + v0)), (1, .int v1), (2, .int x.1), (3, .int x.2.1)] → W p l e (xRm (dd + 1) 0 0) s m args below meth c H locs 0 0 (xQf below args s 0 0 κ (some (.int ro)) mo) (F0 m 4 ls [])) (Kp := (fun o => o = (ro, mo))) ?_ xFU (v2, v3, M) x h hK H locs ls O hl
  intro y x h hK H locs ls O hl
  exact F_X3_mostGroups_4_bok hdd hrc0 X hr hlk v0 v1 y.1 y.2.1 (fun _ _ _ hw => hw) y.2.2 x h hK H locs ls O hl
set_option maxRecDepth 100000 in
set_option maxHeartbeats 4000000 in
theorem To_X3_mostGroups (l : Launch) {dd : Nat} (hdd : 2 ≤ dd) {rc : Nat → Int32 → xM → Option (Int32 × xM)} (hrc0 : ∀ (κ : xQ) (a0 : Nat) (a1 : Int32) (M : xM) (ro : Int32) (mo : xM), rc a0 a1 M = some (ro, mo) → xC l yX3_mostGroups cX3_mostGroups 5 (some .int) dd 0 0 κ [.ref (κ.1 + a0), .int a1] M (some (.int ro)) mo) (κ : xQ) (a0 : Nat) (a1 : Int32) (M : xM) (ro : Int32) (mo : xM) (h : F_X3_mostGroups rc a0 a1 M = some (ro, mo)) : xC l yX3_mostGroups cX3_mostGroups 5 (some .int) (dd + 1) 0 0 κ [.ref (κ.1 + a0), .int a1] M (some (.int ro)) mo := by
  refine xC_of rfl (Nat.le_of_ble_eq_true rfl) fun p e s m args below meth c X hr hlk hnm H locs ls O hl => ?_
  have X : xX p s m args c cX3_mostGroups 5 RX3 κ := X
  have hl : lv_has ls 5 [(0, .ref (κ.1 + a0)), (1, .int a1)] := hl
  have hx := X.1
  have hb := X.2.1
  obtain ⟨x, hx0⟩ : ∃ x, (ro, mo) = x := ⟨_, rfl⟩
  rw [hx0] at h
  have hK : x = (ro, mo) := hx0.symm
  unfold F_X3_mostGroups at h
  refine lv_iconst (v := (0 : Int32)) hx hb dX3_mostGroups_0 (by decide) ?_
  refine lv_istore_n (lv' := [(2, .int (0 : Int32)), (0, .ref (κ.1 + a0)), (1, .int a1)]) hx hb dX3_mostGroups_1 rfl hl (by decide) rfl (fun ls hl => ?_)
  refine lv_iconst (v := (1 : Int32)) hx hb dX3_mostGroups_2 (by decide) ?_
  refine lv_istore_n (lv' := [(3, .int (1 : Int32)), (2, .int (0 : Int32)), (0, .ref (κ.1 + a0)), (1, .int a1)]) hx hb dX3_mostGroups_3 rfl hl (by decide) rfl (fun ls hl => ?_)
  exact F_X3_mostGroups_4_ok hdd hrc0 X hr hlk a0 a1 (0 : Int32) (1 : Int32) M _ h hK H locs ls O (lv_sub hl [2, 3, 1, 0] rfl)
set_option maxRecDepth 100000 in
set_option maxHeartbeats 4000000 in
theorem K_X3_mostGroups (l : Launch) : ∀ n : Nat, (∀ (κ : xQ) (a0 : Nat) (a1 : Int32) (M : xM) (ro : Int32) (mo : xM), R_X3_mostGroups n a0 a1 M = some (ro, mo) → xC l yX3_mostGroups cX3_mostGroups 5 (some .int) (2 + n) 0 0 κ [.ref (κ.1 + a0), .int a1] M (some (.int ro)) mo) := by
  intro n
  induction n with
  | zero => exact fun κ a0 a1 M ro mo h => (by cases h)
  | succ n h0 => exact fun κ a0 a1 M ro mo h => To_X3_mostGroups l (dd := 2 + n) (Nat.le_add_right _ _) h0 κ a0 a1 M ro mo h
set_option maxRecDepth 100000 in
set_option maxHeartbeats 4000000 in
theorem Tx_X3_mostGroups (l : Launch) (κ : xQ) (a0 : Nat) (a1 : Int32) (M : xM) (ro : Int32) (mo : xM) (h : Fx_X3_mostGroups a0 a1 M = some (ro, mo)) : xC l yX3_mostGroups cX3_mostGroups 5 (some .int) 9 0 0 κ [.ref (κ.1 + a0), .int a1] M (some (.int ro)) mo := (K_X3_mostGroups l 7) κ a0 a1 M ro mo h
def F_X3_fewestPayments (a0 : Nat) (M : xM) : Option (Int32 × xM) :=
(xck M a0 3).bind fun _ =>
(Fx_X3_mostGroups a0 (31 : Int32) M).bind fun t2 =>
some (((5 : Int32) - t2.1), t2.2)
set_option maxRecDepth 100000 in
set_option maxHeartbeats 4000000 in
theorem T_X3_fewestPayments (l : Launch) (κ : xQ) (a0 : Nat) (M : xM) (ro : Int32) (mo : xM) (h : F_X3_fewestPayments a0 M = some (ro, mo)) : xC l yX3_fewestPayments cX3_fewestPayments 1 (some .int) 10 0 0 κ [.ref (κ.1 + a0)] M (some (.int ro)) mo := by
  refine xC_of rfl (Nat.le_of_ble_eq_true rfl) fun p e s m args below meth c X hr hlk hnm H locs ls O hl => ?_
  have X : xX p s m args c cX3_fewestPayments 1 RX3 κ := X
  have hl : lv_has ls 1 [(0, .ref (κ.1 + a0))] := hl
  have hx := X.1
  have hb := X.2.1
  obtain ⟨x, hx0⟩ : ∃ x, (ro, mo) = x := ⟨_, rfl⟩
  rw [hx0] at h
  have hK : x = (ro, mo) := hx0.symm
  unfold F_X3_fewestPayments at h
  refine lv_iconst (v := (5 : Int32)) hx hb dX3_fewestPayments_0 (by decide) ?_
  refine lv_aload_n hx hb dX3_fewestPayments_1 rfl (lv_at hl 0 rfl) ?_
  refine lv_bipush (v := (31 : Int32)) hx hb dX3_fewestPayments_2 (by decide) ?_
  obtain ⟨_, hut1, h⟩ := Option.bind_eq_some_iff.mp h
  obtain ⟨t2, ht2, h⟩ := Option.bind_eq_some_iff.mp h
  refine xr_callV (rest := [.int (5 : Int32)]) X O (Tx_X3_mostGroups l κ a0 (31 : Int32) M _ _ ht2) lk_X3_95 hut1 (Nat.le_of_ble_eq_true rfl) rfl hl.1 rfl (Nat.le_of_ble_eq_true rfl) dX3_fewestPayments_4 ⟨Nat.le_of_ble_eq_true rfl, Nat.le_of_ble_eq_true rfl⟩ (fun H locs O => ?_)
  refine W.eq (g2 := F0 m 7 ls [.int t2.1, .int (5 : Int32)]) rfl ?_
  refine lv_isub hx hb dX3_fewestPayments_7 ?_
  rw [← Option.some.inj h] at hK
  have hK : (((5 : Int32) - t2.1), t2.2) = (ro, mo) := hK
  obtain ⟨hK1, hK2⟩ := Prod.mk.inj hK
  rw [hK2] at O
  refine xr_top (w := .int ro) (by rw [hK1]) ?_
  exact xr_iret X hr hlk O dX3_fewestPayments_8
def F_X4_init (a0 : Nat) (M : xM) : Option (xM) :=
(some (xnw M (20, 6))).bind fun t1 =>
(xpP t1 a0 4 0 M.1.length).bind fun t2 =>
(some (xnw t2 (20, 100))).bind fun t3 =>
(xpP t3 a0 4 1 t2.1.length).bind fun t4 =>
some t4
set_option maxRecDepth 100000 in
set_option maxHeartbeats 4000000 in
theorem T_X4_init (l : Launch) (κ : xQ) (a0 : Nat) (M : xM) (mo : xM) (h : F_X4_init a0 M = some mo) : xC l yX4_init cX4_init 1 none 2 2 106 κ [.ref (κ.1 + a0)] M none mo := by
  refine xC_of rfl (Nat.le_of_ble_eq_true rfl) fun p e s m args below meth c X hr hlk hnm H locs ls O hl => ?_
  have X : xX p s m args c cX4_init 1 RX4 κ := X
  have hl : lv_has ls 1 [(0, .ref (κ.1 + a0))] := hl
  have hx := X.1
  have hb := X.2.1
  obtain ⟨x, hx0⟩ : ∃ x, mo = x := ⟨_, rfl⟩
  rw [hx0] at h
  have hK : x = mo := hx0.symm
  unfold F_X4_init at h
  refine lv_aload_n hx hb dX4_init_0 rfl (lv_at hl 0 rfl) ?_
  refine xr_objI X lo_X4_1.1 lo_X4_1.2.1 lo_X4_1.2.2 hl.1 (by decide) dX4_init_1 ?_
  refine W.eq (g2 := F0 m 4 ls []) rfl ?_
  refine lv_aload_n hx hb dX4_init_4 rfl (lv_at hl 0 rfl) ?_
  refine lv_bipush (v := (6 : Int32)) hx hb dX4_init_5 (by decide) ?_
  obtain ⟨t1, ht1, h⟩ := Option.bind_eq_some_iff.mp h
  refine xr_newI (N := 6) X O (xw_t1 133 (by decide +kernel) rfl) (by decide) (by decide) (by decide) (Nat.le_of_ble_eq_true rfl) (Nat.le_of_ble_eq_true rfl) dX4_init_7 (fun H locs O => ?_)
  rw [Option.some.inj ht1] at O
  refine W.eq (g2 := F0 m 9 ls [.ref (κ.1 + M.1.length), .ref (κ.1 + a0)]) rfl ?_
  obtain ⟨t2, ht2, h⟩ := Option.bind_eq_some_iff.mp h
  refine xr_putP X O ht2 fl_X4_9 (fun _ => ⟨hnm, rfl⟩) dX4_init_9 (fun H locs O => ?_)
  refine lv_aload_n hx hb dX4_init_12 rfl (lv_at hl 0 rfl) ?_
  refine lv_bipush (v := (100 : Int32)) hx hb dX4_init_13 (by decide) ?_
  obtain ⟨t3, ht3, h⟩ := Option.bind_eq_some_iff.mp h
  refine xr_newI (N := 100) X O (xw_t1 133 (by decide +kernel) rfl) (by decide) (by decide) (by decide) (Nat.le_of_ble_eq_true rfl) (Nat.le_of_ble_eq_true rfl) dX4_init_15 (fun H locs O => ?_)
  rw [Option.some.inj ht3] at O
  refine W.eq (g2 := F0 m 17 ls [.ref (κ.1 + t2.1.length), .ref (κ.1 + a0)]) rfl ?_
  obtain ⟨t4, ht4, h⟩ := Option.bind_eq_some_iff.mp h
  refine xr_putP X O ht4 fl_X4_13 (fun _ => ⟨hnm, rfl⟩) dX4_init_17 (fun H locs O => ?_)
  rw [← Option.some.inj h] at hK
  have hK : t4 = mo := hK
  rw [hK] at O
  exact xr_vret X hr hlk O dX4_init_20
def F_X5_keep (a0 : Nat) (a1 : Nat) (M : xM) : Option (xM) :=
(xgP M a0 5 2).bind fun t1 =>
(xgI M a0 5 1).bind fun t2 =>
(xaP M 30 t1 t2).bind fun t3 =>
(xck M t3 0).bind fun _ =>
(F_X0_take t3 a1 M).bind fun t5 =>
some t5
set_option maxRecDepth 100000 in
set_option maxHeartbeats 4000000 in
theorem T_X5_keep (l : Launch) (κ : xQ) (a0 : Nat) (a1 : Nat) (M : xM) (mo : xM) (h : F_X5_keep a0 a1 M = some mo) : xC l yX5_keep cX5_keep 2 none 3 0 0 κ [.ref (κ.1 + a0), .ref (κ.1 + a1)] M none mo := by
  refine xC_of rfl (Nat.le_of_ble_eq_true rfl) fun p e s m args below meth c X hr hlk hnm H locs ls O hl => ?_
  have X : xX p s m args c cX5_keep 2 RX5 κ := X
  have hl : lv_has ls 2 [(0, .ref (κ.1 + a0)), (1, .ref (κ.1 + a1))] := hl
  have hx := X.1
  have hb := X.2.1
  obtain ⟨x, hx0⟩ : ∃ x, mo = x := ⟨_, rfl⟩
  rw [hx0] at h
  have hK : x = mo := hx0.symm
  unfold F_X5_keep at h
  refine lv_aload_n hx hb dX5_keep_0 rfl (lv_at hl 0 rfl) ?_
  obtain ⟨t1, ht1, h⟩ := Option.bind_eq_some_iff.mp h
  refine xr_getP X O ht1 fl_X5_13 dX5_keep_1 ?_
  refine lv_aload_n hx hb dX5_keep_4 rfl (lv_at hl 0 rfl) ?_
  obtain ⟨t2, ht2, h⟩ := Option.bind_eq_some_iff.mp h
  refine xr_getI X O ht2 fl_X5_18 (Or.inl rfl) dX5_keep_5 ?_
  obtain ⟨t3, ht3, h⟩ := Option.bind_eq_some_iff.mp h
  refine xr_aldP (t0 := 4) (C := RX0) X O ht3 (by simp [xRk]) dX5_keep_8 ?_
  refine lv_aload_n hx hb dX5_keep_9 rfl (lv_at hl 1 rfl) ?_
  obtain ⟨_, hut4, h⟩ := Option.bind_eq_some_iff.mp h
  obtain ⟨t5, ht5, h⟩ := Option.bind_eq_some_iff.mp h
  refine xr_callV (rest := []) X O (T_X0_take l κ t3 a1 M _ ht5) lk_X5_22 hut4 (Nat.le_of_ble_eq_true rfl) rfl hl.1 rfl (Nat.le_of_ble_eq_true rfl) dX5_keep_10 ⟨Nat.le_of_ble_eq_true rfl, Nat.le_of_ble_eq_true rfl⟩ (fun H locs O => ?_)
  refine W.eq (g2 := F0 m 13 ls []) rfl ?_
  rw [← Option.some.inj h] at hK
  have hK : t5 = mo := hK
  rw [hK] at O
  exact xr_vret X hr hlk O dX5_keep_13
def F_X5_confirm (a0 : Nat) (M : xM) : Option (xM) :=
(xgI M a0 5 1).bind fun t1 =>
(xpI M a0 5 1 ((t1 + (1 : Int32)) - (t1 + (1 : Int32)) / (11 : Int32) * (11 : Int32))).bind fun t2 =>
(xgI t2 a0 5 0).bind fun t3 =>
(F_J9_min_7cf53 (t3 + (1 : Int32)) (10 : Int32) t2).bind fun t4 =>
(xpI t4.2 a0 5 0 t4.1).bind fun t5 =>
some t5
set_option maxRecDepth 100000 in
set_option maxHeartbeats 4000000 in
theorem T_X5_confirm (l : Launch) (κ : xQ) (a0 : Nat) (M : xM) (mo : xM) (h : F_X5_confirm a0 M = some mo) : xC l yX5_confirm cX5_confirm 1 none 3 0 0 κ [.ref (κ.1 + a0)] M none mo := by
  refine xC_of rfl (Nat.le_of_ble_eq_true rfl) fun p e s m args below meth c X hr hlk hnm H locs ls O hl => ?_
  have X : xX p s m args c cX5_confirm 1 RX5 κ := X
  have hl : lv_has ls 1 [(0, .ref (κ.1 + a0))] := hl
  have hx := X.1
  have hb := X.2.1
  obtain ⟨x, hx0⟩ : ∃ x, mo = x := ⟨_, rfl⟩
  rw [hx0] at h
  have hK : x = mo := hx0.symm
  unfold F_X5_confirm at h
  refine lv_aload_n hx hb dX5_confirm_0 rfl (lv_at hl 0 rfl) ?_
  refine lv_aload_n hx hb dX5_confirm_1 rfl (lv_at hl 0 rfl) ?_
  obtain ⟨t1, ht1, h⟩ := Option.bind_eq_some_iff.mp h
  refine xr_getI X O ht1 fl_X5_18 (Or.inl rfl) dX5_confirm_2 ?_
  refine lv_iconst (v := (1 : Int32)) hx hb dX5_confirm_5 (by decide) ?_
  refine lv_iadd hx hb dX5_confirm_6 ?_
  refine lv_bipush (v := (11 : Int32)) hx hb dX5_confirm_7 (by decide) ?_
  refine lv_irem hx hb dX5_confirm_9 (by decide) ?_
  obtain ⟨t2, ht2, h⟩ := Option.bind_eq_some_iff.mp h
  refine xr_putI X O ht2 fl_X5_18 dX5_confirm_10 (fun H locs O => ?_)
  refine lv_aload_n hx hb dX5_confirm_13 rfl (lv_at hl 0 rfl) ?_
  refine lv_aload_n hx hb dX5_confirm_14 rfl (lv_at hl 0 rfl) ?_
  obtain ⟨t3, ht3, h⟩ := Option.bind_eq_some_iff.mp h
  refine xr_getI X O ht3 fl_X5_26 (Or.inl rfl) dX5_confirm_15 ?_
  refine lv_iconst (v := (1 : Int32)) hx hb dX5_confirm_18 (by decide) ?_
  refine lv_iadd hx hb dX5_confirm_19 ?_
  refine lv_bipush (v := (10 : Int32)) hx hb dX5_confirm_20 (by decide) ?_
  obtain ⟨t4, ht4, h⟩ := Option.bind_eq_some_iff.mp h
  refine xr_callS (rest := [.ref (κ.1 + a0)]) X O (T_J9_min_7cf53 l κ (t3 + (1 : Int32)) (10 : Int32) t2 _ _ ht4) lk_X5_29 (Nat.le_of_ble_eq_true rfl) rfl hl.1 rfl (Nat.le_of_ble_eq_true rfl) dX5_confirm_22 ⟨Nat.le_of_ble_eq_true rfl, Nat.le_of_ble_eq_true rfl⟩ (fun H locs O => ?_)
  refine W.eq (g2 := F0 m 25 ls [.int t4.1, .ref (κ.1 + a0)]) rfl ?_
  obtain ⟨t5, ht5, h⟩ := Option.bind_eq_some_iff.mp h
  refine xr_putI X O ht5 fl_X5_26 dX5_confirm_25 (fun H locs O => ?_)
  rw [← Option.some.inj h] at hK
  have hK : t5 = mo := hK
  rw [hK] at O
  exact xr_vret X hr hlk O dX5_confirm_28
def F_X5_bringBack (a0 : Nat) (a1 : Int32) (a2 : Nat) (M : xM) : Option (xM) :=
(xgI M a0 5 1).bind fun t1 =>
(F_J9_floorMod_7cf53 (t1 - a1) (11 : Int32) M).bind fun t2 =>
(xpI t2.2 a0 5 1 t2.1).bind fun t3 =>
(xgI t3 a0 5 0).bind fun t4 =>
(xpI t3 a0 5 0 (t4 - a1)).bind fun t5 =>
(xgP t5 a0 5 2).bind fun t6 =>
(xgI t5 a0 5 1).bind fun t7 =>
(xaP t5 30 t6 t7).bind fun t8 =>
(xck t5 a2 0).bind fun _ =>
(F_X0_take a2 t8 t5).bind fun t10 =>
some t10
set_option maxRecDepth 100000 in
set_option maxHeartbeats 4000000 in
theorem T_X5_bringBack (l : Launch) (κ : xQ) (a0 : Nat) (a1 : Int32) (a2 : Nat) (M : xM) (mo : xM) (h : F_X5_bringBack a0 a1 a2 M = some mo) : xC l yX5_bringBack cX5_bringBack 3 none 3 0 0 κ [.ref (κ.1 + a0), .int a1, .ref (κ.1 + a2)] M none mo := by
  refine xC_of rfl (Nat.le_of_ble_eq_true rfl) fun p e s m args below meth c X hr hlk hnm H locs ls O hl => ?_
  have X : xX p s m args c cX5_bringBack 3 RX5 κ := X
  have hl : lv_has ls 3 [(0, .ref (κ.1 + a0)), (1, .int a1), (2, .ref (κ.1 + a2))] := hl
  have hx := X.1
  have hb := X.2.1
  obtain ⟨x, hx0⟩ : ∃ x, mo = x := ⟨_, rfl⟩
  rw [hx0] at h
  have hK : x = mo := hx0.symm
  unfold F_X5_bringBack at h
  refine lv_aload_n hx hb dX5_bringBack_0 rfl (lv_at hl 0 rfl) ?_
  refine lv_aload_n hx hb dX5_bringBack_1 rfl (lv_at hl 0 rfl) ?_
  obtain ⟨t1, ht1, h⟩ := Option.bind_eq_some_iff.mp h
  refine xr_getI X O ht1 fl_X5_18 (Or.inl rfl) dX5_bringBack_2 ?_
  refine lv_iload_n hx hb dX5_bringBack_5 rfl (lv_at hl 1 rfl) ?_
  refine lv_isub hx hb dX5_bringBack_6 ?_
  refine lv_bipush (v := (11 : Int32)) hx hb dX5_bringBack_7 (by decide) ?_
  obtain ⟨t2, ht2, h⟩ := Option.bind_eq_some_iff.mp h
  refine xr_callS (rest := [.ref (κ.1 + a0)]) X O (T_J9_floorMod_7cf53 l κ (t1 - a1) (11 : Int32) M _ _ ht2) lk_X5_35 (Nat.le_of_ble_eq_true rfl) rfl hl.1 rfl (Nat.le_of_ble_eq_true rfl) dX5_bringBack_9 ⟨Nat.le_of_ble_eq_true rfl, Nat.le_of_ble_eq_true rfl⟩ (fun H locs O => ?_)
  refine W.eq (g2 := F0 m 12 ls [.int t2.1, .ref (κ.1 + a0)]) rfl ?_
  obtain ⟨t3, ht3, h⟩ := Option.bind_eq_some_iff.mp h
  refine xr_putI X O ht3 fl_X5_18 dX5_bringBack_12 (fun H locs O => ?_)
  refine lv_aload_n hx hb dX5_bringBack_15 rfl (lv_at hl 0 rfl) ?_
  refine lv_dup hx hb dX5_bringBack_16 rfl ?_
  obtain ⟨t4, ht4, h⟩ := Option.bind_eq_some_iff.mp h
  refine xr_getI X O ht4 fl_X5_26 (Or.inl rfl) dX5_bringBack_17 ?_
  refine lv_iload_n hx hb dX5_bringBack_20 rfl (lv_at hl 1 rfl) ?_
  refine lv_isub hx hb dX5_bringBack_21 ?_
  obtain ⟨t5, ht5, h⟩ := Option.bind_eq_some_iff.mp h
  refine xr_putI X O ht5 fl_X5_26 dX5_bringBack_22 (fun H locs O => ?_)
  refine lv_aload_n hx hb dX5_bringBack_25 rfl (lv_at hl 2 rfl) ?_
  refine lv_aload_n hx hb dX5_bringBack_26 rfl (lv_at hl 0 rfl) ?_
  obtain ⟨t6, ht6, h⟩ := Option.bind_eq_some_iff.mp h
  refine xr_getP X O ht6 fl_X5_13 dX5_bringBack_27 ?_
  refine lv_aload_n hx hb dX5_bringBack_30 rfl (lv_at hl 0 rfl) ?_
  obtain ⟨t7, ht7, h⟩ := Option.bind_eq_some_iff.mp h
  refine xr_getI X O ht7 fl_X5_18 (Or.inl rfl) dX5_bringBack_31 ?_
  obtain ⟨t8, ht8, h⟩ := Option.bind_eq_some_iff.mp h
  refine xr_aldP (t0 := 4) (C := RX0) X O ht8 (by simp [xRk]) dX5_bringBack_34 ?_
  obtain ⟨_, hut9, h⟩ := Option.bind_eq_some_iff.mp h
  obtain ⟨t10, ht10, h⟩ := Option.bind_eq_some_iff.mp h
  refine xr_callV (rest := []) X O (T_X0_take l κ a2 t8 t5 _ ht10) lk_X5_22 hut9 (Nat.le_of_ble_eq_true rfl) rfl hl.1 rfl (Nat.le_of_ble_eq_true rfl) dX5_bringBack_35 ⟨Nat.le_of_ble_eq_true rfl, Nat.le_of_ble_eq_true rfl⟩ (fun H locs O => ?_)
  refine W.eq (g2 := F0 m 38 ls []) rfl ?_
  rw [← Option.some.inj h] at hK
  have hK : t10 = mo := hK
  rw [hK] at O
  exact xr_vret X hr hlk O dX5_bringBack_38
def F_X5_forget (a0 : Nat) (M : xM) : Option (xM) :=
(xpI M a0 5 0 (0 : Int32)).bind fun t1 =>
some t1
set_option maxRecDepth 100000 in
set_option maxHeartbeats 4000000 in
theorem T_X5_forget (l : Launch) (κ : xQ) (a0 : Nat) (M : xM) (mo : xM) (h : F_X5_forget a0 M = some mo) : xC l yX5_forget cX5_forget 1 none 2 0 0 κ [.ref (κ.1 + a0)] M none mo := by
  refine xC_of rfl (Nat.le_of_ble_eq_true rfl) fun p e s m args below meth c X hr hlk hnm H locs ls O hl => ?_
  have X : xX p s m args c cX5_forget 1 RX5 κ := X
  have hl : lv_has ls 1 [(0, .ref (κ.1 + a0))] := hl
  have hx := X.1
  have hb := X.2.1
  obtain ⟨x, hx0⟩ : ∃ x, mo = x := ⟨_, rfl⟩
  rw [hx0] at h
  have hK : x = mo := hx0.symm
  unfold F_X5_forget at h
  refine lv_aload_n hx hb dX5_forget_0 rfl (lv_at hl 0 rfl) ?_
  refine lv_iconst (v := (0 : Int32)) hx hb dX5_forget_1 (by decide) ?_
  obtain ⟨t1, ht1, h⟩ := Option.bind_eq_some_iff.mp h
  refine xr_putI X O ht1 fl_X5_26 dX5_forget_2 (fun H locs O => ?_)
  rw [← Option.some.inj h] at hK
  have hK : t1 = mo := hK
  rw [hK] at O
  exact xr_vret X hr hlk O dX5_forget_5
def F_X6_init (a0 : Nat) (M : xM) : Option (xM) :=
(some (xnw M (20, 6))).bind fun t1 =>
(xpP t1 a0 6 0 M.1.length).bind fun t2 =>
some t2
set_option maxRecDepth 100000 in
set_option maxHeartbeats 4000000 in
theorem T_X6_init (l : Launch) (κ : xQ) (a0 : Nat) (M : xM) (mo : xM) (h : F_X6_init a0 M = some mo) : xC l yX6_init cX6_init 1 none 2 1 6 κ [.ref (κ.1 + a0)] M none mo := by
  refine xC_of rfl (Nat.le_of_ble_eq_true rfl) fun p e s m args below meth c X hr hlk hnm H locs ls O hl => ?_
  have X : xX p s m args c cX6_init 1 RX6 κ := X
  have hl : lv_has ls 1 [(0, .ref (κ.1 + a0))] := hl
  have hx := X.1
  have hb := X.2.1
  obtain ⟨x, hx0⟩ : ∃ x, mo = x := ⟨_, rfl⟩
  rw [hx0] at h
  have hK : x = mo := hx0.symm
  unfold F_X6_init at h
  refine lv_aload_n hx hb dX6_init_0 rfl (lv_at hl 0 rfl) ?_
  refine xr_objI X lo_X6_3.1 lo_X6_3.2.1 lo_X6_3.2.2 hl.1 (by decide) dX6_init_1 ?_
  refine W.eq (g2 := F0 m 4 ls []) rfl ?_
  refine lv_aload_n hx hb dX6_init_4 rfl (lv_at hl 0 rfl) ?_
  refine lv_bipush (v := (6 : Int32)) hx hb dX6_init_5 (by decide) ?_
  obtain ⟨t1, ht1, h⟩ := Option.bind_eq_some_iff.mp h
  refine xr_newI (N := 6) X O (xw_t1 133 (by decide +kernel) rfl) (by decide) (by decide) (by decide) (Nat.le_of_ble_eq_true rfl) (Nat.le_of_ble_eq_true rfl) dX6_init_7 (fun H locs O => ?_)
  rw [Option.some.inj ht1] at O
  refine W.eq (g2 := F0 m 9 ls [.ref (κ.1 + M.1.length), .ref (κ.1 + a0)]) rfl ?_
  obtain ⟨t2, ht2, h⟩ := Option.bind_eq_some_iff.mp h
  refine xr_putP X O ht2 fl_X6_9 (fun _ => ⟨hnm, rfl⟩) dX6_init_9 (fun H locs O => ?_)
  rw [← Option.some.inj h] at hK
  have hK : t2 = mo := hK
  rw [hK] at O
  exact xr_vret X hr hlk O dX6_init_12
def F_X6_worthOf_29 (v0 : Nat) (v1 : Int32) (v2 : Int32) (v3 : Int32) (M : xM) : Option ((Int32 × Int32 × xM) ⊕ (Int32 × xM)) :=
some (.inl (v2, (v3 + 1), M))
def F_X6_worthOf_35 (v2 : Int32) (M : xM) : Option (Int32 × xM) :=
some (v2, M)
def F_X6_worthOf_4b (v0 : Nat) (v1 : Int32) : (Int32 × Int32 × xM) → Option ((Int32 × Int32 × xM) ⊕ (Int32 × xM)) := fun ⟨v2, v3, M⟩ =>
(xgI M v0 3 5).bind fun t1 =>
if t1 ≤ v3 then (
(F_X6_worthOf_35 v2 M).map Sum.inr)
else (
if ((v1 >>> (v3 &&& 31)) &&& (1 : Int32)) = 0 then (
F_X6_worthOf_29 v0 v1 v2 v3 M)
else (
(xgP M v0 3 14).bind fun t2 =>
(xaI M 20 t2 v3).bind fun t3 =>
(some ((v2 + t3))).bind fun t4 =>
F_X6_worthOf_29 v0 v1 t4 v3 M))
def F_X6_worthOf_4 (v0 : Nat) (v1 : Int32) (v2 : Int32) (v3 : Int32) (M : xM) : Option (Int32 × xM) := xit (F_X6_worthOf_4b v0 v1) xFU (v2, v3, M)
def F_X6_worthOf (a0 : Nat) (a1 : Int32) (M : xM) : Option (Int32 × xM) :=
F_X6_worthOf_4 a0 a1 (0 : Int32) (0 : Int32) M
set_option maxRecDepth 100000 in
set_option maxHeartbeats 4000000 in
theorem F_X6_worthOf_29_ok (X : xX p s m args c cX6_worthOf 4 RX6 κ) (hr : meth.sig.returnType = (some .int)) (hlk : meth.locks = false) {ro : Int32} {mo : xM} (v0 : Nat) (v1 : Int32) (v2 : Int32) (v3 : Int32) {W4 : Int32 × Int32 × xM → Prop} (hW4 : ∀ (v2 : Int32) (v3 : Int32) (M : xM), W4 (v2, v3, M) → ∀ (H : Heap) (locs : List Loc) (ls : Array Slot), xO κ s M H locs → lv_has ls 4 [(0, .ref (κ.1 + v0)), (1, .int v1), (2, .int v2), (3, .int v3)] → W p l e (xRm 2 0 0) s m args below meth c H locs 0 0 (xQf below args s 0 0 κ (some (.int ro)) mo) (F0 m 4 ls [])) (M : xM) (x : (Int32 × Int32 × xM) ⊕ (Int32 × xM)) (h : F_X6_worthOf_29 v0 v1 v2 v3 M = some x) (hK : (xKl W4 (fun o => o = (ro, mo))) x) (H : Heap) (locs : List Loc) (ls : Array Slot) (O : xO κ s M H locs) (hl : lv_has ls 4 [(0, .ref (κ.1 + v0)), (1, .int v1), (2, .int v2), (3, .int v3)]) : W p l e (xRm 2 0 0) s m args below meth c H locs 0 0 (xQf below args s 0 0 κ (some (.int ro)) mo) (F0 m 29 ls []) := by
  unfold F_X6_worthOf_29 at h
  have hx := X.1
  have hb := X.2.1
  refine lv_iinc (v := (v3 + 1)) (lv' := [(3, .int (v3 + 1)), (0, .ref (κ.1 + v0)), (1, .int v1), (2, .int v2)]) hx hb dX6_worthOf_29 hl (k := 3) rfl rfl (by decide) rfl (fun ls hl => ?_)
  refine lv_goto (tgt := 4) hx hb dX6_worthOf_32 (by decide) ?_
  rw [← Option.some.inj h] at hK
  exact hW4 v2 (v3 + 1) M hK H locs ls O (lv_sub hl [1, 2, 3, 0] rfl)
set_option maxRecDepth 100000 in
set_option maxHeartbeats 4000000 in
theorem F_X6_worthOf_35_ok (X : xX p s m args c cX6_worthOf 4 RX6 κ) (hr : meth.sig.returnType = (some .int)) (hlk : meth.locks = false) {ro : Int32} {mo : xM} (v2 : Int32) (M : xM) (x : Int32 × xM) (h : F_X6_worthOf_35 v2 M = some x) (hK : (fun o => o = (ro, mo)) x) (H : Heap) (locs : List Loc) (ls : Array Slot) (O : xO κ s M H locs) (hl : lv_has ls 4 [(2, .int v2)]) : W p l e (xRm 2 0 0) s m args below meth c H locs 0 0 (xQf below args s 0 0 κ (some (.int ro)) mo) (F0 m 35 ls []) := by
  unfold F_X6_worthOf_35 at h
  have hx := X.1
  have hb := X.2.1
  refine lv_iload_n hx hb dX6_worthOf_35 rfl (lv_at hl 0 rfl) ?_
  rw [← Option.some.inj h] at hK
  have hK : (v2, M) = (ro, mo) := hK
  obtain ⟨hK1, hK2⟩ := Prod.mk.inj hK
  rw [hK2] at O
  refine xr_top (w := .int ro) (by rw [hK1]) ?_
  exact xr_iret X hr hlk O dX6_worthOf_36
set_option maxRecDepth 100000 in
set_option maxHeartbeats 4000000 in
theorem F_X6_worthOf_4_bok (X : xX p s m args c cX6_worthOf 4 RX6 κ) (hr : meth.sig.returnType = (some .int)) (hlk : meth.locks = false) {ro : Int32} {mo : xM} (v0 : Nat) (v1 : Int32) (v2 : Int32) (v3 : Int32) {W4 : Int32 × Int32 × xM → Prop} (hW4 : ∀ (v2 : Int32) (v3 : Int32) (M : xM), W4 (v2, v3, M) → ∀ (H : Heap) (locs : List Loc) (ls : Array Slot), xO κ s M H locs → lv_has ls 4 [(0, .ref (κ.1 + v0)), (1, .int v1), (2, .int v2), (3, .int v3)] → W p l e (xRm 2 0 0) s m args below meth c H locs 0 0 (xQf below args s 0 0 κ (some (.int ro)) mo) (F0 m 4 ls [])) (M : xM) (x : (Int32 × Int32 × xM) ⊕ (Int32 × xM)) (h : F_X6_worthOf_4b v0 v1 (v2, v3, M) = some x) (hK : (xKl W4 (fun o => o = (ro, mo))) x) (H : Heap) (locs : List Loc) (ls : Array Slot) (O : xO κ s M H locs) (hl : lv_has ls 4 [(0, .ref (κ.1 + v0)), (1, .int v1), (2, .int v2), (3, .int v3)]) : W p l e (xRm 2 0 0) s m args below meth c H locs 0 0 (xQf below args s 0 0 κ (some (.int ro)) mo) (F0 m 4 ls []) := by
  unfold F_X6_worthOf_4b at h
  dsimp only at h
  have hx := X.1
  have hb := X.2.1
  refine lv_iload_n hx hb dX6_worthOf_4 rfl (lv_at hl 3 rfl) ?_
  refine lv_aload_n hx hb dX6_worthOf_5 rfl (lv_at hl 0 rfl) ?_
  obtain ⟨t1, ht1, h⟩ := Option.bind_eq_some_iff.mp h
  refine xr_getI X O ht1 fl_X6_15 (Or.inl rfl) dX6_worthOf_6 ?_
  refine lv_icmp_ge (tgt := 35) hx hb dX6_worthOf_9 (by decide) (fun hc9 => ?_) (fun hc9 => ?_)
  · rw [if_pos hc9] at h
    obtain ⟨_, hw0, ew0⟩ := Option.map_eq_some_iff.mp h
    rw [← ew0] at hK
    have h := hw0
    exact F_X6_worthOf_35_ok X hr hlk v2 M _ h hK H locs ls O (lv_sub hl [2] rfl)
  rw [if_neg hc9] at h
  refine lv_iload_n hx hb dX6_worthOf_12 rfl (lv_at hl 1 rfl) ?_
  refine lv_iload_n hx hb dX6_worthOf_13 rfl (lv_at hl 3 rfl) ?_
  refine lv_ishr hx hb dX6_worthOf_14 ?_
  refine lv_iconst (v := (1 : Int32)) hx hb dX6_worthOf_15 (by decide) ?_
  refine lv_iand hx hb dX6_worthOf_16 ?_
  refine lv_if_eq (tgt := 29) hx hb dX6_worthOf_17 (by decide) (fun hc17 => ?_) (fun hc17 => ?_)
  · rw [if_pos hc17] at h
    exact F_X6_worthOf_29_ok X hr hlk v0 v1 v2 v3 hW4 M _ h hK H locs ls O (lv_sub hl [0, 1, 2, 3] rfl)
  rw [if_neg hc17] at h
  refine lv_iload_n hx hb dX6_worthOf_20 rfl (lv_at hl 2 rfl) ?_
  refine lv_aload_n hx hb dX6_worthOf_21 rfl (lv_at hl 0 rfl) ?_
  obtain ⟨t2, ht2, h⟩ := Option.bind_eq_some_iff.mp h
  refine xr_getP X O ht2 fl_X6_29 dX6_worthOf_22 ?_
  refine lv_iload_n hx hb dX6_worthOf_25 rfl (lv_at hl 3 rfl) ?_
  obtain ⟨t3, ht3, h⟩ := Option.bind_eq_some_iff.mp h
  refine xr_aldI X O ht3 dX6_worthOf_26 ?_
  refine lv_iadd hx hb dX6_worthOf_27 ?_
  obtain ⟨t4, ht4, h⟩ := Option.bind_eq_some_iff.mp h
  refine xr_top (w := .int t4) (by rw [Option.some.inj ht4]) ?_
  refine lv_istore_n (lv' := [(2, .int t4), (0, .ref (κ.1 + v0)), (1, .int v1), (3, .int v3)]) hx hb dX6_worthOf_28 rfl hl (by decide) rfl (fun ls hl => ?_)
  exact F_X6_worthOf_29_ok X hr hlk v0 v1 t4 v3 hW4 M _ h hK H locs ls O (lv_sub hl [1, 2, 0, 3] rfl)
set_option maxRecDepth 100000 in
set_option maxHeartbeats 4000000 in
theorem F_X6_worthOf_4_ok (X : xX p s m args c cX6_worthOf 4 RX6 κ) (hr : meth.sig.returnType = (some .int)) (hlk : meth.locks = false) {ro : Int32} {mo : xM} (v0 : Nat) (v1 : Int32) (v2 : Int32) (v3 : Int32) (M : xM) (x : Int32 × xM) (h : F_X6_worthOf_4 v0 v1 v2 v3 M = some x) (hK : (fun o => o = (ro, mo)) x) (H : Heap) (locs : List Loc) (ls : Array Slot) (O : xO κ s M H locs) (hl : lv_has ls 4 [(0, .ref (κ.1 + v0)), (1, .int v1), (2, .int v2), (3, .int v3)]) : W p l e (xRm 2 0 0) s m args below meth c H locs 0 0 (xQf below args s 0 0 κ (some (.int ro)) mo) (F0 m 4 ls []) := by
  refine xit_K (Wh := fun x => ∀ (H : Heap) (locs : List Loc) (ls : Array Slot), xO κ s x.2.2 H locs → lv_has ls 4 [(0, .ref (κ.1 + v0)), (1, .int v1), (2, .int x.1), (3, .int x.2.1)] → W p l e (xRm 2 0 0) s m args below meth c H locs 0 0 (xQf below args s 0 0 κ (some (.int ro)) mo) (F0 m 4 ls [])) (Kp := (fun o => o = (ro, mo))) ?_ xFU (v2, v3, M) x h hK H locs ls O hl
  intro y x h hK H locs ls O hl
  exact F_X6_worthOf_4_bok X hr hlk v0 v1 y.1 y.2.1 (fun _ _ _ hw => hw) y.2.2 x h hK H locs ls O hl
set_option maxRecDepth 100000 in
set_option maxHeartbeats 4000000 in
theorem T_X6_worthOf (l : Launch) (κ : xQ) (a0 : Nat) (a1 : Int32) (M : xM) (ro : Int32) (mo : xM) (h : F_X6_worthOf a0 a1 M = some (ro, mo)) : xC l yX6_worthOf cX6_worthOf 4 (some .int) 2 0 0 κ [.ref (κ.1 + a0), .int a1] M (some (.int ro)) mo := by
  refine xC_of rfl (Nat.le_of_ble_eq_true rfl) fun p e s m args below meth c X hr hlk hnm H locs ls O hl => ?_
  have X : xX p s m args c cX6_worthOf 4 RX6 κ := X
  have hl : lv_has ls 4 [(0, .ref (κ.1 + a0)), (1, .int a1)] := hl
  have hx := X.1
  have hb := X.2.1
  obtain ⟨x, hx0⟩ : ∃ x, (ro, mo) = x := ⟨_, rfl⟩
  rw [hx0] at h
  have hK : x = (ro, mo) := hx0.symm
  unfold F_X6_worthOf at h
  refine lv_iconst (v := (0 : Int32)) hx hb dX6_worthOf_0 (by decide) ?_
  refine lv_istore_n (lv' := [(2, .int (0 : Int32)), (0, .ref (κ.1 + a0)), (1, .int a1)]) hx hb dX6_worthOf_1 rfl hl (by decide) rfl (fun ls hl => ?_)
  refine lv_iconst (v := (0 : Int32)) hx hb dX6_worthOf_2 (by decide) ?_
  refine lv_istore_n (lv' := [(3, .int (0 : Int32)), (2, .int (0 : Int32)), (0, .ref (κ.1 + a0)), (1, .int a1)]) hx hb dX6_worthOf_3 rfl hl (by decide) rfl (fun ls hl => ?_)
  exact F_X6_worthOf_4_ok X hr hlk a0 a1 (0 : Int32) (0 : Int32) M _ h hK H locs ls O (lv_sub hl [2, 3, 1, 0] rfl)
def F_X6_dueBy_47 (v0 : Nat) (v1 : Nat) (v2 : Int32) (v3 : Int32) (v4 : Int32) (v5 : Int32) (M : xM) : Option ((Int32 × Int32 × xM) ⊕ (Int32 × xM)) :=
some (.inl (v4, (v5 + 1), M))
def F_X6_dueBy_53 (v4 : Int32) (M : xM) : Option (Int32 × xM) :=
some (v4, M)
def F_X6_dueBy_6b (v0 : Nat) (v1 : Nat) (v2 : Int32) (v3 : Int32) : (Int32 × Int32 × xM) → Option ((Int32 × Int32 × xM) ⊕ (Int32 × xM)) := fun ⟨v4, v5, M⟩ =>
(xgI M v1 3 5).bind fun t1 =>
if t1 ≤ v5 then (
(F_X6_dueBy_53 v4 M).map Sum.inr)
else (
if ((v2 >>> (v5 &&& 31)) &&& (1 : Int32)) = 0 then (
F_X6_dueBy_47 v0 v1 v2 v3 v4 v5 M)
else (
(xgP M v0 6 0).bind fun t2 =>
(xaI M 20 t2 v5).bind fun t3 =>
if v3 < t3 then (
F_X6_dueBy_47 v0 v1 v2 v3 v4 v5 M)
else (
(xgP M v1 3 13).bind fun t4 =>
(xaI M 20 t4 v5).bind fun t5 =>
(some ((v4 + t5))).bind fun t6 =>
F_X6_dueBy_47 v0 v1 v2 v3 t6 v5 M)))
def F_X6_dueBy_6 (v0 : Nat) (v1 : Nat) (v2 : Int32) (v3 : Int32) (v4 : Int32) (v5 : Int32) (M : xM) : Option (Int32 × xM) := xit (F_X6_dueBy_6b v0 v1 v2 v3) xFU (v4, v5, M)
def F_X6_dueBy (a0 : Nat) (a1 : Nat) (a2 : Int32) (a3 : Int32) (M : xM) : Option (Int32 × xM) :=
F_X6_dueBy_6 a0 a1 a2 a3 (0 : Int32) (0 : Int32) M
set_option maxRecDepth 100000 in
set_option maxHeartbeats 4000000 in
theorem F_X6_dueBy_47_ok (X : xX p s m args c cX6_dueBy 6 RX6 κ) (hr : meth.sig.returnType = (some .int)) (hlk : meth.locks = false) {ro : Int32} {mo : xM} (v0 : Nat) (v1 : Nat) (v2 : Int32) (v3 : Int32) (v4 : Int32) (v5 : Int32) {W6 : Int32 × Int32 × xM → Prop} (hW6 : ∀ (v4 : Int32) (v5 : Int32) (M : xM), W6 (v4, v5, M) → ∀ (H : Heap) (locs : List Loc) (ls : Array Slot), xO κ s M H locs → lv_has ls 6 [(0, .ref (κ.1 + v0)), (1, .ref (κ.1 + v1)), (2, .int v2), (3, .int v3), (4, .int v4), (5, .int v5)] → W p l e (xRm 2 0 0) s m args below meth c H locs 0 0 (xQf below args s 0 0 κ (some (.int ro)) mo) (F0 m 6 ls [])) (M : xM) (x : (Int32 × Int32 × xM) ⊕ (Int32 × xM)) (h : F_X6_dueBy_47 v0 v1 v2 v3 v4 v5 M = some x) (hK : (xKl W6 (fun o => o = (ro, mo))) x) (H : Heap) (locs : List Loc) (ls : Array Slot) (O : xO κ s M H locs) (hl : lv_has ls 6 [(0, .ref (κ.1 + v0)), (1, .ref (κ.1 + v1)), (2, .int v2), (3, .int v3), (4, .int v4), (5, .int v5)]) : W p l e (xRm 2 0 0) s m args below meth c H locs 0 0 (xQf below args s 0 0 κ (some (.int ro)) mo) (F0 m 47 ls []) := by
  unfold F_X6_dueBy_47 at h
  have hx := X.1
  have hb := X.2.1
  refine lv_iinc (v := (v5 + 1)) (lv' := [(5, .int (v5 + 1)), (0, .ref (κ.1 + v0)), (1, .ref (κ.1 + v1)), (2, .int v2), (3, .int v3), (4, .int v4)]) hx hb dX6_dueBy_47 hl (k := 5) rfl rfl (by decide) rfl (fun ls hl => ?_)
  refine lv_goto (tgt := 6) hx hb dX6_dueBy_50 (by decide) ?_
  rw [← Option.some.inj h] at hK
  exact hW6 v4 (v5 + 1) M hK H locs ls O (lv_sub hl [1, 2, 3, 4, 5, 0] rfl)
set_option maxRecDepth 100000 in
set_option maxHeartbeats 4000000 in
theorem F_X6_dueBy_53_ok (X : xX p s m args c cX6_dueBy 6 RX6 κ) (hr : meth.sig.returnType = (some .int)) (hlk : meth.locks = false) {ro : Int32} {mo : xM} (v4 : Int32) (M : xM) (x : Int32 × xM) (h : F_X6_dueBy_53 v4 M = some x) (hK : (fun o => o = (ro, mo)) x) (H : Heap) (locs : List Loc) (ls : Array Slot) (O : xO κ s M H locs) (hl : lv_has ls 6 [(4, .int v4)]) : W p l e (xRm 2 0 0) s m args below meth c H locs 0 0 (xQf below args s 0 0 κ (some (.int ro)) mo) (F0 m 53 ls []) := by
  unfold F_X6_dueBy_53 at h
  have hx := X.1
  have hb := X.2.1
  refine lv_iload hx hb dX6_dueBy_53 (lv_at hl 0 rfl) ?_
  rw [← Option.some.inj h] at hK
  have hK : (v4, M) = (ro, mo) := hK
  obtain ⟨hK1, hK2⟩ := Prod.mk.inj hK
  rw [hK2] at O
  refine xr_top (w := .int ro) (by rw [hK1]) ?_
  exact xr_iret X hr hlk O dX6_dueBy_55
set_option maxRecDepth 100000 in
set_option maxHeartbeats 4000000 in
theorem F_X6_dueBy_6_bok (X : xX p s m args c cX6_dueBy 6 RX6 κ) (hr : meth.sig.returnType = (some .int)) (hlk : meth.locks = false) {ro : Int32} {mo : xM} (v0 : Nat) (v1 : Nat) (v2 : Int32) (v3 : Int32) (v4 : Int32) (v5 : Int32) {W6 : Int32 × Int32 × xM → Prop} (hW6 : ∀ (v4 : Int32) (v5 : Int32) (M : xM), W6 (v4, v5, M) → ∀ (H : Heap) (locs : List Loc) (ls : Array Slot), xO κ s M H locs → lv_has ls 6 [(0, .ref (κ.1 + v0)), (1, .ref (κ.1 + v1)), (2, .int v2), (3, .int v3), (4, .int v4), (5, .int v5)] → W p l e (xRm 2 0 0) s m args below meth c H locs 0 0 (xQf below args s 0 0 κ (some (.int ro)) mo) (F0 m 6 ls [])) (M : xM) (x : (Int32 × Int32 × xM) ⊕ (Int32 × xM)) (h : F_X6_dueBy_6b v0 v1 v2 v3 (v4, v5, M) = some x) (hK : (xKl W6 (fun o => o = (ro, mo))) x) (H : Heap) (locs : List Loc) (ls : Array Slot) (O : xO κ s M H locs) (hl : lv_has ls 6 [(0, .ref (κ.1 + v0)), (1, .ref (κ.1 + v1)), (2, .int v2), (3, .int v3), (4, .int v4), (5, .int v5)]) : W p l e (xRm 2 0 0) s m args below meth c H locs 0 0 (xQf below args s 0 0 κ (some (.int ro)) mo) (F0 m 6 ls []) := by
  unfold F_X6_dueBy_6b at h
  dsimp only at h
  have hx := X.1
  have hb := X.2.1
  refine lv_iload hx hb dX6_dueBy_6 (lv_at hl 5 rfl) ?_
  refine lv_aload_n hx hb dX6_dueBy_8 rfl (lv_at hl 1 rfl) ?_
  obtain ⟨t1, ht1, h⟩ := Option.bind_eq_some_iff.mp h
  refine xr_getI X O ht1 fl_X6_15 (Or.inl rfl) dX6_dueBy_9 ?_
  refine lv_icmp_ge (tgt := 53) hx hb dX6_dueBy_12 (by decide) (fun hc12 => ?_) (fun hc12 => ?_)
  · rw [if_pos hc12] at h
    obtain ⟨_, hw0, ew0⟩ := Option.map_eq_some_iff.mp h
    rw [← ew0] at hK
    have h := hw0
    exact F_X6_dueBy_53_ok X hr hlk v4 M _ h hK H locs ls O (lv_sub hl [4] rfl)
  rw [if_neg hc12] at h
  refine lv_iload_n hx hb dX6_dueBy_15 rfl (lv_at hl 2 rfl) ?_
  refine lv_iload hx hb dX6_dueBy_16 (lv_at hl 5 rfl) ?_
  refine lv_ishr hx hb dX6_dueBy_18 ?_
  refine lv_iconst (v := (1 : Int32)) hx hb dX6_dueBy_19 (by decide) ?_
  refine lv_iand hx hb dX6_dueBy_20 ?_
  refine lv_if_eq (tgt := 47) hx hb dX6_dueBy_21 (by decide) (fun hc21 => ?_) (fun hc21 => ?_)
  · rw [if_pos hc21] at h
    exact F_X6_dueBy_47_ok X hr hlk v0 v1 v2 v3 v4 v5 hW6 M _ h hK H locs ls O (lv_sub hl [0, 1, 2, 3, 4, 5] rfl)
  rw [if_neg hc21] at h
  refine lv_aload_n hx hb dX6_dueBy_24 rfl (lv_at hl 0 rfl) ?_
  obtain ⟨t2, ht2, h⟩ := Option.bind_eq_some_iff.mp h
  refine xr_getP X O ht2 fl_X6_9 dX6_dueBy_25 ?_
  refine lv_iload hx hb dX6_dueBy_28 (lv_at hl 5 rfl) ?_
  obtain ⟨t3, ht3, h⟩ := Option.bind_eq_some_iff.mp h
  refine xr_aldI X O ht3 dX6_dueBy_30 ?_
  refine lv_iload_n hx hb dX6_dueBy_31 rfl (lv_at hl 3 rfl) ?_
  refine lv_icmp_gt (tgt := 47) hx hb dX6_dueBy_32 (by decide) (fun hc32 => ?_) (fun hc32 => ?_)
  · rw [if_pos hc32] at h
    exact F_X6_dueBy_47_ok X hr hlk v0 v1 v2 v3 v4 v5 hW6 M _ h hK H locs ls O (lv_sub hl [0, 1, 2, 3, 4, 5] rfl)
  rw [if_neg hc32] at h
  refine lv_iload hx hb dX6_dueBy_35 (lv_at hl 4 rfl) ?_
  refine lv_aload_n hx hb dX6_dueBy_37 rfl (lv_at hl 1 rfl) ?_
  obtain ⟨t4, ht4, h⟩ := Option.bind_eq_some_iff.mp h
  refine xr_getP X O ht4 fl_X6_36 dX6_dueBy_38 ?_
  refine lv_iload hx hb dX6_dueBy_41 (lv_at hl 5 rfl) ?_
  obtain ⟨t5, ht5, h⟩ := Option.bind_eq_some_iff.mp h
  refine xr_aldI X O ht5 dX6_dueBy_43 ?_
  refine lv_iadd hx hb dX6_dueBy_44 ?_
  obtain ⟨t6, ht6, h⟩ := Option.bind_eq_some_iff.mp h
  refine xr_top (w := .int t6) (by rw [Option.some.inj ht6]) ?_
  refine lv_istore (lv' := [(4, .int t6), (0, .ref (κ.1 + v0)), (1, .ref (κ.1 + v1)), (2, .int v2), (3, .int v3), (5, .int v5)]) hx hb dX6_dueBy_45 hl (by decide) rfl (fun ls hl => ?_)
  exact F_X6_dueBy_47_ok X hr hlk v0 v1 v2 v3 t6 v5 hW6 M _ h hK H locs ls O (lv_sub hl [1, 2, 3, 4, 0, 5] rfl)
set_option maxRecDepth 100000 in
set_option maxHeartbeats 4000000 in
theorem F_X6_dueBy_6_ok (X : xX p s m args c cX6_dueBy 6 RX6 κ) (hr : meth.sig.returnType = (some .int)) (hlk : meth.locks = false) {ro : Int32} {mo : xM} (v0 : Nat) (v1 : Nat) (v2 : Int32) (v3 : Int32) (v4 : Int32) (v5 : Int32) (M : xM) (x : Int32 × xM) (h : F_X6_dueBy_6 v0 v1 v2 v3 v4 v5 M = some x) (hK : (fun o => o = (ro, mo)) x) (H : Heap) (locs : List Loc) (ls : Array Slot) (O : xO κ s M H locs) (hl : lv_has ls 6 [(0, .ref (κ.1 + v0)), (1, .ref (κ.1 + v1)), (2, .int v2), (3, .int v3), (4, .int v4), (5, .int v5)]) : W p l e (xRm 2 0 0) s m args below meth c H locs 0 0 (xQf below args s 0 0 κ (some (.int ro)) mo) (F0 m 6 ls []) := by
  refine xit_K (Wh := fun x => ∀ (H : Heap) (locs : List Loc) (ls : Array Slot), xO κ s x.2.2 H locs → lv_has ls 6 [(0, .ref (κ.1 + v0)), (1, .ref (κ.1 + v1)), (2, .int v2), (3, .int v3), (4, .int x.1), (5, .int x.2.1)] → W p l e (xRm 2 0 0) s m args below meth c H locs 0 0 (xQf below args s 0 0 κ (some (.int ro)) mo) (F0 m 6 ls [])) (Kp := (fun o => o = (ro, mo))) ?_ xFU (v4, v5, M) x h hK H locs ls O hl
  intro y x h hK H locs ls O hl
  exact F_X6_dueBy_6_bok X hr hlk v0 v1 v2 v3 y.1 y.2.1 (fun _ _ _ hw => hw) y.2.2 x h hK H locs ls O hl
set_option maxRecDepth 100000 in
set_option maxHeartbeats 4000000 in
theorem T_X6_dueBy (l : Launch) (κ : xQ) (a0 : Nat) (a1 : Nat) (a2 : Int32) (a3 : Int32) (M : xM) (ro : Int32) (mo : xM) (h : F_X6_dueBy a0 a1 a2 a3 M = some (ro, mo)) : xC l yX6_dueBy cX6_dueBy 6 (some .int) 2 0 0 κ [.ref (κ.1 + a0), .ref (κ.1 + a1), .int a2, .int a3] M (some (.int ro)) mo := by
  refine xC_of rfl (Nat.le_of_ble_eq_true rfl) fun p e s m args below meth c X hr hlk hnm H locs ls O hl => ?_
  have X : xX p s m args c cX6_dueBy 6 RX6 κ := X
  have hl : lv_has ls 6 [(0, .ref (κ.1 + a0)), (1, .ref (κ.1 + a1)), (2, .int a2), (3, .int a3)] := hl
  have hx := X.1
  have hb := X.2.1
  obtain ⟨x, hx0⟩ : ∃ x, (ro, mo) = x := ⟨_, rfl⟩
  rw [hx0] at h
  have hK : x = (ro, mo) := hx0.symm
  unfold F_X6_dueBy at h
  refine lv_iconst (v := (0 : Int32)) hx hb dX6_dueBy_0 (by decide) ?_
  refine lv_istore (lv' := [(4, .int (0 : Int32)), (0, .ref (κ.1 + a0)), (1, .ref (κ.1 + a1)), (2, .int a2), (3, .int a3)]) hx hb dX6_dueBy_1 hl (by decide) rfl (fun ls hl => ?_)
  refine lv_iconst (v := (0 : Int32)) hx hb dX6_dueBy_3 (by decide) ?_
  refine lv_istore (lv' := [(5, .int (0 : Int32)), (4, .int (0 : Int32)), (0, .ref (κ.1 + a0)), (1, .ref (κ.1 + a1)), (2, .int a2), (3, .int a3)]) hx hb dX6_dueBy_4 hl (by decide) rfl (fun ls hl => ?_)
  exact F_X6_dueBy_6_ok X hr hlk a0 a1 a2 a3 (0 : Int32) (0 : Int32) M _ h hK H locs ls O (lv_sub hl [2, 3, 4, 5, 1, 0] rfl)
def F_X6_canBeBuilt_46 (M : xM) : Option (Int32 × xM) :=
(xz (0 : Int32)).bind fun t9 =>
some (t9, M)
def F_X6_canBeBuilt_48 (v0 : Nat) (v1 : Nat) (v2 : Int32) (v3 : Int32) (v4 : Int32) (M : xM) : Option ((Int32 × xM) ⊕ (Int32 × xM)) :=
some (.inl ((v4 + 1), M))
def F_X6_canBeBuilt_54 (M : xM) : Option (Int32 × xM) :=
(xz (1 : Int32)).bind fun t8 =>
some (t8, M)
def F_X6_canBeBuilt_3b (v0 : Nat) (v1 : Nat) (v2 : Int32) (v3 : Int32) : (Int32 × xM) → Option ((Int32 × xM) ⊕ (Int32 × xM)) := fun ⟨v4, M⟩ =>
(xgI M v1 3 5).bind fun t1 =>
if t1 ≤ v4 then (
(F_X6_canBeBuilt_54 M).map Sum.inr)
else (
if ((v2 >>> (v4 &&& 31)) &&& (1 : Int32)) = 0 then (
F_X6_canBeBuilt_48 v0 v1 v2 v3 v4 M)
else (
(xgP M v0 6 0).bind fun t2 =>
(xaI M 20 t2 v4).bind fun t3 =>
(xck M v0 6).bind fun _ =>
(F_X6_dueBy v0 v1 v2 t3 M).bind fun t5 =>
(xgP t5.2 v0 6 0).bind fun t6 =>
(xaI t5.2 20 t6 v4).bind fun t7 =>
if (v3 + t5.1) ≤ t7 then (
F_X6_canBeBuilt_48 v0 v1 v2 v3 v4 t5.2)
else (
(F_X6_canBeBuilt_46 t5.2).map Sum.inr)))
def F_X6_canBeBuilt_3 (v0 : Nat) (v1 : Nat) (v2 : Int32) (v3 : Int32) (v4 : Int32) (M : xM) : Option (Int32 × xM) := xit (F_X6_canBeBuilt_3b v0 v1 v2 v3) xFU (v4, M)
def F_X6_canBeBuilt (a0 : Nat) (a1 : Nat) (a2 : Int32) (a3 : Int32) (M : xM) : Option (Int32 × xM) :=
F_X6_canBeBuilt_3 a0 a1 a2 a3 (0 : Int32) M
set_option maxRecDepth 100000 in
set_option maxHeartbeats 4000000 in
theorem F_X6_canBeBuilt_46_ok (X : xX p s m args c cX6_canBeBuilt 5 RX6 κ) (hr : meth.sig.returnType = (some .boolean)) (hlk : meth.locks = false) {ro : Int32} {mo : xM} (M : xM) (x : Int32 × xM) (h : F_X6_canBeBuilt_46 M = some x) (hK : (fun o => o = (ro, mo)) x) (H : Heap) (locs : List Loc) (ls : Array Slot) (O : xO κ s M H locs) (hl : lv_has ls 5 []) : W p l e (xRm 3 0 0) s m args below meth c H locs 0 0 (xQf below args s 0 0 κ (some (.int ro)) mo) (F0 m 46 ls []) := by
  unfold F_X6_canBeBuilt_46 at h
  have hx := X.1
  have hb := X.2.1
  refine lv_iconst (v := (0 : Int32)) hx hb dX6_canBeBuilt_46 (by decide) ?_
  obtain ⟨t9, ht9, h⟩ := Option.bind_eq_some_iff.mp h
  rw [← Option.some.inj h] at hK
  have hK : (t9, M) = (ro, mo) := hK
  obtain ⟨hK1, hK2⟩ := Prod.mk.inj hK
  rw [hK1] at ht9
  rw [hK2] at O
  exact xr_zret X hr hlk O ht9 dX6_canBeBuilt_47
set_option maxRecDepth 100000 in
set_option maxHeartbeats 4000000 in
theorem F_X6_canBeBuilt_48_ok (X : xX p s m args c cX6_canBeBuilt 5 RX6 κ) (hr : meth.sig.returnType = (some .boolean)) (hlk : meth.locks = false) {ro : Int32} {mo : xM} (v0 : Nat) (v1 : Nat) (v2 : Int32) (v3 : Int32) (v4 : Int32) {W3 : Int32 × xM → Prop} (hW3 : ∀ (v4 : Int32) (M : xM), W3 (v4, M) → ∀ (H : Heap) (locs : List Loc) (ls : Array Slot), xO κ s M H locs → lv_has ls 5 [(0, .ref (κ.1 + v0)), (1, .ref (κ.1 + v1)), (2, .int v2), (3, .int v3), (4, .int v4)] → W p l e (xRm 3 0 0) s m args below meth c H locs 0 0 (xQf below args s 0 0 κ (some (.int ro)) mo) (F0 m 3 ls [])) (M : xM) (x : (Int32 × xM) ⊕ (Int32 × xM)) (h : F_X6_canBeBuilt_48 v0 v1 v2 v3 v4 M = some x) (hK : (xKl W3 (fun o => o = (ro, mo))) x) (H : Heap) (locs : List Loc) (ls : Array Slot) (O : xO κ s M H locs) (hl : lv_has ls 5 [(0, .ref (κ.1 + v0)), (1, .ref (κ.1 + v1)), (2, .int v2), (3, .int v3), (4, .int v4)]) : W p l e (xRm 3 0 0) s m args below meth c H locs 0 0 (xQf below args s 0 0 κ (some (.int ro)) mo) (F0 m 48 ls []) := by
  unfold F_X6_canBeBuilt_48 at h
  have hx := X.1
  have hb := X.2.1
  refine lv_iinc (v := (v4 + 1)) (lv' := [(4, .int (v4 + 1)), (0, .ref (κ.1 + v0)), (1, .ref (κ.1 + v1)), (2, .int v2), (3, .int v3)]) hx hb dX6_canBeBuilt_48 hl (k := 4) rfl rfl (by decide) rfl (fun ls hl => ?_)
  refine lv_goto (tgt := 3) hx hb dX6_canBeBuilt_51 (by decide) ?_
  rw [← Option.some.inj h] at hK
  exact hW3 (v4 + 1) M hK H locs ls O (lv_sub hl [1, 2, 3, 4, 0] rfl)
set_option maxRecDepth 100000 in
set_option maxHeartbeats 4000000 in
theorem F_X6_canBeBuilt_54_ok (X : xX p s m args c cX6_canBeBuilt 5 RX6 κ) (hr : meth.sig.returnType = (some .boolean)) (hlk : meth.locks = false) {ro : Int32} {mo : xM} (M : xM) (x : Int32 × xM) (h : F_X6_canBeBuilt_54 M = some x) (hK : (fun o => o = (ro, mo)) x) (H : Heap) (locs : List Loc) (ls : Array Slot) (O : xO κ s M H locs) (hl : lv_has ls 5 []) : W p l e (xRm 3 0 0) s m args below meth c H locs 0 0 (xQf below args s 0 0 κ (some (.int ro)) mo) (F0 m 54 ls []) := by
  unfold F_X6_canBeBuilt_54 at h
  have hx := X.1
  have hb := X.2.1
  refine lv_iconst (v := (1 : Int32)) hx hb dX6_canBeBuilt_54 (by decide) ?_
  obtain ⟨t8, ht8, h⟩ := Option.bind_eq_some_iff.mp h
  rw [← Option.some.inj h] at hK
  have hK : (t8, M) = (ro, mo) := hK
  obtain ⟨hK1, hK2⟩ := Prod.mk.inj hK
  rw [hK1] at ht8
  rw [hK2] at O
  exact xr_zret X hr hlk O ht8 dX6_canBeBuilt_55
set_option maxRecDepth 100000 in
set_option maxHeartbeats 4000000 in
theorem F_X6_canBeBuilt_3_bok (X : xX p s m args c cX6_canBeBuilt 5 RX6 κ) (hr : meth.sig.returnType = (some .boolean)) (hlk : meth.locks = false) {ro : Int32} {mo : xM} (v0 : Nat) (v1 : Nat) (v2 : Int32) (v3 : Int32) (v4 : Int32) {W3 : Int32 × xM → Prop} (hW3 : ∀ (v4 : Int32) (M : xM), W3 (v4, M) → ∀ (H : Heap) (locs : List Loc) (ls : Array Slot), xO κ s M H locs → lv_has ls 5 [(0, .ref (κ.1 + v0)), (1, .ref (κ.1 + v1)), (2, .int v2), (3, .int v3), (4, .int v4)] → W p l e (xRm 3 0 0) s m args below meth c H locs 0 0 (xQf below args s 0 0 κ (some (.int ro)) mo) (F0 m 3 ls [])) (M : xM) (x : (Int32 × xM) ⊕ (Int32 × xM)) (h : F_X6_canBeBuilt_3b v0 v1 v2 v3 (v4, M) = some x) (hK : (xKl W3 (fun o => o = (ro, mo))) x) (H : Heap) (locs : List Loc) (ls : Array Slot) (O : xO κ s M H locs) (hl : lv_has ls 5 [(0, .ref (κ.1 + v0)), (1, .ref (κ.1 + v1)), (2, .int v2), (3, .int v3), (4, .int v4)]) : W p l e (xRm 3 0 0) s m args below meth c H locs 0 0 (xQf below args s 0 0 κ (some (.int ro)) mo) (F0 m 3 ls []) := by
  unfold F_X6_canBeBuilt_3b at h
  dsimp only at h
  have hx := X.1
  have hb := X.2.1
  refine lv_iload hx hb dX6_canBeBuilt_3 (lv_at hl 4 rfl) ?_
  refine lv_aload_n hx hb dX6_canBeBuilt_5 rfl (lv_at hl 1 rfl) ?_
  obtain ⟨t1, ht1, h⟩ := Option.bind_eq_some_iff.mp h
  refine xr_getI X O ht1 fl_X6_15 (Or.inl rfl) dX6_canBeBuilt_6 ?_
  refine lv_icmp_ge (tgt := 54) hx hb dX6_canBeBuilt_9 (by decide) (fun hc9 => ?_) (fun hc9 => ?_)
  · rw [if_pos hc9] at h
    obtain ⟨_, hw0, ew0⟩ := Option.map_eq_some_iff.mp h
    rw [← ew0] at hK
    have h := hw0
    exact F_X6_canBeBuilt_54_ok X hr hlk  M _ h hK H locs ls O (lv_sub hl [] rfl)
  rw [if_neg hc9] at h
  refine lv_iload_n hx hb dX6_canBeBuilt_12 rfl (lv_at hl 2 rfl) ?_
  refine lv_iload hx hb dX6_canBeBuilt_13 (lv_at hl 4 rfl) ?_
  refine lv_ishr hx hb dX6_canBeBuilt_15 ?_
  refine lv_iconst (v := (1 : Int32)) hx hb dX6_canBeBuilt_16 (by decide) ?_
  refine lv_iand hx hb dX6_canBeBuilt_17 ?_
  refine lv_if_eq (tgt := 48) hx hb dX6_canBeBuilt_18 (by decide) (fun hc18 => ?_) (fun hc18 => ?_)
  · rw [if_pos hc18] at h
    exact F_X6_canBeBuilt_48_ok X hr hlk v0 v1 v2 v3 v4 hW3 M _ h hK H locs ls O (lv_sub hl [0, 1, 2, 3, 4] rfl)
  rw [if_neg hc18] at h
  refine lv_iload_n hx hb dX6_canBeBuilt_21 rfl (lv_at hl 3 rfl) ?_
  refine lv_aload_n hx hb dX6_canBeBuilt_22 rfl (lv_at hl 0 rfl) ?_
  refine lv_aload_n hx hb dX6_canBeBuilt_23 rfl (lv_at hl 1 rfl) ?_
  refine lv_iload_n hx hb dX6_canBeBuilt_24 rfl (lv_at hl 2 rfl) ?_
  refine lv_aload_n hx hb dX6_canBeBuilt_25 rfl (lv_at hl 0 rfl) ?_
  obtain ⟨t2, ht2, h⟩ := Option.bind_eq_some_iff.mp h
  refine xr_getP X O ht2 fl_X6_9 dX6_canBeBuilt_26 ?_
  refine lv_iload hx hb dX6_canBeBuilt_29 (lv_at hl 4 rfl) ?_
  obtain ⟨t3, ht3, h⟩ := Option.bind_eq_some_iff.mp h
  refine xr_aldI X O ht3 dX6_canBeBuilt_31 ?_
  obtain ⟨_, hut4, h⟩ := Option.bind_eq_some_iff.mp h
  obtain ⟨t5, ht5, h⟩ := Option.bind_eq_some_iff.mp h
  refine xr_callV (rest := [.int v3]) X O (T_X6_dueBy l κ v0 v1 v2 t3 M _ _ ht5) lk_X6_32 hut4 (Nat.le_of_ble_eq_true rfl) rfl hl.1 rfl (Nat.le_of_ble_eq_true rfl) dX6_canBeBuilt_32 ⟨Nat.le_of_ble_eq_true rfl, Nat.le_of_ble_eq_true rfl⟩ (fun H locs O => ?_)
  refine W.eq (g2 := F0 m 35 ls [.int t5.1, .int v3]) rfl ?_
  refine lv_iadd hx hb dX6_canBeBuilt_35 ?_
  refine lv_aload_n hx hb dX6_canBeBuilt_36 rfl (lv_at hl 0 rfl) ?_
  obtain ⟨t6, ht6, h⟩ := Option.bind_eq_some_iff.mp h
  refine xr_getP X O ht6 fl_X6_9 dX6_canBeBuilt_37 ?_
  refine lv_iload hx hb dX6_canBeBuilt_40 (lv_at hl 4 rfl) ?_
  obtain ⟨t7, ht7, h⟩ := Option.bind_eq_some_iff.mp h
  refine xr_aldI X O ht7 dX6_canBeBuilt_42 ?_
  refine lv_icmp_le (tgt := 48) hx hb dX6_canBeBuilt_43 (by decide) (fun hc43 => ?_) (fun hc43 => ?_)
  · rw [if_pos hc43] at h
    exact F_X6_canBeBuilt_48_ok X hr hlk v0 v1 v2 v3 v4 hW3 t5.2 _ h hK H locs ls O (lv_sub hl [0, 1, 2, 3, 4] rfl)
  rw [if_neg hc43] at h
  obtain ⟨_, hw0, ew0⟩ := Option.map_eq_some_iff.mp h
  rw [← ew0] at hK
  have h := hw0
  exact F_X6_canBeBuilt_46_ok X hr hlk  t5.2 _ h hK H locs ls O (lv_sub hl [] rfl)
set_option maxRecDepth 100000 in
set_option maxHeartbeats 4000000 in
theorem F_X6_canBeBuilt_3_ok (X : xX p s m args c cX6_canBeBuilt 5 RX6 κ) (hr : meth.sig.returnType = (some .boolean)) (hlk : meth.locks = false) {ro : Int32} {mo : xM} (v0 : Nat) (v1 : Nat) (v2 : Int32) (v3 : Int32) (v4 : Int32) (M : xM) (x : Int32 × xM) (h : F_X6_canBeBuilt_3 v0 v1 v2 v3 v4 M = some x) (hK : (fun o => o = (ro, mo)) x) (H : Heap) (locs : List Loc) (ls : Array Slot) (O : xO κ s M H locs) (hl : lv_has ls 5 [(0, .ref (κ.1 + v0)), (1, .ref (κ.1 + v1)), (2, .int v2), (3, .int v3), (4, .int v4)]) : W p l e (xRm 3 0 0) s m args below meth c H locs 0 0 (xQf below args s 0 0 κ (some (.int ro)) mo) (F0 m 3 ls []) := by
  refine xit_K (Wh := fun x => ∀ (H : Heap) (locs : List Loc) (ls : Array Slot), xO κ s x.2 H locs → lv_has ls 5 [(0, .ref (κ.1 + v0)), (1, .ref (κ.1 + v1)), (2, .int v2), (3, .int v3), (4, .int x.1)] → W p l e (xRm 3 0 0) s m args below meth c H locs 0 0 (xQf below args s 0 0 κ (some (.int ro)) mo) (F0 m 3 ls [])) (Kp := (fun o => o = (ro, mo))) ?_ xFU (v4, M) x h hK H locs ls O hl
  intro y x h hK H locs ls O hl
  exact F_X6_canBeBuilt_3_bok X hr hlk v0 v1 v2 v3 y.1 (fun _ _ hw => hw) y.2 x h hK H locs ls O hl
set_option maxRecDepth 100000 in
set_option maxHeartbeats 4000000 in
theorem T_X6_canBeBuilt (l : Launch) (κ : xQ) (a0 : Nat) (a1 : Nat) (a2 : Int32) (a3 : Int32) (M : xM) (ro : Int32) (mo : xM) (h : F_X6_canBeBuilt a0 a1 a2 a3 M = some (ro, mo)) : xC l yX6_canBeBuilt cX6_canBeBuilt 5 (some .boolean) 3 0 0 κ [.ref (κ.1 + a0), .ref (κ.1 + a1), .int a2, .int a3] M (some (.int ro)) mo := by
  refine xC_of rfl (Nat.le_of_ble_eq_true rfl) fun p e s m args below meth c X hr hlk hnm H locs ls O hl => ?_
  have X : xX p s m args c cX6_canBeBuilt 5 RX6 κ := X
  have hl : lv_has ls 5 [(0, .ref (κ.1 + a0)), (1, .ref (κ.1 + a1)), (2, .int a2), (3, .int a3)] := hl
  have hx := X.1
  have hb := X.2.1
  obtain ⟨x, hx0⟩ : ∃ x, (ro, mo) = x := ⟨_, rfl⟩
  rw [hx0] at h
  have hK : x = (ro, mo) := hx0.symm
  unfold F_X6_canBeBuilt at h
  refine lv_iconst (v := (0 : Int32)) hx hb dX6_canBeBuilt_0 (by decide) ?_
  refine lv_istore (lv' := [(4, .int (0 : Int32)), (0, .ref (κ.1 + a0)), (1, .ref (κ.1 + a1)), (2, .int a2), (3, .int a3)]) hx hb dX6_canBeBuilt_1 hl (by decide) rfl (fun ls hl => ?_)
  exact F_X6_canBeBuilt_3_ok X hr hlk a0 a1 a2 a3 (0 : Int32) M _ h hK H locs ls O (lv_sub hl [1, 2, 3, 4, 0] rfl)
def F_X6_bestSet_49 (v0 : Nat) (v1 : Nat) (v2 : Int32) (v3 : Int32) (v4 : Int32) (M : xM) : Option ((Int32 × Int32 × Int32 × xM) ⊕ (Int32 × xM)) :=
some (.inl (v2, v3, (v4 + 1), M))
def F_X6_bestSet_55 (v2 : Int32) (M : xM) : Option (Int32 × xM) :=
some (v2, M)
def F_X6_bestSet_7b (v0 : Nat) (v1 : Nat) : (Int32 × Int32 × Int32 × xM) → Option ((Int32 × Int32 × Int32 × xM) ⊕ (Int32 × xM)) := fun ⟨v2, v3, v4, M⟩ =>
(xgI M v1 3 5).bind fun t1 =>
if ((1 : Int32) <<< (t1 &&& 31)) ≤ v4 then (
(F_X6_bestSet_55 v2 M).map Sum.inr)
else (
(F_X6_worthOf v1 v4 M).bind fun t2 =>
if t2.1 ≤ v3 then (
F_X6_bestSet_49 v0 v1 v2 v3 v4 t2.2)
else (
(xck t2.2 v0 6).bind fun _ =>
(F_X6_canBeBuilt v0 v1 v4 (0 : Int32) t2.2).bind fun t4 =>
if t4.1 = 0 then (
F_X6_bestSet_49 v0 v1 v2 v3 v4 t4.2)
else (
F_X6_bestSet_49 v0 v1 v4 t2.1 v4 t4.2)))
def F_X6_bestSet_7 (v0 : Nat) (v1 : Nat) (v2 : Int32) (v3 : Int32) (v4 : Int32) (M : xM) : Option (Int32 × xM) := xit (F_X6_bestSet_7b v0 v1) xFU (v2, v3, v4, M)
def F_X6_bestSet (a0 : Nat) (a1 : Nat) (M : xM) : Option (Int32 × xM) :=
F_X6_bestSet_7 a0 a1 (0 : Int32) (0 : Int32) (1 : Int32) M
set_option maxRecDepth 100000 in
set_option maxHeartbeats 4000000 in
theorem F_X6_bestSet_49_ok (X : xX p s m args c cX6_bestSet 6 RX6 κ) (hr : meth.sig.returnType = (some .int)) (hlk : meth.locks = false) {ro : Int32} {mo : xM} (v0 : Nat) (v1 : Nat) (v2 : Int32) (v3 : Int32) (v4 : Int32) {W7 : Int32 × Int32 × Int32 × xM → Prop} (hW7 : ∀ (v2 : Int32) (v3 : Int32) (v4 : Int32) (M : xM), W7 (v2, v3, v4, M) → ∀ (H : Heap) (locs : List Loc) (ls : Array Slot), xO κ s M H locs → lv_has ls 6 [(0, .ref (κ.1 + v0)), (1, .ref (κ.1 + v1)), (2, .int v2), (3, .int v3), (4, .int v4)] → W p l e (xRm 4 0 0) s m args below meth c H locs 0 0 (xQf below args s 0 0 κ (some (.int ro)) mo) (F0 m 7 ls [])) (M : xM) (x : (Int32 × Int32 × Int32 × xM) ⊕ (Int32 × xM)) (h : F_X6_bestSet_49 v0 v1 v2 v3 v4 M = some x) (hK : (xKl W7 (fun o => o = (ro, mo))) x) (H : Heap) (locs : List Loc) (ls : Array Slot) (O : xO κ s M H locs) (hl : lv_has ls 6 [(0, .ref (κ.1 + v0)), (1, .ref (κ.1 + v1)), (2, .int v2), (3, .int v3), (4, .int v4)]) : W p l e (xRm 4 0 0) s m args below meth c H locs 0 0 (xQf below args s 0 0 κ (some (.int ro)) mo) (F0 m 49 ls []) := by
  unfold F_X6_bestSet_49 at h
  have hx := X.1
  have hb := X.2.1
  refine lv_iinc (v := (v4 + 1)) (lv' := [(4, .int (v4 + 1)), (0, .ref (κ.1 + v0)), (1, .ref (κ.1 + v1)), (2, .int v2), (3, .int v3)]) hx hb dX6_bestSet_49 hl (k := 4) rfl rfl (by decide) rfl (fun ls hl => ?_)
  refine lv_goto (tgt := 7) hx hb dX6_bestSet_52 (by decide) ?_
  rw [← Option.some.inj h] at hK
  exact hW7 v2 v3 (v4 + 1) M hK H locs ls O (lv_sub hl [1, 2, 3, 4, 0] rfl)
set_option maxRecDepth 100000 in
set_option maxHeartbeats 4000000 in
theorem F_X6_bestSet_55_ok (X : xX p s m args c cX6_bestSet 6 RX6 κ) (hr : meth.sig.returnType = (some .int)) (hlk : meth.locks = false) {ro : Int32} {mo : xM} (v2 : Int32) (M : xM) (x : Int32 × xM) (h : F_X6_bestSet_55 v2 M = some x) (hK : (fun o => o = (ro, mo)) x) (H : Heap) (locs : List Loc) (ls : Array Slot) (O : xO κ s M H locs) (hl : lv_has ls 6 [(2, .int v2)]) : W p l e (xRm 4 0 0) s m args below meth c H locs 0 0 (xQf below args s 0 0 κ (some (.int ro)) mo) (F0 m 55 ls []) := by
  unfold F_X6_bestSet_55 at h
  have hx := X.1
  have hb := X.2.1
  refine lv_iload_n hx hb dX6_bestSet_55 rfl (lv_at hl 0 rfl) ?_
  rw [← Option.some.inj h] at hK
  have hK : (v2, M) = (ro, mo) := hK
  obtain ⟨hK1, hK2⟩ := Prod.mk.inj hK
  rw [hK2] at O
  refine xr_top (w := .int ro) (by rw [hK1]) ?_
  exact xr_iret X hr hlk O dX6_bestSet_56
set_option maxRecDepth 100000 in
set_option maxHeartbeats 4000000 in
theorem F_X6_bestSet_7_bok (X : xX p s m args c cX6_bestSet 6 RX6 κ) (hr : meth.sig.returnType = (some .int)) (hlk : meth.locks = false) {ro : Int32} {mo : xM} (v0 : Nat) (v1 : Nat) (v2 : Int32) (v3 : Int32) (v4 : Int32) {W7 : Int32 × Int32 × Int32 × xM → Prop} (hW7 : ∀ (v2 : Int32) (v3 : Int32) (v4 : Int32) (M : xM), W7 (v2, v3, v4, M) → ∀ (H : Heap) (locs : List Loc) (ls : Array Slot), xO κ s M H locs → lv_has ls 6 [(0, .ref (κ.1 + v0)), (1, .ref (κ.1 + v1)), (2, .int v2), (3, .int v3), (4, .int v4)] → W p l e (xRm 4 0 0) s m args below meth c H locs 0 0 (xQf below args s 0 0 κ (some (.int ro)) mo) (F0 m 7 ls [])) (M : xM) (x : (Int32 × Int32 × Int32 × xM) ⊕ (Int32 × xM)) (h : F_X6_bestSet_7b v0 v1 (v2, v3, v4, M) = some x) (hK : (xKl W7 (fun o => o = (ro, mo))) x) (H : Heap) (locs : List Loc) (ls : Array Slot) (O : xO κ s M H locs) (hl : lv_has ls 6 [(0, .ref (κ.1 + v0)), (1, .ref (κ.1 + v1)), (2, .int v2), (3, .int v3), (4, .int v4)]) : W p l e (xRm 4 0 0) s m args below meth c H locs 0 0 (xQf below args s 0 0 κ (some (.int ro)) mo) (F0 m 7 ls []) := by
  unfold F_X6_bestSet_7b at h
  dsimp only at h
  have hx := X.1
  have hb := X.2.1
  refine lv_iload hx hb dX6_bestSet_7 (lv_at hl 4 rfl) ?_
  refine lv_iconst (v := (1 : Int32)) hx hb dX6_bestSet_9 (by decide) ?_
  refine lv_aload_n hx hb dX6_bestSet_10 rfl (lv_at hl 1 rfl) ?_
  obtain ⟨t1, ht1, h⟩ := Option.bind_eq_some_iff.mp h
  refine xr_getI X O ht1 fl_X6_15 (Or.inl rfl) dX6_bestSet_11 ?_
  refine lv_ishl hx hb dX6_bestSet_14 ?_
  refine lv_icmp_ge (tgt := 55) hx hb dX6_bestSet_15 (by decide) (fun hc15 => ?_) (fun hc15 => ?_)
  · rw [if_pos hc15] at h
    obtain ⟨_, hw0, ew0⟩ := Option.map_eq_some_iff.mp h
    rw [← ew0] at hK
    have h := hw0
    exact F_X6_bestSet_55_ok X hr hlk v2 M _ h hK H locs ls O (lv_sub hl [2] rfl)
  rw [if_neg hc15] at h
  refine lv_aload_n hx hb dX6_bestSet_18 rfl (lv_at hl 1 rfl) ?_
  refine lv_iload hx hb dX6_bestSet_19 (lv_at hl 4 rfl) ?_
  obtain ⟨t2, ht2, h⟩ := Option.bind_eq_some_iff.mp h
  refine xr_callS (rest := []) X O (T_X6_worthOf l κ v1 v4 M _ _ ht2) lk_X6_21 (Nat.le_of_ble_eq_true rfl) rfl hl.1 rfl (Nat.le_of_ble_eq_true rfl) dX6_bestSet_21 ⟨Nat.le_of_ble_eq_true rfl, Nat.le_of_ble_eq_true rfl⟩ (fun H locs O => ?_)
  refine W.eq (g2 := F0 m 24 ls [.int t2.1]) rfl ?_
  refine lv_istore (lv' := [(5, .int t2.1), (0, .ref (κ.1 + v0)), (1, .ref (κ.1 + v1)), (2, .int v2), (3, .int v3), (4, .int v4)]) hx hb dX6_bestSet_24 hl (by decide) rfl (fun ls hl => ?_)
  refine lv_iload hx hb dX6_bestSet_26 (lv_at hl 0 rfl) ?_
  refine lv_iload_n hx hb dX6_bestSet_28 rfl (lv_at hl 4 rfl) ?_
  refine lv_icmp_le (tgt := 49) hx hb dX6_bestSet_29 (by decide) (fun hc29 => ?_) (fun hc29 => ?_)
  · rw [if_pos hc29] at h
    exact F_X6_bestSet_49_ok X hr hlk v0 v1 v2 v3 v4 hW7 t2.2 _ h hK H locs ls O (lv_sub hl [1, 2, 3, 4, 5] rfl)
  rw [if_neg hc29] at h
  refine lv_aload_n hx hb dX6_bestSet_32 rfl (lv_at hl 1 rfl) ?_
  refine lv_aload_n hx hb dX6_bestSet_33 rfl (lv_at hl 2 rfl) ?_
  refine lv_iload hx hb dX6_bestSet_34 (lv_at hl 5 rfl) ?_
  refine lv_iconst (v := (0 : Int32)) hx hb dX6_bestSet_36 (by decide) ?_
  obtain ⟨_, hut3, h⟩ := Option.bind_eq_some_iff.mp h
  obtain ⟨t4, ht4, h⟩ := Option.bind_eq_some_iff.mp h
  refine xr_callV (rest := []) X O (T_X6_canBeBuilt l κ v0 v1 v4 (0 : Int32) t2.2 _ _ ht4) lk_X6_25 hut3 (Nat.le_of_ble_eq_true rfl) rfl hl.1 rfl (Nat.le_of_ble_eq_true rfl) dX6_bestSet_37 ⟨Nat.le_of_ble_eq_true rfl, Nat.le_of_ble_eq_true rfl⟩ (fun H locs O => ?_)
  refine W.eq (g2 := F0 m 40 ls [.int t4.1]) rfl ?_
  refine lv_if_eq (tgt := 49) hx hb dX6_bestSet_40 (by decide) (fun hc40 => ?_) (fun hc40 => ?_)
  · rw [if_pos hc40] at h
    exact F_X6_bestSet_49_ok X hr hlk v0 v1 v2 v3 v4 hW7 t4.2 _ h hK H locs ls O (lv_sub hl [1, 2, 3, 4, 5] rfl)
  rw [if_neg hc40] at h
  refine lv_iload hx hb dX6_bestSet_43 (lv_at hl 5 rfl) ?_
  refine lv_istore_n (lv' := [(2, .int v4), (5, .int t2.1), (0, .ref (κ.1 + v0)), (1, .ref (κ.1 + v1)), (3, .int v3), (4, .int v4)]) hx hb dX6_bestSet_45 rfl hl (by decide) rfl (fun ls hl => ?_)
  refine lv_iload hx hb dX6_bestSet_46 (lv_at hl 1 rfl) ?_
  refine lv_istore_n (lv' := [(3, .int t2.1), (2, .int v4), (5, .int t2.1), (0, .ref (κ.1 + v0)), (1, .ref (κ.1 + v1)), (4, .int v4)]) hx hb dX6_bestSet_48 rfl hl (by decide) rfl (fun ls hl => ?_)
  exact F_X6_bestSet_49_ok X hr hlk v0 v1 v4 t2.1 v4 hW7 t4.2 _ h hK H locs ls O (lv_sub hl [3, 4, 1, 0, 5] rfl)
set_option maxRecDepth 100000 in
set_option maxHeartbeats 4000000 in
theorem F_X6_bestSet_7_ok (X : xX p s m args c cX6_bestSet 6 RX6 κ) (hr : meth.sig.returnType = (some .int)) (hlk : meth.locks = false) {ro : Int32} {mo : xM} (v0 : Nat) (v1 : Nat) (v2 : Int32) (v3 : Int32) (v4 : Int32) (M : xM) (x : Int32 × xM) (h : F_X6_bestSet_7 v0 v1 v2 v3 v4 M = some x) (hK : (fun o => o = (ro, mo)) x) (H : Heap) (locs : List Loc) (ls : Array Slot) (O : xO κ s M H locs) (hl : lv_has ls 6 [(0, .ref (κ.1 + v0)), (1, .ref (κ.1 + v1)), (2, .int v2), (3, .int v3), (4, .int v4)]) : W p l e (xRm 4 0 0) s m args below meth c H locs 0 0 (xQf below args s 0 0 κ (some (.int ro)) mo) (F0 m 7 ls []) := by
  refine xit_K (Wh := fun x => ∀ (H : Heap) (locs : List Loc) (ls : Array Slot), xO κ s x.2.2.2 H locs → lv_has ls 6 [(0, .ref (κ.1 + v0)), (1, .ref (κ.1 + v1)), (2, .int x.1), (3, .int x.2.1), (4, .int x.2.2.1)] → W p l e (xRm 4 0 0) s m args below meth c H locs 0 0 (xQf below args s 0 0 κ (some (.int ro)) mo) (F0 m 7 ls [])) (Kp := (fun o => o = (ro, mo))) ?_ xFU (v2, v3, v4, M) x h hK H locs ls O hl
  intro y x h hK H locs ls O hl
  exact F_X6_bestSet_7_bok X hr hlk v0 v1 y.1 y.2.1 y.2.2.1 (fun _ _ _ _ hw => hw) y.2.2.2 x h hK H locs ls O hl
set_option maxRecDepth 100000 in
set_option maxHeartbeats 4000000 in
theorem T_X6_bestSet (l : Launch) (κ : xQ) (a0 : Nat) (a1 : Nat) (M : xM) (ro : Int32) (mo : xM) (h : F_X6_bestSet a0 a1 M = some (ro, mo)) : xC l yX6_bestSet cX6_bestSet 6 (some .int) 4 0 0 κ [.ref (κ.1 + a0), .ref (κ.1 + a1)] M (some (.int ro)) mo := by
  refine xC_of rfl (Nat.le_of_ble_eq_true rfl) fun p e s m args below meth c X hr hlk hnm H locs ls O hl => ?_
  have X : xX p s m args c cX6_bestSet 6 RX6 κ := X
  have hl : lv_has ls 6 [(0, .ref (κ.1 + a0)), (1, .ref (κ.1 + a1))] := hl
  have hx := X.1
  have hb := X.2.1
  obtain ⟨x, hx0⟩ : ∃ x, (ro, mo) = x := ⟨_, rfl⟩
  rw [hx0] at h
  have hK : x = (ro, mo) := hx0.symm
  unfold F_X6_bestSet at h
  refine lv_iconst (v := (0 : Int32)) hx hb dX6_bestSet_0 (by decide) ?_
  refine lv_istore_n (lv' := [(2, .int (0 : Int32)), (0, .ref (κ.1 + a0)), (1, .ref (κ.1 + a1))]) hx hb dX6_bestSet_1 rfl hl (by decide) rfl (fun ls hl => ?_)
  refine lv_iconst (v := (0 : Int32)) hx hb dX6_bestSet_2 (by decide) ?_
  refine lv_istore_n (lv' := [(3, .int (0 : Int32)), (2, .int (0 : Int32)), (0, .ref (κ.1 + a0)), (1, .ref (κ.1 + a1))]) hx hb dX6_bestSet_3 rfl hl (by decide) rfl (fun ls hl => ?_)
  refine lv_iconst (v := (1 : Int32)) hx hb dX6_bestSet_4 (by decide) ?_
  refine lv_istore (lv' := [(4, .int (1 : Int32)), (3, .int (0 : Int32)), (2, .int (0 : Int32)), (0, .ref (κ.1 + a0)), (1, .ref (κ.1 + a1))]) hx hb dX6_bestSet_5 hl (by decide) rfl (fun ls hl => ?_)
  exact F_X6_bestSet_7_ok X hr hlk a0 a1 (0 : Int32) (0 : Int32) (1 : Int32) M _ h hK H locs ls O (lv_sub hl [3, 4, 2, 1, 0] rfl)
def F_X6_nextOf_62 (v4 : Int32) (M : xM) : Option (Int32 × xM) :=
some (v4, M)
def F_X6_nextOf_65 (v0 : Nat) (v1 : Nat) (v2 : Int32) (v3 : Int32) (v4 : Int32) (M : xM) : Option ((Int32 × xM) ⊕ (Int32 × xM)) :=
some (.inl ((v4 + 1), M))
def F_X6_nextOf_71 (M : xM) : Option (Int32 × xM) :=
some ((-1 : Int32), M)
def F_X6_nextOf_3b (v0 : Nat) (v1 : Nat) (v2 : Int32) (v3 : Int32) : (Int32 × xM) → Option ((Int32 × xM) ⊕ (Int32 × xM)) := fun ⟨v4, M⟩ =>
(xgI M v1 3 5).bind fun t1 =>
if t1 ≤ v4 then (
(F_X6_nextOf_71 M).map Sum.inr)
else (
(xgP M v1 3 13).bind fun t2 =>
(xaI M 20 t2 v4).bind fun t3 =>
(some ((v3 + t3))).bind fun t4 =>
if ((v2 >>> (v4 &&& 31)) &&& (1 : Int32)) = 0 then (
F_X6_nextOf_65 v0 v1 v2 v3 v4 M)
else (
(xgP M v0 6 0).bind fun t5 =>
(xaI M 20 t5 v4).bind fun t6 =>
if t6 < t4 then (
F_X6_nextOf_65 v0 v1 v2 v3 v4 M)
else (
(xck M v0 6).bind fun _ =>
(F_X6_canBeBuilt v0 v1 (v2 &&& (((1 : Int32) <<< (v4 &&& 31)) ^^^ (-1 : Int32))) t4 M).bind fun t8 =>
if t8.1 = 0 then (
F_X6_nextOf_65 v0 v1 v2 v3 v4 t8.2)
else (
(F_X6_nextOf_62 v4 t8.2).map Sum.inr))))
def F_X6_nextOf_3 (v0 : Nat) (v1 : Nat) (v2 : Int32) (v3 : Int32) (v4 : Int32) (M : xM) : Option (Int32 × xM) := xit (F_X6_nextOf_3b v0 v1 v2 v3) xFU (v4, M)
def F_X6_nextOf (a0 : Nat) (a1 : Nat) (a2 : Int32) (a3 : Int32) (M : xM) : Option (Int32 × xM) :=
F_X6_nextOf_3 a0 a1 a2 a3 (0 : Int32) M
set_option maxRecDepth 100000 in
set_option maxHeartbeats 4000000 in
theorem F_X6_nextOf_62_ok (X : xX p s m args c cX6_nextOf 6 RX6 κ) (hr : meth.sig.returnType = (some .int)) (hlk : meth.locks = false) {ro : Int32} {mo : xM} (v4 : Int32) (M : xM) (x : Int32 × xM) (h : F_X6_nextOf_62 v4 M = some x) (hK : (fun o => o = (ro, mo)) x) (H : Heap) (locs : List Loc) (ls : Array Slot) (O : xO κ s M H locs) (hl : lv_has ls 6 [(4, .int v4)]) : W p l e (xRm 4 0 0) s m args below meth c H locs 0 0 (xQf below args s 0 0 κ (some (.int ro)) mo) (F0 m 62 ls []) := by
  unfold F_X6_nextOf_62 at h
  have hx := X.1
  have hb := X.2.1
  refine lv_iload hx hb dX6_nextOf_62 (lv_at hl 0 rfl) ?_
  rw [← Option.some.inj h] at hK
  have hK : (v4, M) = (ro, mo) := hK
  obtain ⟨hK1, hK2⟩ := Prod.mk.inj hK
  rw [hK2] at O
  refine xr_top (w := .int ro) (by rw [hK1]) ?_
  exact xr_iret X hr hlk O dX6_nextOf_64
set_option maxRecDepth 100000 in
set_option maxHeartbeats 4000000 in
theorem F_X6_nextOf_65_ok (X : xX p s m args c cX6_nextOf 6 RX6 κ) (hr : meth.sig.returnType = (some .int)) (hlk : meth.locks = false) {ro : Int32} {mo : xM} (v0 : Nat) (v1 : Nat) (v2 : Int32) (v3 : Int32) (v4 : Int32) {W3 : Int32 × xM → Prop} (hW3 : ∀ (v4 : Int32) (M : xM), W3 (v4, M) → ∀ (H : Heap) (locs : List Loc) (ls : Array Slot), xO κ s M H locs → lv_has ls 6 [(0, .ref (κ.1 + v0)), (1, .ref (κ.1 + v1)), (2, .int v2), (3, .int v3), (4, .int v4)] → W p l e (xRm 4 0 0) s m args below meth c H locs 0 0 (xQf below args s 0 0 κ (some (.int ro)) mo) (F0 m 3 ls [])) (M : xM) (x : (Int32 × xM) ⊕ (Int32 × xM)) (h : F_X6_nextOf_65 v0 v1 v2 v3 v4 M = some x) (hK : (xKl W3 (fun o => o = (ro, mo))) x) (H : Heap) (locs : List Loc) (ls : Array Slot) (O : xO κ s M H locs) (hl : lv_has ls 6 [(0, .ref (κ.1 + v0)), (1, .ref (κ.1 + v1)), (2, .int v2), (3, .int v3), (4, .int v4)]) : W p l e (xRm 4 0 0) s m args below meth c H locs 0 0 (xQf below args s 0 0 κ (some (.int ro)) mo) (F0 m 65 ls []) := by
  unfold F_X6_nextOf_65 at h
  have hx := X.1
  have hb := X.2.1
  refine lv_iinc (v := (v4 + 1)) (lv' := [(4, .int (v4 + 1)), (0, .ref (κ.1 + v0)), (1, .ref (κ.1 + v1)), (2, .int v2), (3, .int v3)]) hx hb dX6_nextOf_65 hl (k := 4) rfl rfl (by decide) rfl (fun ls hl => ?_)
  refine lv_goto (tgt := 3) hx hb dX6_nextOf_68 (by decide) ?_
  rw [← Option.some.inj h] at hK
  exact hW3 (v4 + 1) M hK H locs ls O (lv_sub hl [1, 2, 3, 4, 0] rfl)
set_option maxRecDepth 100000 in
set_option maxHeartbeats 4000000 in
theorem F_X6_nextOf_71_ok (X : xX p s m args c cX6_nextOf 6 RX6 κ) (hr : meth.sig.returnType = (some .int)) (hlk : meth.locks = false) {ro : Int32} {mo : xM} (M : xM) (x : Int32 × xM) (h : F_X6_nextOf_71 M = some x) (hK : (fun o => o = (ro, mo)) x) (H : Heap) (locs : List Loc) (ls : Array Slot) (O : xO κ s M H locs) (hl : lv_has ls 6 []) : W p l e (xRm 4 0 0) s m args below meth c H locs 0 0 (xQf below args s 0 0 κ (some (.int ro)) mo) (F0 m 71 ls []) := by
  unfold F_X6_nextOf_71 at h
  have hx := X.1
  have hb := X.2.1
  refine lv_iconst (v := (-1 : Int32)) hx hb dX6_nextOf_71 (by decide) ?_
  rw [← Option.some.inj h] at hK
  have hK : ((-1 : Int32), M) = (ro, mo) := hK
  obtain ⟨hK1, hK2⟩ := Prod.mk.inj hK
  rw [hK2] at O
  refine xr_top (w := .int ro) (by rw [hK1]) ?_
  exact xr_iret X hr hlk O dX6_nextOf_72
set_option maxRecDepth 100000 in
set_option maxHeartbeats 4000000 in
theorem F_X6_nextOf_3_bok (X : xX p s m args c cX6_nextOf 6 RX6 κ) (hr : meth.sig.returnType = (some .int)) (hlk : meth.locks = false) {ro : Int32} {mo : xM} (v0 : Nat) (v1 : Nat) (v2 : Int32) (v3 : Int32) (v4 : Int32) {W3 : Int32 × xM → Prop} (hW3 : ∀ (v4 : Int32) (M : xM), W3 (v4, M) → ∀ (H : Heap) (locs : List Loc) (ls : Array Slot), xO κ s M H locs → lv_has ls 6 [(0, .ref (κ.1 + v0)), (1, .ref (κ.1 + v1)), (2, .int v2), (3, .int v3), (4, .int v4)] → W p l e (xRm 4 0 0) s m args below meth c H locs 0 0 (xQf below args s 0 0 κ (some (.int ro)) mo) (F0 m 3 ls [])) (M : xM) (x : (Int32 × xM) ⊕ (Int32 × xM)) (h : F_X6_nextOf_3b v0 v1 v2 v3 (v4, M) = some x) (hK : (xKl W3 (fun o => o = (ro, mo))) x) (H : Heap) (locs : List Loc) (ls : Array Slot) (O : xO κ s M H locs) (hl : lv_has ls 6 [(0, .ref (κ.1 + v0)), (1, .ref (κ.1 + v1)), (2, .int v2), (3, .int v3), (4, .int v4)]) : W p l e (xRm 4 0 0) s m args below meth c H locs 0 0 (xQf below args s 0 0 κ (some (.int ro)) mo) (F0 m 3 ls []) := by
  unfold F_X6_nextOf_3b at h
  dsimp only at h
  have hx := X.1
  have hb := X.2.1
  refine lv_iload hx hb dX6_nextOf_3 (lv_at hl 4 rfl) ?_
  refine lv_aload_n hx hb dX6_nextOf_5 rfl (lv_at hl 1 rfl) ?_
  obtain ⟨t1, ht1, h⟩ := Option.bind_eq_some_iff.mp h
  refine xr_getI X O ht1 fl_X6_15 (Or.inl rfl) dX6_nextOf_6 ?_
  refine lv_icmp_ge (tgt := 71) hx hb dX6_nextOf_9 (by decide) (fun hc9 => ?_) (fun hc9 => ?_)
  · rw [if_pos hc9] at h
    obtain ⟨_, hw0, ew0⟩ := Option.map_eq_some_iff.mp h
    rw [← ew0] at hK
    have h := hw0
    exact F_X6_nextOf_71_ok X hr hlk  M _ h hK H locs ls O (lv_sub hl [] rfl)
  rw [if_neg hc9] at h
  refine lv_iload_n hx hb dX6_nextOf_12 rfl (lv_at hl 3 rfl) ?_
  refine lv_aload_n hx hb dX6_nextOf_13 rfl (lv_at hl 1 rfl) ?_
  obtain ⟨t2, ht2, h⟩ := Option.bind_eq_some_iff.mp h
  refine xr_getP X O ht2 fl_X6_36 dX6_nextOf_14 ?_
  refine lv_iload hx hb dX6_nextOf_17 (lv_at hl 4 rfl) ?_
  obtain ⟨t3, ht3, h⟩ := Option.bind_eq_some_iff.mp h
  refine xr_aldI X O ht3 dX6_nextOf_19 ?_
  refine lv_iadd hx hb dX6_nextOf_20 ?_
  obtain ⟨t4, ht4, h⟩ := Option.bind_eq_some_iff.mp h
  refine xr_top (w := .int t4) (by rw [Option.some.inj ht4]) ?_
  refine lv_istore (lv' := [(5, .int t4), (0, .ref (κ.1 + v0)), (1, .ref (κ.1 + v1)), (2, .int v2), (3, .int v3), (4, .int v4)]) hx hb dX6_nextOf_21 hl (by decide) rfl (fun ls hl => ?_)
  refine lv_iload_n hx hb dX6_nextOf_23 rfl (lv_at hl 3 rfl) ?_
  refine lv_iload hx hb dX6_nextOf_24 (lv_at hl 5 rfl) ?_
  refine lv_ishr hx hb dX6_nextOf_26 ?_
  refine lv_iconst (v := (1 : Int32)) hx hb dX6_nextOf_27 (by decide) ?_
  refine lv_iand hx hb dX6_nextOf_28 ?_
  refine lv_if_eq (tgt := 65) hx hb dX6_nextOf_29 (by decide) (fun hc29 => ?_) (fun hc29 => ?_)
  · rw [if_pos hc29] at h
    exact F_X6_nextOf_65_ok X hr hlk v0 v1 v2 v3 v4 hW3 M _ h hK H locs ls O (lv_sub hl [1, 2, 3, 4, 5] rfl)
  rw [if_neg hc29] at h
  refine lv_iload hx hb dX6_nextOf_32 (lv_at hl 0 rfl) ?_
  refine lv_aload_n hx hb dX6_nextOf_34 rfl (lv_at hl 1 rfl) ?_
  obtain ⟨t5, ht5, h⟩ := Option.bind_eq_some_iff.mp h
  refine xr_getP X O ht5 fl_X6_9 dX6_nextOf_35 ?_
  refine lv_iload hx hb dX6_nextOf_38 (lv_at hl 5 rfl) ?_
  obtain ⟨t6, ht6, h⟩ := Option.bind_eq_some_iff.mp h
  refine xr_aldI X O ht6 dX6_nextOf_40 ?_
  refine lv_icmp_gt (tgt := 65) hx hb dX6_nextOf_41 (by decide) (fun hc41 => ?_) (fun hc41 => ?_)
  · rw [if_pos hc41] at h
    exact F_X6_nextOf_65_ok X hr hlk v0 v1 v2 v3 v4 hW3 M _ h hK H locs ls O (lv_sub hl [1, 2, 3, 4, 5] rfl)
  rw [if_neg hc41] at h
  refine lv_aload_n hx hb dX6_nextOf_44 rfl (lv_at hl 1 rfl) ?_
  refine lv_aload_n hx hb dX6_nextOf_45 rfl (lv_at hl 2 rfl) ?_
  refine lv_iload_n hx hb dX6_nextOf_46 rfl (lv_at hl 3 rfl) ?_
  refine lv_iconst (v := (1 : Int32)) hx hb dX6_nextOf_47 (by decide) ?_
  refine lv_iload hx hb dX6_nextOf_48 (lv_at hl 5 rfl) ?_
  refine lv_ishl hx hb dX6_nextOf_50 ?_
  refine lv_iconst (v := (-1 : Int32)) hx hb dX6_nextOf_51 (by decide) ?_
  refine lv_ixor hx hb dX6_nextOf_52 ?_
  refine lv_iand hx hb dX6_nextOf_53 ?_
  refine lv_iload hx hb dX6_nextOf_54 (lv_at hl 0 rfl) ?_
  obtain ⟨_, hut7, h⟩ := Option.bind_eq_some_iff.mp h
  obtain ⟨t8, ht8, h⟩ := Option.bind_eq_some_iff.mp h
  refine xr_callV (rest := []) X O (T_X6_canBeBuilt l κ v0 v1 (v2 &&& (((1 : Int32) <<< (v4 &&& 31)) ^^^ (-1 : Int32))) t4 M _ _ ht8) lk_X6_25 hut7 (Nat.le_of_ble_eq_true rfl) rfl hl.1 rfl (Nat.le_of_ble_eq_true rfl) dX6_nextOf_56 ⟨Nat.le_of_ble_eq_true rfl, Nat.le_of_ble_eq_true rfl⟩ (fun H locs O => ?_)
  refine W.eq (g2 := F0 m 59 ls [.int t8.1]) rfl ?_
  refine lv_if_eq (tgt := 65) hx hb dX6_nextOf_59 (by decide) (fun hc59 => ?_) (fun hc59 => ?_)
  · rw [if_pos hc59] at h
    exact F_X6_nextOf_65_ok X hr hlk v0 v1 v2 v3 v4 hW3 t8.2 _ h hK H locs ls O (lv_sub hl [1, 2, 3, 4, 5] rfl)
  rw [if_neg hc59] at h
  obtain ⟨_, hw0, ew0⟩ := Option.map_eq_some_iff.mp h
  rw [← ew0] at hK
  have h := hw0
  exact F_X6_nextOf_62_ok X hr hlk v4 t8.2 _ h hK H locs ls O (lv_sub hl [5] rfl)
set_option maxRecDepth 100000 in
set_option maxHeartbeats 4000000 in
theorem F_X6_nextOf_3_ok (X : xX p s m args c cX6_nextOf 6 RX6 κ) (hr : meth.sig.returnType = (some .int)) (hlk : meth.locks = false) {ro : Int32} {mo : xM} (v0 : Nat) (v1 : Nat) (v2 : Int32) (v3 : Int32) (v4 : Int32) (M : xM) (x : Int32 × xM) (h : F_X6_nextOf_3 v0 v1 v2 v3 v4 M = some x) (hK : (fun o => o = (ro, mo)) x) (H : Heap) (locs : List Loc) (ls : Array Slot) (O : xO κ s M H locs) (hl : lv_has ls 6 [(0, .ref (κ.1 + v0)), (1, .ref (κ.1 + v1)), (2, .int v2), (3, .int v3), (4, .int v4)]) : W p l e (xRm 4 0 0) s m args below meth c H locs 0 0 (xQf below args s 0 0 κ (some (.int ro)) mo) (F0 m 3 ls []) := by
  refine xit_K (Wh := fun x => ∀ (H : Heap) (locs : List Loc) (ls : Array Slot), xO κ s x.2 H locs → lv_has ls 6 [(0, .ref (κ.1 + v0)), (1, .ref (κ.1 + v1)), (2, .int v2), (3, .int v3), (4, .int x.1)] → W p l e (xRm 4 0 0) s m args below meth c H locs 0 0 (xQf below args s 0 0 κ (some (.int ro)) mo) (F0 m 3 ls [])) (Kp := (fun o => o = (ro, mo))) ?_ xFU (v4, M) x h hK H locs ls O hl
  intro y x h hK H locs ls O hl
  exact F_X6_nextOf_3_bok X hr hlk v0 v1 v2 v3 y.1 (fun _ _ hw => hw) y.2 x h hK H locs ls O hl
set_option maxRecDepth 100000 in
set_option maxHeartbeats 4000000 in
theorem T_X6_nextOf (l : Launch) (κ : xQ) (a0 : Nat) (a1 : Nat) (a2 : Int32) (a3 : Int32) (M : xM) (ro : Int32) (mo : xM) (h : F_X6_nextOf a0 a1 a2 a3 M = some (ro, mo)) : xC l yX6_nextOf cX6_nextOf 6 (some .int) 4 0 0 κ [.ref (κ.1 + a0), .ref (κ.1 + a1), .int a2, .int a3] M (some (.int ro)) mo := by
  refine xC_of rfl (Nat.le_of_ble_eq_true rfl) fun p e s m args below meth c X hr hlk hnm H locs ls O hl => ?_
  have X : xX p s m args c cX6_nextOf 6 RX6 κ := X
  have hl : lv_has ls 6 [(0, .ref (κ.1 + a0)), (1, .ref (κ.1 + a1)), (2, .int a2), (3, .int a3)] := hl
  have hx := X.1
  have hb := X.2.1
  obtain ⟨x, hx0⟩ : ∃ x, (ro, mo) = x := ⟨_, rfl⟩
  rw [hx0] at h
  have hK : x = (ro, mo) := hx0.symm
  unfold F_X6_nextOf at h
  refine lv_iconst (v := (0 : Int32)) hx hb dX6_nextOf_0 (by decide) ?_
  refine lv_istore (lv' := [(4, .int (0 : Int32)), (0, .ref (κ.1 + a0)), (1, .ref (κ.1 + a1)), (2, .int a2), (3, .int a3)]) hx hb dX6_nextOf_1 hl (by decide) rfl (fun ls hl => ?_)
  exact F_X6_nextOf_3_ok X hr hlk a0 a1 a2 a3 (0 : Int32) M _ h hK H locs ls O (lv_sub hl [1, 2, 3, 4, 0] rfl)
def F_X6_inOrder_44 (v7 : Int32) (M : xM) : Option (Int32 × xM) :=
some (v7, M)
def F_X6_inOrder_76 (M : xM) : Option (Int32 × xM) :=
some ((-1 : Int32), M)
def F_X6_inOrder_9b (v0 : Nat) (v1 : Nat) (v3 : Int32) : (Int32 × Int32 × Int32 × xM) → Option ((Int32 × Int32 × Int32 × xM) ⊕ (Int32 × xM)) := fun ⟨v4, v5, v6, M⟩ =>
if (6 : Int32) ≤ v6 then (
(F_X6_inOrder_76 M).map Sum.inr)
else (
if v4 = 0 then (
(F_X6_inOrder_76 M).map Sum.inr)
else (
(xck M v0 6).bind fun _ =>
(F_X6_nextOf v0 v1 v4 v5 M).bind fun t2 =>
if t2.1 = (-1 : Int32) then (
(F_X6_inOrder_44 t2.1 t2.2).map Sum.inr)
else (
if v6 = v3 then (
(F_X6_inOrder_44 t2.1 t2.2).map Sum.inr)
else (
(xgP t2.2 v1 3 13).bind fun t3 =>
(xaI t2.2 20 t3 t2.1).bind fun t4 =>
(some ((v5 + t4))).bind fun t5 =>
(some ((v4 &&& (((1 : Int32) <<< (t2.1 &&& 31)) ^^^ (-1 : Int32))))).bind fun t6 =>
some (.inl (t6, t5, (v6 + 1), t2.2))))))
def F_X6_inOrder_9 (v0 : Nat) (v1 : Nat) (v3 : Int32) (v4 : Int32) (v5 : Int32) (v6 : Int32) (M : xM) : Option (Int32 × xM) := xit (F_X6_inOrder_9b v0 v1 v3) xFU (v4, v5, v6, M)
def F_X6_inOrder (a0 : Nat) (a1 : Nat) (a2 : Int32) (a3 : Int32) (M : xM) : Option (Int32 × xM) :=
F_X6_inOrder_9 a0 a1 a3 a2 (0 : Int32) (0 : Int32) M
set_option maxRecDepth 100000 in
set_option maxHeartbeats 4000000 in
theorem F_X6_inOrder_44_ok (X : xX p s m args c cX6_inOrder 8 RX6 κ) (hr : meth.sig.returnType = (some .int)) (hlk : meth.locks = false) {ro : Int32} {mo : xM} (v7 : Int32) (M : xM) (x : Int32 × xM) (h : F_X6_inOrder_44 v7 M = some x) (hK : (fun o => o = (ro, mo)) x) (H : Heap) (locs : List Loc) (ls : Array Slot) (O : xO κ s M H locs) (hl : lv_has ls 8 [(7, .int v7)]) : W p l e (xRm 5 0 0) s m args below meth c H locs 0 0 (xQf below args s 0 0 κ (some (.int ro)) mo) (F0 m 44 ls []) := by
  unfold F_X6_inOrder_44 at h
  have hx := X.1
  have hb := X.2.1
  refine lv_iload hx hb dX6_inOrder_44 (lv_at hl 0 rfl) ?_
  rw [← Option.some.inj h] at hK
  have hK : (v7, M) = (ro, mo) := hK
  obtain ⟨hK1, hK2⟩ := Prod.mk.inj hK
  rw [hK2] at O
  refine xr_top (w := .int ro) (by rw [hK1]) ?_
  exact xr_iret X hr hlk O dX6_inOrder_46
set_option maxRecDepth 100000 in
set_option maxHeartbeats 4000000 in
theorem F_X6_inOrder_76_ok (X : xX p s m args c cX6_inOrder 8 RX6 κ) (hr : meth.sig.returnType = (some .int)) (hlk : meth.locks = false) {ro : Int32} {mo : xM} (M : xM) (x : Int32 × xM) (h : F_X6_inOrder_76 M = some x) (hK : (fun o => o = (ro, mo)) x) (H : Heap) (locs : List Loc) (ls : Array Slot) (O : xO κ s M H locs) (hl : lv_has ls 8 []) : W p l e (xRm 5 0 0) s m args below meth c H locs 0 0 (xQf below args s 0 0 κ (some (.int ro)) mo) (F0 m 76 ls []) := by
  unfold F_X6_inOrder_76 at h
  have hx := X.1
  have hb := X.2.1
  refine lv_iconst (v := (-1 : Int32)) hx hb dX6_inOrder_76 (by decide) ?_
  rw [← Option.some.inj h] at hK
  have hK : ((-1 : Int32), M) = (ro, mo) := hK
  obtain ⟨hK1, hK2⟩ := Prod.mk.inj hK
  rw [hK2] at O
  refine xr_top (w := .int ro) (by rw [hK1]) ?_
  exact xr_iret X hr hlk O dX6_inOrder_77
set_option maxRecDepth 100000 in
set_option maxHeartbeats 4000000 in
theorem F_X6_inOrder_9_bok (X : xX p s m args c cX6_inOrder 8 RX6 κ) (hr : meth.sig.returnType = (some .int)) (hlk : meth.locks = false) {ro : Int32} {mo : xM} (v0 : Nat) (v1 : Nat) (v3 : Int32) (v4 : Int32) (v5 : Int32) (v6 : Int32) {W9 : Int32 × Int32 × Int32 × xM → Prop} (hW9 : ∀ (v4 : Int32) (v5 : Int32) (v6 : Int32) (M : xM), W9 (v4, v5, v6, M) → ∀ (H : Heap) (locs : List Loc) (ls : Array Slot), xO κ s M H locs → lv_has ls 8 [(0, .ref (κ.1 + v0)), (1, .ref (κ.1 + v1)), (3, .int v3), (4, .int v4), (5, .int v5), (6, .int v6)] → W p l e (xRm 5 0 0) s m args below meth c H locs 0 0 (xQf below args s 0 0 κ (some (.int ro)) mo) (F0 m 9 ls [])) (M : xM) (x : (Int32 × Int32 × Int32 × xM) ⊕ (Int32 × xM)) (h : F_X6_inOrder_9b v0 v1 v3 (v4, v5, v6, M) = some x) (hK : (xKl W9 (fun o => o = (ro, mo))) x) (H : Heap) (locs : List Loc) (ls : Array Slot) (O : xO κ s M H locs) (hl : lv_has ls 8 [(0, .ref (κ.1 + v0)), (1, .ref (κ.1 + v1)), (3, .int v3), (4, .int v4), (5, .int v5), (6, .int v6)]) : W p l e (xRm 5 0 0) s m args below meth c H locs 0 0 (xQf below args s 0 0 κ (some (.int ro)) mo) (F0 m 9 ls []) := by
  unfold F_X6_inOrder_9b at h
  dsimp only at h
  have hx := X.1
  have hb := X.2.1
  refine lv_iload hx hb dX6_inOrder_9 (lv_at hl 5 rfl) ?_
  refine lv_bipush (v := (6 : Int32)) hx hb dX6_inOrder_11 (by decide) ?_
  refine lv_icmp_ge (tgt := 76) hx hb dX6_inOrder_13 (by decide) (fun hc13 => ?_) (fun hc13 => ?_)
  · rw [if_pos hc13] at h
    obtain ⟨_, hw0, ew0⟩ := Option.map_eq_some_iff.mp h
    rw [← ew0] at hK
    have h := hw0
    exact F_X6_inOrder_76_ok X hr hlk  M _ h hK H locs ls O (lv_sub hl [] rfl)
  rw [if_neg hc13] at h
  refine lv_iload hx hb dX6_inOrder_16 (lv_at hl 3 rfl) ?_
  refine lv_if_eq (tgt := 76) hx hb dX6_inOrder_18 (by decide) (fun hc18 => ?_) (fun hc18 => ?_)
  · rw [if_pos hc18] at h
    obtain ⟨_, hw0, ew0⟩ := Option.map_eq_some_iff.mp h
    rw [← ew0] at hK
    have h := hw0
    exact F_X6_inOrder_76_ok X hr hlk  M _ h hK H locs ls O (lv_sub hl [] rfl)
  rw [if_neg hc18] at h
  refine lv_aload_n hx hb dX6_inOrder_21 rfl (lv_at hl 0 rfl) ?_
  refine lv_aload_n hx hb dX6_inOrder_22 rfl (lv_at hl 1 rfl) ?_
  refine lv_iload hx hb dX6_inOrder_23 (lv_at hl 3 rfl) ?_
  refine lv_iload hx hb dX6_inOrder_25 (lv_at hl 4 rfl) ?_
  obtain ⟨_, hut1, h⟩ := Option.bind_eq_some_iff.mp h
  obtain ⟨t2, ht2, h⟩ := Option.bind_eq_some_iff.mp h
  refine xr_callV (rest := []) X O (T_X6_nextOf l κ v0 v1 v4 v5 M _ _ ht2) lk_X6_39 hut1 (Nat.le_of_ble_eq_true rfl) rfl hl.1 rfl (Nat.le_of_ble_eq_true rfl) dX6_inOrder_27 ⟨Nat.le_of_ble_eq_true rfl, Nat.le_of_ble_eq_true rfl⟩ (fun H locs O => ?_)
  refine W.eq (g2 := F0 m 30 ls [.int t2.1]) rfl ?_
  refine lv_istore (lv' := [(7, .int t2.1), (0, .ref (κ.1 + v0)), (1, .ref (κ.1 + v1)), (3, .int v3), (4, .int v4), (5, .int v5), (6, .int v6)]) hx hb dX6_inOrder_30 hl (by decide) rfl (fun ls hl => ?_)
  refine lv_iload hx hb dX6_inOrder_32 (lv_at hl 0 rfl) ?_
  refine lv_iconst (v := (-1 : Int32)) hx hb dX6_inOrder_34 (by decide) ?_
  refine lv_icmp_eq (tgt := 44) hx hb dX6_inOrder_35 (by decide) (fun hc35 => ?_) (fun hc35 => ?_)
  · rw [if_pos hc35] at h
    obtain ⟨_, hw0, ew0⟩ := Option.map_eq_some_iff.mp h
    rw [← ew0] at hK
    have h := hw0
    exact F_X6_inOrder_44_ok X hr hlk t2.1 t2.2 _ h hK H locs ls O (lv_sub hl [0] rfl)
  rw [if_neg hc35] at h
  refine lv_iload hx hb dX6_inOrder_38 (lv_at hl 6 rfl) ?_
  refine lv_iload_n hx hb dX6_inOrder_40 rfl (lv_at hl 3 rfl) ?_
  refine lv_icmp_ne (tgt := 47) hx hb dX6_inOrder_41 (by decide) (fun hc41 => ?_) (fun hc41 => ?_)
  · rw [if_neg hc41] at h
    refine lv_iload hx hb dX6_inOrder_47 (lv_at hl 5 rfl) ?_
    refine lv_aload_n hx hb dX6_inOrder_49 rfl (lv_at hl 2 rfl) ?_
    obtain ⟨t3, ht3, h⟩ := Option.bind_eq_some_iff.mp h
    refine xr_getP X O ht3 fl_X6_36 dX6_inOrder_50 ?_
    refine lv_iload hx hb dX6_inOrder_53 (lv_at hl 0 rfl) ?_
    obtain ⟨t4, ht4, h⟩ := Option.bind_eq_some_iff.mp h
    refine xr_aldI X O ht4 dX6_inOrder_55 ?_
    refine lv_iadd hx hb dX6_inOrder_56 ?_
    obtain ⟨t5, ht5, h⟩ := Option.bind_eq_some_iff.mp h
    refine xr_top (w := .int t5) (by rw [Option.some.inj ht5]) ?_
    refine lv_istore (lv' := [(5, .int t5), (7, .int t2.1), (0, .ref (κ.1 + v0)), (1, .ref (κ.1 + v1)), (3, .int v3), (4, .int v4), (6, .int v6)]) hx hb dX6_inOrder_57 hl (by decide) rfl (fun ls hl => ?_)
    refine lv_iload hx hb dX6_inOrder_59 (lv_at hl 5 rfl) ?_
    refine lv_iconst (v := (1 : Int32)) hx hb dX6_inOrder_61 (by decide) ?_
    refine lv_iload hx hb dX6_inOrder_62 (lv_at hl 1 rfl) ?_
    refine lv_ishl hx hb dX6_inOrder_64 ?_
    refine lv_iconst (v := (-1 : Int32)) hx hb dX6_inOrder_65 (by decide) ?_
    refine lv_ixor hx hb dX6_inOrder_66 ?_
    refine lv_iand hx hb dX6_inOrder_67 ?_
    obtain ⟨t6, ht6, h⟩ := Option.bind_eq_some_iff.mp h
    refine xr_top (w := .int t6) (by rw [Option.some.inj ht6]) ?_
    refine lv_istore (lv' := [(4, .int t6), (5, .int t5), (7, .int t2.1), (0, .ref (κ.1 + v0)), (1, .ref (κ.1 + v1)), (3, .int v3), (6, .int v6)]) hx hb dX6_inOrder_68 hl (by decide) rfl (fun ls hl => ?_)
    refine lv_iinc (v := (v6 + 1)) (lv' := [(6, .int (v6 + 1)), (4, .int t6), (5, .int t5), (7, .int t2.1), (0, .ref (κ.1 + v0)), (1, .ref (κ.1 + v1)), (3, .int v3)]) hx hb dX6_inOrder_70 hl (k := 6) rfl rfl (by decide) rfl (fun ls hl => ?_)
    refine lv_goto (tgt := 9) hx hb dX6_inOrder_73 (by decide) ?_
    rw [← Option.some.inj h] at hK
    exact hW9 t6 t5 (v6 + 1) t2.2 hK H locs ls O (lv_sub hl [4, 5, 6, 1, 2, 0] rfl)
  rw [if_pos hc41] at h
  obtain ⟨_, hw0, ew0⟩ := Option.map_eq_some_iff.mp h
  rw [← ew0] at hK
  have h := hw0
  exact F_X6_inOrder_44_ok X hr hlk t2.1 t2.2 _ h hK H locs ls O (lv_sub hl [0] rfl)
set_option maxRecDepth 100000 in
set_option maxHeartbeats 4000000 in
theorem F_X6_inOrder_9_ok (X : xX p s m args c cX6_inOrder 8 RX6 κ) (hr : meth.sig.returnType = (some .int)) (hlk : meth.locks = false) {ro : Int32} {mo : xM} (v0 : Nat) (v1 : Nat) (v3 : Int32) (v4 : Int32) (v5 : Int32) (v6 : Int32) (M : xM) (x : Int32 × xM) (h : F_X6_inOrder_9 v0 v1 v3 v4 v5 v6 M = some x) (hK : (fun o => o = (ro, mo)) x) (H : Heap) (locs : List Loc) (ls : Array Slot) (O : xO κ s M H locs) (hl : lv_has ls 8 [(0, .ref (κ.1 + v0)), (1, .ref (κ.1 + v1)), (3, .int v3), (4, .int v4), (5, .int v5), (6, .int v6)]) : W p l e (xRm 5 0 0) s m args below meth c H locs 0 0 (xQf below args s 0 0 κ (some (.int ro)) mo) (F0 m 9 ls []) := by
  refine xit_K (Wh := fun x => ∀ (H : Heap) (locs : List Loc) (ls : Array Slot), xO κ s x.2.2.2 H locs → lv_has ls 8 [(0, .ref (κ.1 + v0)), (1, .ref (κ.1 + v1)), (3, .int v3), (4, .int x.1), (5, .int x.2.1), (6, .int x.2.2.1)] → W p l e (xRm 5 0 0) s m args below meth c H locs 0 0 (xQf below args s 0 0 κ (some (.int ro)) mo) (F0 m 9 ls [])) (Kp := (fun o => o = (ro, mo))) ?_ xFU (v4, v5, v6, M) x h hK H locs ls O hl
  intro y x h hK H locs ls O hl
  exact F_X6_inOrder_9_bok X hr hlk v0 v1 v3 y.1 y.2.1 y.2.2.1 (fun _ _ _ _ hw => hw) y.2.2.2 x h hK H locs ls O hl
set_option maxRecDepth 100000 in
set_option maxHeartbeats 4000000 in
theorem T_X6_inOrder (l : Launch) (κ : xQ) (a0 : Nat) (a1 : Nat) (a2 : Int32) (a3 : Int32) (M : xM) (ro : Int32) (mo : xM) (h : F_X6_inOrder a0 a1 a2 a3 M = some (ro, mo)) : xC l yX6_inOrder cX6_inOrder 8 (some .int) 5 0 0 κ [.ref (κ.1 + a0), .ref (κ.1 + a1), .int a2, .int a3] M (some (.int ro)) mo := by
  refine xC_of rfl (Nat.le_of_ble_eq_true rfl) fun p e s m args below meth c X hr hlk hnm H locs ls O hl => ?_
  have X : xX p s m args c cX6_inOrder 8 RX6 κ := X
  have hl : lv_has ls 8 [(0, .ref (κ.1 + a0)), (1, .ref (κ.1 + a1)), (2, .int a2), (3, .int a3)] := hl
  have hx := X.1
  have hb := X.2.1
  obtain ⟨x, hx0⟩ : ∃ x, (ro, mo) = x := ⟨_, rfl⟩
  rw [hx0] at h
  have hK : x = (ro, mo) := hx0.symm
  unfold F_X6_inOrder at h
  refine lv_iload_n hx hb dX6_inOrder_0 rfl (lv_at hl 2 rfl) ?_
  refine lv_istore (lv' := [(4, .int a2), (0, .ref (κ.1 + a0)), (1, .ref (κ.1 + a1)), (2, .int a2), (3, .int a3)]) hx hb dX6_inOrder_1 hl (by decide) rfl (fun ls hl => ?_)
  refine lv_iconst (v := (0 : Int32)) hx hb dX6_inOrder_3 (by decide) ?_
  refine lv_istore (lv' := [(5, .int (0 : Int32)), (4, .int a2), (0, .ref (κ.1 + a0)), (1, .ref (κ.1 + a1)), (2, .int a2), (3, .int a3)]) hx hb dX6_inOrder_4 hl (by decide) rfl (fun ls hl => ?_)
  refine lv_iconst (v := (0 : Int32)) hx hb dX6_inOrder_6 (by decide) ?_
  refine lv_istore (lv' := [(6, .int (0 : Int32)), (5, .int (0 : Int32)), (4, .int a2), (0, .ref (κ.1 + a0)), (1, .ref (κ.1 + a1)), (2, .int a2), (3, .int a3)]) hx hb dX6_inOrder_7 hl (by decide) rfl (fun ls hl => ?_)
  exact F_X6_inOrder_9_ok X hr hlk a0 a1 a3 a2 (0 : Int32) (0 : Int32) M _ h hK H locs ls O (lv_sub hl [3, 4, 6, 2, 1, 0] rfl)
def F_X7_init (a0 : Nat) (M : xM) : Option (xM) :=
(some (xnw M (21, 900))).bind fun t1 =>
(xpP t1 a0 7 4 M.1.length).bind fun t2 =>
(xpI t2 a0 7 3 (-1 : Int32)).bind fun t3 =>
(some (xnw t3 (3, 0))).bind fun t4 =>
(F_X3_init t3.1.length t4).bind fun t5 =>
(xpP t5 a0 7 0 t3.1.length).bind fun t6 =>
(some (xnw t6 (0, 0))).bind fun t7 =>
(F_X0_init t6.1.length t7).bind fun t8 =>
(xpP t8 a0 7 1 t6.1.length).bind fun t9 =>
some t9
set_option maxRecDepth 100000 in
set_option maxHeartbeats 4000000 in
theorem T_X7_init (l : Launch) (κ : xQ) (a0 : Nat) (M : xM) (mo : xM) (h : F_X7_init a0 M = some mo) : xC l yX7_init cX7_init 1 none 3 12 1891 κ [.ref (κ.1 + a0)] M none mo := by
  refine xC_of rfl (Nat.le_of_ble_eq_true rfl) fun p e s m args below meth c X hr hlk hnm H locs ls O hl => ?_
  have X : xX p s m args c cX7_init 1 RX7 κ := X
  have hl : lv_has ls 1 [(0, .ref (κ.1 + a0))] := hl
  have hx := X.1
  have hb := X.2.1
  obtain ⟨x, hx0⟩ : ∃ x, mo = x := ⟨_, rfl⟩
  rw [hx0] at h
  have hK : x = mo := hx0.symm
  unfold F_X7_init at h
  refine lv_aload_n hx hb dX7_init_0 rfl (lv_at hl 0 rfl) ?_
  refine xr_objI X lo_X7_3.1 lo_X7_3.2.1 lo_X7_3.2.2 hl.1 (by decide) dX7_init_1 ?_
  refine W.eq (g2 := F0 m 4 ls []) rfl ?_
  refine lv_aload_n hx hb dX7_init_4 rfl (lv_at hl 0 rfl) ?_
  refine lv_sipush (v := (900 : Int32)) hx hb dX7_init_5 (by decide) ?_
  obtain ⟨t1, ht1, h⟩ := Option.bind_eq_some_iff.mp h
  refine xr_newB (N := 900) X O (xw_t1 132 (by decide +kernel) rfl) (by decide) (by decide) (by decide) (Nat.le_of_ble_eq_true rfl) (Nat.le_of_ble_eq_true rfl) dX7_init_8 (fun H locs O => ?_)
  rw [Option.some.inj ht1] at O
  refine W.eq (g2 := F0 m 10 ls [.ref (κ.1 + M.1.length), .ref (κ.1 + a0)]) rfl ?_
  obtain ⟨t2, ht2, h⟩ := Option.bind_eq_some_iff.mp h
  refine xr_putP X O ht2 fl_X7_9 (fun _ => ⟨hnm, rfl⟩) dX7_init_10 (fun H locs O => ?_)
  refine lv_aload_n hx hb dX7_init_13 rfl (lv_at hl 0 rfl) ?_
  refine lv_iconst (v := (-1 : Int32)) hx hb dX7_init_14 (by decide) ?_
  obtain ⟨t3, ht3, h⟩ := Option.bind_eq_some_iff.mp h
  refine xr_putI X O ht3 fl_X7_15 dX7_init_15 (fun H locs O => ?_)
  refine lv_aload_n hx hb dX7_init_18 rfl (lv_at hl 0 rfl) ?_
  obtain ⟨t4, ht4, h⟩ := Option.bind_eq_some_iff.mp h
  refine xr_new X O cl_X3 (by decide) (xw_t1 37 (by decide +kernel) rfl) (xw_t1 38 (by decide +kernel) rfl) (xw_t1 3 (by decide +kernel) rfl) (by decide) (Nat.le_of_ble_eq_true rfl) (Nat.le_of_ble_eq_true rfl) dX7_init_19 (fun H locs O => ?_)
  rw [Option.some.inj ht4] at O
  refine W.eq (g2 := F0 m 22 ls [.ref (κ.1 + t3.1.length), .ref (κ.1 + a0)]) rfl ?_
  refine lv_dup hx hb dX7_init_22 rfl ?_
  obtain ⟨t5, ht5, h⟩ := Option.bind_eq_some_iff.mp h
  refine xr_callI (rest := [.ref (κ.1 + t3.1.length), .ref (κ.1 + a0)]) X O (T_X3_init l κ t3.1.length t4 _ ht5) lk_X7_21 (Nat.le_of_ble_eq_true rfl) rfl hl.1 rfl (Nat.le_of_ble_eq_true rfl) dX7_init_23 ⟨Nat.le_of_ble_eq_true rfl, Nat.le_of_ble_eq_true rfl⟩ (fun H locs O => ?_)
  refine W.eq (g2 := F0 m 26 ls [.ref (κ.1 + t3.1.length), .ref (κ.1 + a0)]) rfl ?_
  obtain ⟨t6, ht6, h⟩ := Option.bind_eq_some_iff.mp h
  refine xr_putP X O ht6 fl_X7_22 (fun _ => ⟨hnm, rfl⟩) dX7_init_26 (fun H locs O => ?_)
  refine lv_aload_n hx hb dX7_init_29 rfl (lv_at hl 0 rfl) ?_
  obtain ⟨t7, ht7, h⟩ := Option.bind_eq_some_iff.mp h
  refine xr_new X O cl_X0 (by decide) (xw_t1 134 (by decide +kernel) rfl) (xw_t1 135 (by decide +kernel) rfl) (xw_t1 4 (by decide +kernel) rfl) (by decide) (Nat.le_of_ble_eq_true rfl) (Nat.le_of_ble_eq_true rfl) dX7_init_30 (fun H locs O => ?_)
  rw [Option.some.inj ht7] at O
  refine W.eq (g2 := F0 m 33 ls [.ref (κ.1 + t6.1.length), .ref (κ.1 + a0)]) rfl ?_
  refine lv_dup hx hb dX7_init_33 rfl ?_
  obtain ⟨t8, ht8, h⟩ := Option.bind_eq_some_iff.mp h
  refine xr_callI (rest := [.ref (κ.1 + t6.1.length), .ref (κ.1 + a0)]) X O (T_X0_init l κ t6.1.length t7 _ ht8) lk_X7_28 (Nat.le_of_ble_eq_true rfl) rfl hl.1 rfl (Nat.le_of_ble_eq_true rfl) dX7_init_34 ⟨Nat.le_of_ble_eq_true rfl, Nat.le_of_ble_eq_true rfl⟩ (fun H locs O => ?_)
  refine W.eq (g2 := F0 m 37 ls [.ref (κ.1 + t6.1.length), .ref (κ.1 + a0)]) rfl ?_
  obtain ⟨t9, ht9, h⟩ := Option.bind_eq_some_iff.mp h
  refine xr_putP X O ht9 fl_X7_29 (fun _ => ⟨hnm, rfl⟩) dX7_init_37 (fun H locs O => ?_)
  rw [← Option.some.inj h] at hK
  have hK : t9 = mo := hK
  rw [hK] at O
  exact xr_vret X hr hlk O dX7_init_40
def F_X7_pass_50 (M : xM) : Option (xM) :=
some M
def F_X7_pass_0b (v0 : Nat) (v1 : Int32) (v2 : Int32) : (xM) → Option ((xM) ⊕ (xM)) := fun M =>
(xgI M v0 7 7).bind fun t1 =>
(xgI M v0 7 5).bind fun t2 =>
if t2 ≤ t1 then (
(F_X7_pass_50 M).map Sum.inr)
else (
(xgP M v0 7 4).bind fun t3 =>
(xgI M v0 7 7).bind fun t4 =>
(xaI M 21 t3 t4).bind fun t5 =>
if t5 < v1 then (
(F_X7_pass_50 M).map Sum.inr)
else (
(xgP M v0 7 4).bind fun t6 =>
(xgI M v0 7 7).bind fun t7 =>
(xaI M 21 t6 t7).bind fun t8 =>
if v2 < t8 then (
(F_X7_pass_50 M).map Sum.inr)
else (
(xgI M v0 7 7).bind fun t9 =>
(xpI M v0 7 7 (t9 + (1 : Int32))).bind fun t10 =>
some (.inl t10))))
def F_X7_pass_0 (v0 : Nat) (v1 : Int32) (v2 : Int32) (M : xM) : Option (xM) := xit (F_X7_pass_0b v0 v1 v2) xFU M
def F_X7_pass (a0 : Nat) (a1 : Int32) (a2 : Int32) (M : xM) : Option (xM) :=
F_X7_pass_0 a0 a1 a2 M
set_option maxRecDepth 100000 in
set_option maxHeartbeats 4000000 in
theorem F_X7_pass_50_ok (X : xX p s m args c cX7_pass 3 RX7 κ) (hr : meth.sig.returnType = none) (hlk : meth.locks = false) {mo : xM} (M : xM) (x : xM) (h : F_X7_pass_50 M = some x) (hK : (fun o => o = mo) x) (H : Heap) (locs : List Loc) (ls : Array Slot) (O : xO κ s M H locs) (hl : lv_has ls 3 []) : W p l e (xRm 2 0 0) s m args below meth c H locs 0 0 (xQf below args s 0 0 κ none mo) (F0 m 50 ls []) := by
  unfold F_X7_pass_50 at h
  have hx := X.1
  have hb := X.2.1
  rw [← Option.some.inj h] at hK
  have hK : M = mo := hK
  rw [hK] at O
  exact xr_vret X hr hlk O dX7_pass_50
set_option maxRecDepth 100000 in
set_option maxHeartbeats 4000000 in
theorem F_X7_pass_0_bok (X : xX p s m args c cX7_pass 3 RX7 κ) (hr : meth.sig.returnType = none) (hlk : meth.locks = false) {mo : xM} (v0 : Nat) (v1 : Int32) (v2 : Int32) {W0 : xM → Prop} (hW0 : ∀ (M : xM), W0 M → ∀ (H : Heap) (locs : List Loc) (ls : Array Slot), xO κ s M H locs → lv_has ls 3 [(0, .ref (κ.1 + v0)), (1, .int v1), (2, .int v2)] → W p l e (xRm 2 0 0) s m args below meth c H locs 0 0 (xQf below args s 0 0 κ none mo) (F0 m 0 ls [])) (M : xM) (x : (xM) ⊕ (xM)) (h : F_X7_pass_0b v0 v1 v2 M = some x) (hK : (xKl W0 (fun o => o = mo)) x) (H : Heap) (locs : List Loc) (ls : Array Slot) (O : xO κ s M H locs) (hl : lv_has ls 3 [(0, .ref (κ.1 + v0)), (1, .int v1), (2, .int v2)]) : W p l e (xRm 2 0 0) s m args below meth c H locs 0 0 (xQf below args s 0 0 κ none mo) (F0 m 0 ls []) := by
  unfold F_X7_pass_0b at h
  have hx := X.1
  have hb := X.2.1
  refine lv_aload_n hx hb dX7_pass_0 rfl (lv_at hl 0 rfl) ?_
  obtain ⟨t1, ht1, h⟩ := Option.bind_eq_some_iff.mp h
  refine xr_getI X O ht1 fl_X7_45 (Or.inl rfl) dX7_pass_1 ?_
  refine lv_aload_n hx hb dX7_pass_4 rfl (lv_at hl 0 rfl) ?_
  obtain ⟨t2, ht2, h⟩ := Option.bind_eq_some_iff.mp h
  refine xr_getI X O ht2 fl_X7_42 (Or.inl rfl) dX7_pass_5 ?_
  refine lv_icmp_ge (tgt := 50) hx hb dX7_pass_8 (by decide) (fun hc8 => ?_) (fun hc8 => ?_)
  · rw [if_pos hc8] at h
    obtain ⟨_, hw0, ew0⟩ := Option.map_eq_some_iff.mp h
    rw [← ew0] at hK
    have h := hw0
    exact F_X7_pass_50_ok X hr hlk  M _ h hK H locs ls O (lv_sub hl [] rfl)
  rw [if_neg hc8] at h
  refine lv_aload_n hx hb dX7_pass_11 rfl (lv_at hl 0 rfl) ?_
  obtain ⟨t3, ht3, h⟩ := Option.bind_eq_some_iff.mp h
  refine xr_getP X O ht3 fl_X7_9 dX7_pass_12 ?_
  refine lv_aload_n hx hb dX7_pass_15 rfl (lv_at hl 0 rfl) ?_
  obtain ⟨t4, ht4, h⟩ := Option.bind_eq_some_iff.mp h
  refine xr_getI X O ht4 fl_X7_45 (Or.inl rfl) dX7_pass_16 ?_
  obtain ⟨t5, ht5, h⟩ := Option.bind_eq_some_iff.mp h
  refine xr_aldB X O ht5 dX7_pass_19 ?_
  refine lv_iload_n hx hb dX7_pass_20 rfl (lv_at hl 1 rfl) ?_
  refine lv_icmp_lt (tgt := 50) hx hb dX7_pass_21 (by decide) (fun hc21 => ?_) (fun hc21 => ?_)
  · rw [if_pos hc21] at h
    obtain ⟨_, hw0, ew0⟩ := Option.map_eq_some_iff.mp h
    rw [← ew0] at hK
    have h := hw0
    exact F_X7_pass_50_ok X hr hlk  M _ h hK H locs ls O (lv_sub hl [] rfl)
  rw [if_neg hc21] at h
  refine lv_aload_n hx hb dX7_pass_24 rfl (lv_at hl 0 rfl) ?_
  obtain ⟨t6, ht6, h⟩ := Option.bind_eq_some_iff.mp h
  refine xr_getP X O ht6 fl_X7_9 dX7_pass_25 ?_
  refine lv_aload_n hx hb dX7_pass_28 rfl (lv_at hl 0 rfl) ?_
  obtain ⟨t7, ht7, h⟩ := Option.bind_eq_some_iff.mp h
  refine xr_getI X O ht7 fl_X7_45 (Or.inl rfl) dX7_pass_29 ?_
  obtain ⟨t8, ht8, h⟩ := Option.bind_eq_some_iff.mp h
  refine xr_aldB X O ht8 dX7_pass_32 ?_
  refine lv_iload_n hx hb dX7_pass_33 rfl (lv_at hl 2 rfl) ?_
  refine lv_icmp_gt (tgt := 50) hx hb dX7_pass_34 (by decide) (fun hc34 => ?_) (fun hc34 => ?_)
  · rw [if_pos hc34] at h
    obtain ⟨_, hw0, ew0⟩ := Option.map_eq_some_iff.mp h
    rw [← ew0] at hK
    have h := hw0
    exact F_X7_pass_50_ok X hr hlk  M _ h hK H locs ls O (lv_sub hl [] rfl)
  rw [if_neg hc34] at h
  refine lv_aload_n hx hb dX7_pass_37 rfl (lv_at hl 0 rfl) ?_
  refine lv_dup hx hb dX7_pass_38 rfl ?_
  obtain ⟨t9, ht9, h⟩ := Option.bind_eq_some_iff.mp h
  refine xr_getI X O ht9 fl_X7_45 (Or.inl rfl) dX7_pass_39 ?_
  refine lv_iconst (v := (1 : Int32)) hx hb dX7_pass_42 (by decide) ?_
  refine lv_iadd hx hb dX7_pass_43 ?_
  obtain ⟨t10, ht10, h⟩ := Option.bind_eq_some_iff.mp h
  refine xr_putI X O ht10 fl_X7_45 dX7_pass_44 (fun H locs O => ?_)
  refine lv_goto (tgt := 0) hx hb dX7_pass_47 (by decide) ?_
  rw [← Option.some.inj h] at hK
  exact hW0 t10 hK H locs ls O (lv_sub hl [0, 1, 2] rfl)
set_option maxRecDepth 100000 in
set_option maxHeartbeats 4000000 in
theorem F_X7_pass_0_ok (X : xX p s m args c cX7_pass 3 RX7 κ) (hr : meth.sig.returnType = none) (hlk : meth.locks = false) {mo : xM} (v0 : Nat) (v1 : Int32) (v2 : Int32) (M : xM) (x : xM) (h : F_X7_pass_0 v0 v1 v2 M = some x) (hK : (fun o => o = mo) x) (H : Heap) (locs : List Loc) (ls : Array Slot) (O : xO κ s M H locs) (hl : lv_has ls 3 [(0, .ref (κ.1 + v0)), (1, .int v1), (2, .int v2)]) : W p l e (xRm 2 0 0) s m args below meth c H locs 0 0 (xQf below args s 0 0 κ none mo) (F0 m 0 ls []) := by
  refine xit_K (Wh := fun x => ∀ (H : Heap) (locs : List Loc) (ls : Array Slot), xO κ s x H locs → lv_has ls 3 [(0, .ref (κ.1 + v0)), (1, .int v1), (2, .int v2)] → W p l e (xRm 2 0 0) s m args below meth c H locs 0 0 (xQf below args s 0 0 κ none mo) (F0 m 0 ls [])) (Kp := (fun o => o = mo)) ?_ xFU M x h hK H locs ls O hl
  intro y x h hK H locs ls O hl
  exact F_X7_pass_0_bok X hr hlk v0 v1 v2 (fun  _ hw => hw) y x h hK H locs ls O hl
set_option maxRecDepth 100000 in
set_option maxHeartbeats 4000000 in
theorem T_X7_pass (l : Launch) (κ : xQ) (a0 : Nat) (a1 : Int32) (a2 : Int32) (M : xM) (mo : xM) (h : F_X7_pass a0 a1 a2 M = some mo) : xC l yX7_pass cX7_pass 3 none 2 0 0 κ [.ref (κ.1 + a0), .int a1, .int a2] M none mo := by
  refine xC_of rfl (Nat.le_of_ble_eq_true rfl) fun p e s m args below meth c X hr hlk hnm H locs ls O hl => ?_
  have X : xX p s m args c cX7_pass 3 RX7 κ := X
  have hl : lv_has ls 3 [(0, .ref (κ.1 + a0)), (1, .int a1), (2, .int a2)] := hl
  have hx := X.1
  have hb := X.2.1
  obtain ⟨x, hx0⟩ : ∃ x, mo = x := ⟨_, rfl⟩
  rw [hx0] at h
  have hK : x = mo := hx0.symm
  unfold F_X7_pass at h
  exact F_X7_pass_0_ok X hr hlk a0 a1 a2 M _ h hK H locs ls O (lv_sub hl [0, 1, 2] rfl)
def F_J0_isLatin1_aae02_17 (M : xM) : Option (Int32 × xM) :=
(xz (0 : Int32)).bind fun t3 =>
some (t3, M)
def F_J0_isLatin1_aae02 (a0 : Nat) (M : xM) : Option (Int32 × xM) :=
if (1 : Int32) = 0 then (
F_J0_isLatin1_aae02_17 M)
else (
(xso a0).bind fun t1 =>
if (0 : Int32) = 0 then (
(xz (1 : Int32)).bind fun t2 =>
some (t2, M))
else (
F_J0_isLatin1_aae02_17 M))
set_option maxRecDepth 100000 in
set_option maxHeartbeats 4000000 in
theorem F_J0_isLatin1_aae02_17_ok (X : xX p s m args c cJ0_isLatin1_aae02 1 RJ0 κ) (hr : meth.sig.returnType = (some .boolean)) (hlk : meth.locks = false) {ro : Int32} {mo : xM} (M : xM) (x : Int32 × xM) (h : F_J0_isLatin1_aae02_17 M = some x) (hK : (fun o => o = (ro, mo)) x) (H : Heap) (locs : List Loc) (ls : Array Slot) (O : xO κ s M H locs) (hl : lv_has ls 1 []) : W p l e (xRm 2 0 0) s m args below meth c H locs 0 0 (xQf below args s 0 0 κ (some (.int ro)) mo) (F0 m 17 ls []) := by
  unfold F_J0_isLatin1_aae02_17 at h
  have hx := X.1
  have hb := X.2.1
  refine lv_iconst (v := (0 : Int32)) hx hb dJ0_isLatin1_aae02_17 (by decide) ?_
  obtain ⟨t3, ht3, h⟩ := Option.bind_eq_some_iff.mp h
  rw [← Option.some.inj h] at hK
  have hK : (t3, M) = (ro, mo) := hK
  obtain ⟨hK1, hK2⟩ := Prod.mk.inj hK
  rw [hK1] at ht3
  rw [hK2] at O
  exact xr_zret X hr hlk O ht3 dJ0_isLatin1_aae02_18
set_option maxRecDepth 100000 in
set_option maxHeartbeats 4000000 in
theorem T_J0_isLatin1_aae02 (l : Launch) (κ : xQ) (a0 : Nat) (M : xM) (ro : Int32) (mo : xM) (h : F_J0_isLatin1_aae02 a0 M = some (ro, mo)) : xC l yJ0_isLatin1_aae02 cJ0_isLatin1_aae02 1 (some .boolean) 2 0 0 κ [.ref (κ.2.2.2.1 a0)] M (some (.int ro)) mo := by
  refine xC_ofF (by decide +kernel) (Nat.le_of_ble_eq_true rfl) fun p e s m args below meth c X hr hlk hnm H locs ls O hl => ?_
  have X : xX p s m args c cJ0_isLatin1_aae02 1 RJ0 κ := X
  have hl : lv_has ls 1 [(0, .ref (κ.2.2.2.1 a0))] := hl
  have hx := X.1
  have hb := X.2.1
  obtain ⟨x, hx0⟩ : ∃ x, (ro, mo) = x := ⟨_, rfl⟩
  rw [hx0] at h
  have hK : x = (ro, mo) := hx0.symm
  unfold F_J0_isLatin1_aae02 at h
  refine xr_compact X O fj_J0_38 dJ0_isLatin1_aae02_0 ?_
  refine lv_if_eq (tgt := 17) hx hb dJ0_isLatin1_aae02_3 (by decide) (fun hc3 => ?_) (fun hc3 => ?_)
  · rw [if_pos hc3] at h
    exact F_J0_isLatin1_aae02_17_ok X hr hlk  M _ h hK H locs ls O (lv_sub hl [] rfl)
  rw [if_neg hc3] at h
  refine lv_aload_n hx hb dJ0_isLatin1_aae02_6 rfl (lv_at hl 0 rfl) ?_
  obtain ⟨t1, ht1, h⟩ := Option.bind_eq_some_iff.mp h
  refine xr_scod X O ht1 fj_J0_15 dJ0_isLatin1_aae02_7 ?_
  refine lv_if_ne (tgt := 17) hx hb dJ0_isLatin1_aae02_10 (by decide) (fun hc10 => ?_) (fun hc10 => ?_)
  · rw [if_neg hc10] at h
    exact F_J0_isLatin1_aae02_17_ok X hr hlk  M _ h hK H locs ls O (lv_sub hl [] rfl)
  rw [if_pos hc10] at h
  refine lv_iconst (v := (1 : Int32)) hx hb dJ0_isLatin1_aae02_13 (by decide) ?_
  refine lv_goto (tgt := 18) hx hb dJ0_isLatin1_aae02_14 (by decide) ?_
  obtain ⟨t2, ht2, h⟩ := Option.bind_eq_some_iff.mp h
  rw [← Option.some.inj h] at hK
  have hK : (t2, M) = (ro, mo) := hK
  obtain ⟨hK1, hK2⟩ := Prod.mk.inj hK
  rw [hK1] at ht2
  rw [hK2] at O
  exact xr_zret X hr hlk O ht2 dJ0_isLatin1_aae02_18
def F_J0_coder_7d493 (a0 : Nat) (M : xM) : Option (Int32 × xM) :=
if (1 : Int32) = 0 then (
(xz (1 : Int32)).bind fun t1 =>
some (t1, M))
else (
(xso a0).bind fun t2 =>
(xz (0 : Int32)).bind fun t3 =>
some (t3, M))
set_option maxRecDepth 100000 in
set_option maxHeartbeats 4000000 in
theorem T_J0_coder_7d493 (l : Launch) (κ : xQ) (a0 : Nat) (M : xM) (ro : Int32) (mo : xM) (h : F_J0_coder_7d493 a0 M = some (ro, mo)) : xC l yJ0_coder_7d493 cJ0_coder_7d493 1 (some .byte) 2 0 0 κ [.ref (κ.2.2.2.1 a0)] M (some (.int ro)) mo := by
  refine xC_ofF (by decide +kernel) (Nat.le_of_ble_eq_true rfl) fun p e s m args below meth c X hr hlk hnm H locs ls O hl => ?_
  have X : xX p s m args c cJ0_coder_7d493 1 RJ0 κ := X
  have hl : lv_has ls 1 [(0, .ref (κ.2.2.2.1 a0))] := hl
  have hx := X.1
  have hb := X.2.1
  obtain ⟨x, hx0⟩ : ∃ x, (ro, mo) = x := ⟨_, rfl⟩
  rw [hx0] at h
  have hK : x = (ro, mo) := hx0.symm
  unfold F_J0_coder_7d493 at h
  refine xr_compact X O fj_J0_38 dJ0_coder_7d493_0 ?_
  refine lv_if_eq (tgt := 13) hx hb dJ0_coder_7d493_3 (by decide) (fun hc3 => ?_) (fun hc3 => ?_)
  · rw [if_pos hc3] at h
    refine lv_iconst (v := (1 : Int32)) hx hb dJ0_coder_7d493_13 (by decide) ?_
    obtain ⟨t1, ht1, h⟩ := Option.bind_eq_some_iff.mp h
    rw [← Option.some.inj h] at hK
    have hK : (t1, M) = (ro, mo) := hK
    obtain ⟨hK1, hK2⟩ := Prod.mk.inj hK
    rw [hK1] at ht1
    rw [hK2] at O
    exact xr_bret X hr hlk O ht1 dJ0_coder_7d493_14
  rw [if_neg hc3] at h
  refine lv_aload_n hx hb dJ0_coder_7d493_6 rfl (lv_at hl 0 rfl) ?_
  obtain ⟨t2, ht2, h⟩ := Option.bind_eq_some_iff.mp h
  refine xr_scod X O ht2 fj_J0_15 dJ0_coder_7d493_7 ?_
  refine lv_goto (tgt := 14) hx hb dJ0_coder_7d493_10 (by decide) ?_
  obtain ⟨t3, ht3, h⟩ := Option.bind_eq_some_iff.mp h
  rw [← Option.some.inj h] at hK
  have hK : (t3, M) = (ro, mo) := hK
  obtain ⟨hK1, hK2⟩ := Prod.mk.inj hK
  rw [hK1] at ht3
  rw [hK2] at O
  exact xr_bret X hr hlk O ht3 dJ0_coder_7d493_14
def F_J0_length_8abf5 (a0 : Nat) (M : xM) : Option (Int32 × xM) :=
(xso a0).bind fun t1 =>
(xsl a0).bind fun t2 =>
(xso a0).bind fun _ =>
(F_J0_coder_7d493 a0 M).bind fun t4 =>
some ((t2 >>> (t4.1 &&& 31)), t4.2)
set_option maxRecDepth 100000 in
set_option maxHeartbeats 4000000 in
theorem T_J0_length_8abf5 (l : Launch) (κ : xQ) (a0 : Nat) (M : xM) (ro : Int32) (mo : xM) (h : F_J0_length_8abf5 a0 M = some (ro, mo)) : xC l yJ0_length_8abf5 cJ0_length_8abf5 1 (some .int) 3 0 0 κ [.ref (κ.2.2.2.1 a0)] M (some (.int ro)) mo := by
  refine xC_ofF (by decide +kernel) (Nat.le_of_ble_eq_true rfl) fun p e s m args below meth c X hr hlk hnm H locs ls O hl => ?_
  have X : xX p s m args c cJ0_length_8abf5 1 RJ0 κ := X
  have hl : lv_has ls 1 [(0, .ref (κ.2.2.2.1 a0))] := hl
  have hx := X.1
  have hb := X.2.1
  obtain ⟨x, hx0⟩ : ∃ x, (ro, mo) = x := ⟨_, rfl⟩
  rw [hx0] at h
  have hK : x = (ro, mo) := hx0.symm
  unfold F_J0_length_8abf5 at h
  refine lv_aload_n hx hb dJ0_length_8abf5_0 rfl (lv_at hl 0 rfl) ?_
  obtain ⟨t1, ht1, h⟩ := Option.bind_eq_some_iff.mp h
  refine xr_sval X O ht1 fj_J0_9 dJ0_length_8abf5_1 ?_
  obtain ⟨t2, ht2, h⟩ := Option.bind_eq_some_iff.mp h
  refine xr_slen X O ht2 dJ0_length_8abf5_4 ?_
  refine lv_aload_n hx hb dJ0_length_8abf5_5 rfl (lv_at hl 0 rfl) ?_
  obtain ⟨_, hut3, h⟩ := Option.bind_eq_some_iff.mp h
  obtain ⟨t4, ht4, h⟩ := Option.bind_eq_some_iff.mp h
  refine xr_callT (i := a0) (rest := [.int t2]) X O (T_J0_coder_7d493 l κ a0 M _ _ ht4) lk_J0_335 hut3 (Nat.le_of_ble_eq_true rfl) rfl hl.1 rfl (Nat.le_of_ble_eq_true rfl) dJ0_length_8abf5_6 ⟨Nat.le_of_ble_eq_true rfl, Nat.le_of_ble_eq_true rfl⟩ (fun H locs O => ?_)
  refine W.eq (g2 := F0 m 9 ls [.int t4.1, .int t2]) rfl ?_
  refine lv_ishr hx hb dJ0_length_8abf5_9 ?_
  rw [← Option.some.inj h] at hK
  have hK : ((t2 >>> (t4.1 &&& 31)), t4.2) = (ro, mo) := hK
  obtain ⟨hK1, hK2⟩ := Prod.mk.inj hK
  rw [hK2] at O
  refine xr_top (w := .int ro) (by rw [hK1]) ?_
  exact xr_iret X hr hlk O dJ0_length_8abf5_10
def F_J1_canEncode_9a6ad_15 (M : xM) : Option (Int32 × xM) :=
(xz (0 : Int32)).bind fun t2 =>
some (t2, M)
def F_J1_canEncode_9a6ad (a0 : Int32) (M : xM) : Option (Int32 × xM) :=
if a0 < 0 then (
F_J1_canEncode_9a6ad_15 M)
else (
if (255 : Int32) < a0 then (
F_J1_canEncode_9a6ad_15 M)
else (
(xz (1 : Int32)).bind fun t1 =>
some (t1, M)))
set_option maxRecDepth 100000 in
set_option maxHeartbeats 4000000 in
theorem F_J1_canEncode_9a6ad_15_ok (X : xX p s m args c cJ1_canEncode_9a6ad 1 RJ1 κ) (hr : meth.sig.returnType = (some .boolean)) (hlk : meth.locks = false) {ro : Int32} {mo : xM} (M : xM) (x : Int32 × xM) (h : F_J1_canEncode_9a6ad_15 M = some x) (hK : (fun o => o = (ro, mo)) x) (H : Heap) (locs : List Loc) (ls : Array Slot) (O : xO κ s M H locs) (hl : lv_has ls 1 []) : W p l e (xRm 2 0 0) s m args below meth c H locs 0 0 (xQf below args s 0 0 κ (some (.int ro)) mo) (F0 m 15 ls []) := by
  unfold F_J1_canEncode_9a6ad_15 at h
  have hx := X.1
  have hb := X.2.1
  refine lv_iconst (v := (0 : Int32)) hx hb dJ1_canEncode_9a6ad_15 (by decide) ?_
  obtain ⟨t2, ht2, h⟩ := Option.bind_eq_some_iff.mp h
  rw [← Option.some.inj h] at hK
  have hK : (t2, M) = (ro, mo) := hK
  obtain ⟨hK1, hK2⟩ := Prod.mk.inj hK
  rw [hK1] at ht2
  rw [hK2] at O
  exact xr_zret X hr hlk O ht2 dJ1_canEncode_9a6ad_16
set_option maxRecDepth 100000 in
set_option maxHeartbeats 4000000 in
theorem T_J1_canEncode_9a6ad (l : Launch) (κ : xQ) (a0 : Int32) (M : xM) (ro : Int32) (mo : xM) (h : F_J1_canEncode_9a6ad a0 M = some (ro, mo)) : xC l yJ1_canEncode_9a6ad cJ1_canEncode_9a6ad 1 (some .boolean) 2 0 0 κ [.int a0] M (some (.int ro)) mo := by
  refine xC_ofF (by decide +kernel) (Nat.le_of_ble_eq_true rfl) fun p e s m args below meth c X hr hlk hnm H locs ls O hl => ?_
  have X : xX p s m args c cJ1_canEncode_9a6ad 1 RJ1 κ := X
  have hl : lv_has ls 1 [(0, .int a0)] := hl
  have hx := X.1
  have hb := X.2.1
  obtain ⟨x, hx0⟩ : ∃ x, (ro, mo) = x := ⟨_, rfl⟩
  rw [hx0] at h
  have hK : x = (ro, mo) := hx0.symm
  unfold F_J1_canEncode_9a6ad at h
  refine lv_iload_n hx hb dJ1_canEncode_9a6ad_0 rfl (lv_at hl 0 rfl) ?_
  refine lv_if_lt (tgt := 15) hx hb dJ1_canEncode_9a6ad_1 (by decide) (fun hc1 => ?_) (fun hc1 => ?_)
  · rw [if_pos hc1] at h
    exact F_J1_canEncode_9a6ad_15_ok X hr hlk  M _ h hK H locs ls O (lv_sub hl [] rfl)
  rw [if_neg hc1] at h
  refine lv_iload_n hx hb dJ1_canEncode_9a6ad_4 rfl (lv_at hl 0 rfl) ?_
  refine lv_sipush (v := (255 : Int32)) hx hb dJ1_canEncode_9a6ad_5 (by decide) ?_
  refine lv_icmp_gt (tgt := 15) hx hb dJ1_canEncode_9a6ad_8 (by decide) (fun hc8 => ?_) (fun hc8 => ?_)
  · rw [if_pos hc8] at h
    exact F_J1_canEncode_9a6ad_15_ok X hr hlk  M _ h hK H locs ls O (lv_sub hl [] rfl)
  rw [if_neg hc8] at h
  refine lv_iconst (v := (1 : Int32)) hx hb dJ1_canEncode_9a6ad_11 (by decide) ?_
  refine lv_goto (tgt := 16) hx hb dJ1_canEncode_9a6ad_12 (by decide) ?_
  obtain ⟨t1, ht1, h⟩ := Option.bind_eq_some_iff.mp h
  rw [← Option.some.inj h] at hK
  have hK : (t1, M) = (ro, mo) := hK
  obtain ⟨hK1, hK2⟩ := Prod.mk.inj hK
  rw [hK1] at ht1
  rw [hK2] at O
  exact xr_zret X hr hlk O ht1 dJ1_canEncode_9a6ad_16
def F_J1_indexOfChar_4cfef_22 (v5 : Int32) (M : xM) : Option (Int32 × xM) :=
some (v5, M)
def F_J1_indexOfChar_4cfef_31 (M : xM) : Option (Int32 × xM) :=
some ((-1 : Int32), M)
def F_J1_indexOfChar_4cfef_7b (v0 : Nat) (v3 : Int32) (v4 : Int32) : (Int32 × xM) → Option ((Int32 × xM) ⊕ (Int32 × xM)) := fun ⟨v5, M⟩ =>
if v3 ≤ v5 then (
(F_J1_indexOfChar_4cfef_31 M).map Sum.inr)
else (
(xsb v0 v5).bind fun t1 =>
if t1 = v4 then (
(F_J1_indexOfChar_4cfef_22 v5 M).map Sum.inr)
else (
some (.inl ((v5 + 1), M))))
def F_J1_indexOfChar_4cfef_7 (v0 : Nat) (v3 : Int32) (v4 : Int32) (v5 : Int32) (M : xM) : Option (Int32 × xM) := xit (F_J1_indexOfChar_4cfef_7b v0 v3 v4) xFU (v5, M)
def F_J1_indexOfChar_4cfef (a0 : Nat) (a1 : Int32) (a2 : Int32) (a3 : Int32) (M : xM) : Option (Int32 × xM) :=
F_J1_indexOfChar_4cfef_7 a0 a3 a1.toInt8.toInt32 a2 M
set_option maxRecDepth 100000 in
set_option maxHeartbeats 4000000 in
theorem F_J1_indexOfChar_4cfef_22_ok (X : xX p s m args c cJ1_indexOfChar_4cfef 6 RJ1 κ) (hr : meth.sig.returnType = (some .int)) (hlk : meth.locks = false) {ro : Int32} {mo : xM} (v5 : Int32) (M : xM) (x : Int32 × xM) (h : F_J1_indexOfChar_4cfef_22 v5 M = some x) (hK : (fun o => o = (ro, mo)) x) (H : Heap) (locs : List Loc) (ls : Array Slot) (O : xO κ s M H locs) (hl : lv_has ls 6 [(5, .int v5)]) : W p l e (xRm 2 0 0) s m args below meth c H locs 0 0 (xQf below args s 0 0 κ (some (.int ro)) mo) (F0 m 22 ls []) := by
  unfold F_J1_indexOfChar_4cfef_22 at h
  have hx := X.1
  have hb := X.2.1
  refine lv_iload hx hb dJ1_indexOfChar_4cfef_22 (lv_at hl 0 rfl) ?_
  rw [← Option.some.inj h] at hK
  have hK : (v5, M) = (ro, mo) := hK
  obtain ⟨hK1, hK2⟩ := Prod.mk.inj hK
  rw [hK2] at O
  refine xr_top (w := .int ro) (by rw [hK1]) ?_
  exact xr_iret X hr hlk O dJ1_indexOfChar_4cfef_24
set_option maxRecDepth 100000 in
set_option maxHeartbeats 4000000 in
theorem F_J1_indexOfChar_4cfef_31_ok (X : xX p s m args c cJ1_indexOfChar_4cfef 6 RJ1 κ) (hr : meth.sig.returnType = (some .int)) (hlk : meth.locks = false) {ro : Int32} {mo : xM} (M : xM) (x : Int32 × xM) (h : F_J1_indexOfChar_4cfef_31 M = some x) (hK : (fun o => o = (ro, mo)) x) (H : Heap) (locs : List Loc) (ls : Array Slot) (O : xO κ s M H locs) (hl : lv_has ls 6 []) : W p l e (xRm 2 0 0) s m args below meth c H locs 0 0 (xQf below args s 0 0 κ (some (.int ro)) mo) (F0 m 31 ls []) := by
  unfold F_J1_indexOfChar_4cfef_31 at h
  have hx := X.1
  have hb := X.2.1
  refine lv_iconst (v := (-1 : Int32)) hx hb dJ1_indexOfChar_4cfef_31 (by decide) ?_
  rw [← Option.some.inj h] at hK
  have hK : ((-1 : Int32), M) = (ro, mo) := hK
  obtain ⟨hK1, hK2⟩ := Prod.mk.inj hK
  rw [hK2] at O
  refine xr_top (w := .int ro) (by rw [hK1]) ?_
  exact xr_iret X hr hlk O dJ1_indexOfChar_4cfef_32
set_option maxRecDepth 100000 in
set_option maxHeartbeats 4000000 in
theorem F_J1_indexOfChar_4cfef_7_bok (X : xX p s m args c cJ1_indexOfChar_4cfef 6 RJ1 κ) (hr : meth.sig.returnType = (some .int)) (hlk : meth.locks = false) {ro : Int32} {mo : xM} (v0 : Nat) (v3 : Int32) (v4 : Int32) (v5 : Int32) {W7 : Int32 × xM → Prop} (hW7 : ∀ (v5 : Int32) (M : xM), W7 (v5, M) → ∀ (H : Heap) (locs : List Loc) (ls : Array Slot), xO κ s M H locs → lv_has ls 6 [(0, .ref (κ.2.2.2.2 v0)), (3, .int v3), (4, .int v4), (5, .int v5)] → W p l e (xRm 2 0 0) s m args below meth c H locs 0 0 (xQf below args s 0 0 κ (some (.int ro)) mo) (F0 m 7 ls [])) (M : xM) (x : (Int32 × xM) ⊕ (Int32 × xM)) (h : F_J1_indexOfChar_4cfef_7b v0 v3 v4 (v5, M) = some x) (hK : (xKl W7 (fun o => o = (ro, mo))) x) (H : Heap) (locs : List Loc) (ls : Array Slot) (O : xO κ s M H locs) (hl : lv_has ls 6 [(0, .ref (κ.2.2.2.2 v0)), (3, .int v3), (4, .int v4), (5, .int v5)]) : W p l e (xRm 2 0 0) s m args below meth c H locs 0 0 (xQf below args s 0 0 κ (some (.int ro)) mo) (F0 m 7 ls []) := by
  unfold F_J1_indexOfChar_4cfef_7b at h
  dsimp only at h
  have hx := X.1
  have hb := X.2.1
  refine lv_iload hx hb dJ1_indexOfChar_4cfef_7 (lv_at hl 3 rfl) ?_
  refine lv_iload_n hx hb dJ1_indexOfChar_4cfef_9 rfl (lv_at hl 1 rfl) ?_
  refine lv_icmp_ge (tgt := 31) hx hb dJ1_indexOfChar_4cfef_10 (by decide) (fun hc10 => ?_) (fun hc10 => ?_)
  · rw [if_pos hc10] at h
    obtain ⟨_, hw0, ew0⟩ := Option.map_eq_some_iff.mp h
    rw [← ew0] at hK
    have h := hw0
    exact F_J1_indexOfChar_4cfef_31_ok X hr hlk  M _ h hK H locs ls O (lv_sub hl [] rfl)
  rw [if_neg hc10] at h
  refine lv_aload_n hx hb dJ1_indexOfChar_4cfef_13 rfl (lv_at hl 0 rfl) ?_
  refine lv_iload hx hb dJ1_indexOfChar_4cfef_14 (lv_at hl 3 rfl) ?_
  obtain ⟨t1, ht1, h⟩ := Option.bind_eq_some_iff.mp h
  refine xr_sbal X O ht1 dJ1_indexOfChar_4cfef_16 ?_
  refine lv_iload hx hb dJ1_indexOfChar_4cfef_17 (lv_at hl 2 rfl) ?_
  refine lv_icmp_ne (tgt := 25) hx hb dJ1_indexOfChar_4cfef_19 (by decide) (fun hc19 => ?_) (fun hc19 => ?_)
  · rw [if_neg hc19] at h
    refine lv_iinc (v := (v5 + 1)) (lv' := [(5, .int (v5 + 1)), (0, .ref (κ.2.2.2.2 v0)), (3, .int v3), (4, .int v4)]) hx hb dJ1_indexOfChar_4cfef_25 hl (k := 3) rfl rfl (by decide) rfl (fun ls hl => ?_)
    refine lv_goto (tgt := 7) hx hb dJ1_indexOfChar_4cfef_28 (by decide) ?_
    rw [← Option.some.inj h] at hK
    exact hW7 (v5 + 1) M hK H locs ls O (lv_sub hl [1, 2, 3, 0] rfl)
  rw [if_pos hc19] at h
  obtain ⟨_, hw0, ew0⟩ := Option.map_eq_some_iff.mp h
  rw [← ew0] at hK
  have h := hw0
  exact F_J1_indexOfChar_4cfef_22_ok X hr hlk v5 M _ h hK H locs ls O (lv_sub hl [3] rfl)
set_option maxRecDepth 100000 in
set_option maxHeartbeats 4000000 in
theorem F_J1_indexOfChar_4cfef_7_ok (X : xX p s m args c cJ1_indexOfChar_4cfef 6 RJ1 κ) (hr : meth.sig.returnType = (some .int)) (hlk : meth.locks = false) {ro : Int32} {mo : xM} (v0 : Nat) (v3 : Int32) (v4 : Int32) (v5 : Int32) (M : xM) (x : Int32 × xM) (h : F_J1_indexOfChar_4cfef_7 v0 v3 v4 v5 M = some x) (hK : (fun o => o = (ro, mo)) x) (H : Heap) (locs : List Loc) (ls : Array Slot) (O : xO κ s M H locs) (hl : lv_has ls 6 [(0, .ref (κ.2.2.2.2 v0)), (3, .int v3), (4, .int v4), (5, .int v5)]) : W p l e (xRm 2 0 0) s m args below meth c H locs 0 0 (xQf below args s 0 0 κ (some (.int ro)) mo) (F0 m 7 ls []) := by
  refine xit_K (Wh := fun x => ∀ (H : Heap) (locs : List Loc) (ls : Array Slot), xO κ s x.2 H locs → lv_has ls 6 [(0, .ref (κ.2.2.2.2 v0)), (3, .int v3), (4, .int v4), (5, .int x.1)] → W p l e (xRm 2 0 0) s m args below meth c H locs 0 0 (xQf below args s 0 0 κ (some (.int ro)) mo) (F0 m 7 ls [])) (Kp := (fun o => o = (ro, mo))) ?_ xFU (v5, M) x h hK H locs ls O hl
  intro y x h hK H locs ls O hl
  exact F_J1_indexOfChar_4cfef_7_bok X hr hlk v0 v3 v4 y.1 (fun _ _ hw => hw) y.2 x h hK H locs ls O hl
set_option maxRecDepth 100000 in
set_option maxHeartbeats 4000000 in
theorem T_J1_indexOfChar_4cfef (l : Launch) (κ : xQ) (a0 : Nat) (a1 : Int32) (a2 : Int32) (a3 : Int32) (M : xM) (ro : Int32) (mo : xM) (h : F_J1_indexOfChar_4cfef a0 a1 a2 a3 M = some (ro, mo)) : xC l yJ1_indexOfChar_4cfef cJ1_indexOfChar_4cfef 6 (some .int) 2 0 0 κ [.ref (κ.2.2.2.2 a0), .int a1, .int a2, .int a3] M (some (.int ro)) mo := by
  refine xC_ofF (by decide +kernel) (Nat.le_of_ble_eq_true rfl) fun p e s m args below meth c X hr hlk hnm H locs ls O hl => ?_
  have X : xX p s m args c cJ1_indexOfChar_4cfef 6 RJ1 κ := X
  have hl : lv_has ls 6 [(0, .ref (κ.2.2.2.2 a0)), (1, .int a1), (2, .int a2), (3, .int a3)] := hl
  have hx := X.1
  have hb := X.2.1
  obtain ⟨x, hx0⟩ : ∃ x, (ro, mo) = x := ⟨_, rfl⟩
  rw [hx0] at h
  have hK : x = (ro, mo) := hx0.symm
  unfold F_J1_indexOfChar_4cfef at h
  refine lv_iload_n hx hb dJ1_indexOfChar_4cfef_0 rfl (lv_at hl 1 rfl) ?_
  refine lv_i2b (v := a1.toInt8.toInt32) hx hb dJ1_indexOfChar_4cfef_1 rfl ?_
  refine lv_istore (lv' := [(4, .int a1.toInt8.toInt32), (0, .ref (κ.2.2.2.2 a0)), (1, .int a1), (2, .int a2), (3, .int a3)]) hx hb dJ1_indexOfChar_4cfef_2 hl (by decide) rfl (fun ls hl => ?_)
  refine lv_iload_n hx hb dJ1_indexOfChar_4cfef_4 rfl (lv_at hl 3 rfl) ?_
  refine lv_istore (lv' := [(5, .int a2), (4, .int a1.toInt8.toInt32), (0, .ref (κ.2.2.2.2 a0)), (1, .int a1), (2, .int a2), (3, .int a3)]) hx hb dJ1_indexOfChar_4cfef_5 hl (by decide) rfl (fun ls hl => ?_)
  exact F_J1_indexOfChar_4cfef_7_ok X hr hlk a0 a3 a1.toInt8.toInt32 a2 M _ h hK H locs ls O (lv_sub hl [2, 5, 1, 0] rfl)
def F_J1_indexOf_4cfef (a0 : Nat) (a1 : Int32) (a2 : Int32) (a3 : Int32) (M : xM) : Option (Int32 × xM) :=
(F_J1_canEncode_9a6ad a1 M).bind fun t1 =>
if t1.1 = 0 then (
some ((-1 : Int32), t1.2))
else (
(F_J9_max_7cf53 a2 (0 : Int32) t1.2).bind fun t2 =>
(xsl a0).bind fun t3 =>
(F_J9_min_7cf53 a3 t3 t2.2).bind fun t4 =>
if t2.1 < t4.1 then (
(F_J1_indexOfChar_4cfef a0 a1 t2.1 t4.1 t4.2).bind fun t5 =>
some (t5.1, t5.2))
else (
some ((-1 : Int32), t4.2)))
set_option maxRecDepth 100000 in
set_option maxHeartbeats 4000000 in
theorem T_J1_indexOf_4cfef (l : Launch) (κ : xQ) (a0 : Nat) (a1 : Int32) (a2 : Int32) (a3 : Int32) (M : xM) (ro : Int32) (mo : xM) (h : F_J1_indexOf_4cfef a0 a1 a2 a3 M = some (ro, mo)) : xC l yJ1_indexOf_4cfef cJ1_indexOf_4cfef 4 (some .int) 3 0 0 κ [.ref (κ.2.2.2.2 a0), .int a1, .int a2, .int a3] M (some (.int ro)) mo := by
  refine xC_ofF (by decide +kernel) (Nat.le_of_ble_eq_true rfl) fun p e s m args below meth c X hr hlk hnm H locs ls O hl => ?_
  have X : xX p s m args c cJ1_indexOf_4cfef 4 RJ1 κ := X
  have hl : lv_has ls 4 [(0, .ref (κ.2.2.2.2 a0)), (1, .int a1), (2, .int a2), (3, .int a3)] := hl
  have hx := X.1
  have hb := X.2.1
  obtain ⟨x, hx0⟩ : ∃ x, (ro, mo) = x := ⟨_, rfl⟩
  rw [hx0] at h
  have hK : x = (ro, mo) := hx0.symm
  unfold F_J1_indexOf_4cfef at h
  refine lv_iload_n hx hb dJ1_indexOf_4cfef_0 rfl (lv_at hl 1 rfl) ?_
  obtain ⟨t1, ht1, h⟩ := Option.bind_eq_some_iff.mp h
  refine xr_callS (rest := []) X O (T_J1_canEncode_9a6ad l κ a1 M _ _ ht1) lk_J1_88 (Nat.le_of_ble_eq_true rfl) rfl hl.1 rfl (Nat.le_of_ble_eq_true rfl) dJ1_indexOf_4cfef_1 ⟨Nat.le_of_ble_eq_true rfl, Nat.le_of_ble_eq_true rfl⟩ (fun H locs O => ?_)
  refine W.eq (g2 := F0 m 4 ls [.int t1.1]) rfl ?_
  refine lv_if_ne (tgt := 9) hx hb dJ1_indexOf_4cfef_4 (by decide) (fun hc4 => ?_) (fun hc4 => ?_)
  · rw [if_neg hc4] at h
    refine lv_iload_n hx hb dJ1_indexOf_4cfef_9 rfl (lv_at hl 2 rfl) ?_
    refine lv_iconst (v := (0 : Int32)) hx hb dJ1_indexOf_4cfef_10 (by decide) ?_
    obtain ⟨t2, ht2, h⟩ := Option.bind_eq_some_iff.mp h
    refine xr_callS (rest := []) X O (T_J9_max_7cf53 l κ a2 (0 : Int32) t1.2 _ _ ht2) lk_J1_92 (Nat.le_of_ble_eq_true rfl) rfl hl.1 rfl (Nat.le_of_ble_eq_true rfl) dJ1_indexOf_4cfef_11 ⟨Nat.le_of_ble_eq_true rfl, Nat.le_of_ble_eq_true rfl⟩ (fun H locs O => ?_)
    refine W.eq (g2 := F0 m 14 ls [.int t2.1]) rfl ?_
    refine lv_istore_n (lv' := [(2, .int t2.1), (0, .ref (κ.2.2.2.2 a0)), (1, .int a1), (3, .int a3)]) hx hb dJ1_indexOf_4cfef_14 rfl hl (by decide) rfl (fun ls hl => ?_)
    refine lv_iload_n hx hb dJ1_indexOf_4cfef_15 rfl (lv_at hl 3 rfl) ?_
    refine lv_aload_n hx hb dJ1_indexOf_4cfef_16 rfl (lv_at hl 1 rfl) ?_
    obtain ⟨t3, ht3, h⟩ := Option.bind_eq_some_iff.mp h
    refine xr_slen X O ht3 dJ1_indexOf_4cfef_17 ?_
    obtain ⟨t4, ht4, h⟩ := Option.bind_eq_some_iff.mp h
    refine xr_callS (rest := []) X O (T_J9_min_7cf53 l κ a3 t3 t2.2 _ _ ht4) lk_J1_38 (Nat.le_of_ble_eq_true rfl) rfl hl.1 rfl (Nat.le_of_ble_eq_true rfl) dJ1_indexOf_4cfef_18 ⟨Nat.le_of_ble_eq_true rfl, Nat.le_of_ble_eq_true rfl⟩ (fun H locs O => ?_)
    refine W.eq (g2 := F0 m 21 ls [.int t4.1]) rfl ?_
    refine lv_istore_n (lv' := [(3, .int t4.1), (2, .int t2.1), (0, .ref (κ.2.2.2.2 a0)), (1, .int a1)]) hx hb dJ1_indexOf_4cfef_21 rfl hl (by decide) rfl (fun ls hl => ?_)
    refine lv_iload_n hx hb dJ1_indexOf_4cfef_22 rfl (lv_at hl 1 rfl) ?_
    refine lv_iload_n hx hb dJ1_indexOf_4cfef_23 rfl (lv_at hl 0 rfl) ?_
    refine lv_icmp_lt (tgt := 29) hx hb dJ1_indexOf_4cfef_24 (by decide) (fun hc24 => ?_) (fun hc24 => ?_)
    · rw [if_pos hc24] at h
      refine lv_aload_n hx hb dJ1_indexOf_4cfef_29 rfl (lv_at hl 2 rfl) ?_
      refine lv_iload_n hx hb dJ1_indexOf_4cfef_30 rfl (lv_at hl 3 rfl) ?_
      refine lv_iload_n hx hb dJ1_indexOf_4cfef_31 rfl (lv_at hl 1 rfl) ?_
      refine lv_iload_n hx hb dJ1_indexOf_4cfef_32 rfl (lv_at hl 0 rfl) ?_
      obtain ⟨t5, ht5, h⟩ := Option.bind_eq_some_iff.mp h
      refine xr_callS (rest := []) X O (T_J1_indexOfChar_4cfef l κ a0 a1 t2.1 t4.1 t4.2 _ _ ht5) lk_J1_95 (Nat.le_of_ble_eq_true rfl) rfl hl.1 rfl (Nat.le_of_ble_eq_true rfl) dJ1_indexOf_4cfef_33 ⟨Nat.le_of_ble_eq_true rfl, Nat.le_of_ble_eq_true rfl⟩ (fun H locs O => ?_)
      refine W.eq (g2 := F0 m 36 ls [.int t5.1]) rfl ?_
      rw [← Option.some.inj h] at hK
      have hK : (t5.1, t5.2) = (ro, mo) := hK
      obtain ⟨hK1, hK2⟩ := Prod.mk.inj hK
      rw [hK2] at O
      refine xr_top (w := .int ro) (by rw [hK1]) ?_
      exact xr_iret X hr hlk O dJ1_indexOf_4cfef_36
    rw [if_neg hc24] at h
    refine lv_iconst (v := (-1 : Int32)) hx hb dJ1_indexOf_4cfef_27 (by decide) ?_
    rw [← Option.some.inj h] at hK
    have hK : ((-1 : Int32), t4.2) = (ro, mo) := hK
    obtain ⟨hK1, hK2⟩ := Prod.mk.inj hK
    rw [hK2] at O
    refine xr_top (w := .int ro) (by rw [hK1]) ?_
    exact xr_iret X hr hlk O dJ1_indexOf_4cfef_28
  rw [if_pos hc4] at h
  refine lv_iconst (v := (-1 : Int32)) hx hb dJ1_indexOf_4cfef_7 (by decide) ?_
  rw [← Option.some.inj h] at hK
  have hK : ((-1 : Int32), t1.2) = (ro, mo) := hK
  obtain ⟨hK1, hK2⟩ := Prod.mk.inj hK
  rw [hK2] at O
  refine xr_top (w := .int ro) (by rw [hK1]) ?_
  exact xr_iret X hr hlk O dJ1_indexOf_4cfef_8
def F_J0_indexOf_7cf53 (a0 : Nat) (a1 : Int32) (a2 : Int32) (M : xM) : Option (Int32 × xM) :=
(xso a0).bind fun _ =>
(F_J0_isLatin1_aae02 a0 M).bind fun t2 =>
if t2.1 = 0 then (
none)
else (
(xso a0).bind fun t3 =>
(xso a0).bind fun _ =>
(F_J0_length_8abf5 a0 t2.2).bind fun t5 =>
(F_J1_indexOf_4cfef a0 a1 a2 t5.1 t5.2).bind fun t6 =>
some (t6.1, t6.2))
set_option maxRecDepth 100000 in
set_option maxHeartbeats 4000000 in
theorem T_J0_indexOf_7cf53 (l : Launch) (κ : xQ) (a0 : Nat) (a1 : Int32) (a2 : Int32) (M : xM) (ro : Int32) (mo : xM) (h : F_J0_indexOf_7cf53 a0 a1 a2 M = some (ro, mo)) : xC l yJ0_indexOf_7cf53 cJ0_indexOf_7cf53 3 (some .int) 4 0 0 κ [.ref (κ.2.2.2.1 a0), .int a1, .int a2] M (some (.int ro)) mo := by
  refine xC_ofF (by decide +kernel) (Nat.le_of_ble_eq_true rfl) fun p e s m args below meth c X hr hlk hnm H locs ls O hl => ?_
  have X : xX p s m args c cJ0_indexOf_7cf53 3 RJ0 κ := X
  have hl : lv_has ls 3 [(0, .ref (κ.2.2.2.1 a0)), (1, .int a1), (2, .int a2)] := hl
  have hx := X.1
  have hb := X.2.1
  obtain ⟨x, hx0⟩ : ∃ x, (ro, mo) = x := ⟨_, rfl⟩
  rw [hx0] at h
  have hK : x = (ro, mo) := hx0.symm
  unfold F_J0_indexOf_7cf53 at h
  refine lv_aload_n hx hb dJ0_indexOf_7cf53_0 rfl (lv_at hl 0 rfl) ?_
  obtain ⟨_, hut1, h⟩ := Option.bind_eq_some_iff.mp h
  obtain ⟨t2, ht2, h⟩ := Option.bind_eq_some_iff.mp h
  refine xr_callT (i := a0) (rest := []) X O (T_J0_isLatin1_aae02 l κ a0 M _ _ ht2) lk_J0_492 hut1 (Nat.le_of_ble_eq_true rfl) rfl hl.1 rfl (Nat.le_of_ble_eq_true rfl) dJ0_indexOf_7cf53_1 ⟨Nat.le_of_ble_eq_true rfl, Nat.le_of_ble_eq_true rfl⟩ (fun H locs O => ?_)
  refine W.eq (g2 := F0 m 4 ls [.int t2.1]) rfl ?_
  refine lv_if_eq (tgt := 23) hx hb dJ0_indexOf_7cf53_4 (by decide) (fun hc4 => ?_) (fun hc4 => ?_)
  · rw [if_pos hc4] at h
    cases h
  rw [if_neg hc4] at h
  refine lv_aload_n hx hb dJ0_indexOf_7cf53_7 rfl (lv_at hl 0 rfl) ?_
  obtain ⟨t3, ht3, h⟩ := Option.bind_eq_some_iff.mp h
  refine xr_sval X O ht3 fj_J0_9 dJ0_indexOf_7cf53_8 ?_
  refine lv_iload_n hx hb dJ0_indexOf_7cf53_11 rfl (lv_at hl 1 rfl) ?_
  refine lv_iload_n hx hb dJ0_indexOf_7cf53_12 rfl (lv_at hl 2 rfl) ?_
  refine lv_aload_n hx hb dJ0_indexOf_7cf53_13 rfl (lv_at hl 0 rfl) ?_
  obtain ⟨_, hut4, h⟩ := Option.bind_eq_some_iff.mp h
  obtain ⟨t5, ht5, h⟩ := Option.bind_eq_some_iff.mp h
  refine xr_callT (i := a0) (rest := [.int a2, .int a1, .ref (κ.2.2.2.2 a0)]) X O (T_J0_length_8abf5 l κ a0 t2.2 _ _ ht5) lk_J0_505 hut4 (Nat.le_of_ble_eq_true rfl) rfl hl.1 rfl (Nat.le_of_ble_eq_true rfl) dJ0_indexOf_7cf53_14 ⟨Nat.le_of_ble_eq_true rfl, Nat.le_of_ble_eq_true rfl⟩ (fun H locs O => ?_)
  refine W.eq (g2 := F0 m 17 ls [.int t5.1, .int a2, .int a1, .ref (κ.2.2.2.2 a0)]) rfl ?_
  obtain ⟨t6, ht6, h⟩ := Option.bind_eq_some_iff.mp h
  refine xr_callS (rest := []) X O (T_J1_indexOf_4cfef l κ a0 a1 a2 t5.1 t5.2 _ _ ht6) lk_J0_637 (Nat.le_of_ble_eq_true rfl) rfl hl.1 rfl (Nat.le_of_ble_eq_true rfl) dJ0_indexOf_7cf53_17 ⟨Nat.le_of_ble_eq_true rfl, Nat.le_of_ble_eq_true rfl⟩ (fun H locs O => ?_)
  refine W.eq (g2 := F0 m 20 ls [.int t6.1]) rfl ?_
  refine lv_goto (tgt := 36) hx hb dJ0_indexOf_7cf53_20 (by decide) ?_
  rw [← Option.some.inj h] at hK
  have hK : (t6.1, t6.2) = (ro, mo) := hK
  obtain ⟨hK1, hK2⟩ := Prod.mk.inj hK
  rw [hK2] at O
  refine xr_top (w := .int ro) (by rw [hK1]) ?_
  exact xr_iret X hr hlk O dJ0_indexOf_7cf53_36
def F_J0_indexOf_0f7a4 (a0 : Nat) (a1 : Int32) (M : xM) : Option (Int32 × xM) :=
(xso a0).bind fun _ =>
(F_J0_indexOf_7cf53 a0 a1 (0 : Int32) M).bind fun t2 =>
some (t2.1, t2.2)
set_option maxRecDepth 100000 in
set_option maxHeartbeats 4000000 in
theorem T_J0_indexOf_0f7a4 (l : Launch) (κ : xQ) (a0 : Nat) (a1 : Int32) (M : xM) (ro : Int32) (mo : xM) (h : F_J0_indexOf_0f7a4 a0 a1 M = some (ro, mo)) : xC l yJ0_indexOf_0f7a4 cJ0_indexOf_0f7a4 2 (some .int) 5 0 0 κ [.ref (κ.2.2.2.1 a0), .int a1] M (some (.int ro)) mo := by
  refine xC_ofF (by decide +kernel) (Nat.le_of_ble_eq_true rfl) fun p e s m args below meth c X hr hlk hnm H locs ls O hl => ?_
  have X : xX p s m args c cJ0_indexOf_0f7a4 2 RJ0 κ := X
  have hl : lv_has ls 2 [(0, .ref (κ.2.2.2.1 a0)), (1, .int a1)] := hl
  have hx := X.1
  have hb := X.2.1
  obtain ⟨x, hx0⟩ : ∃ x, (ro, mo) = x := ⟨_, rfl⟩
  rw [hx0] at h
  have hK : x = (ro, mo) := hx0.symm
  unfold F_J0_indexOf_0f7a4 at h
  refine lv_aload_n hx hb dJ0_indexOf_0f7a4_0 rfl (lv_at hl 0 rfl) ?_
  refine lv_iload_n hx hb dJ0_indexOf_0f7a4_1 rfl (lv_at hl 1 rfl) ?_
  refine lv_iconst (v := (0 : Int32)) hx hb dJ0_indexOf_0f7a4_2 (by decide) ?_
  obtain ⟨_, hut1, h⟩ := Option.bind_eq_some_iff.mp h
  obtain ⟨t2, ht2, h⟩ := Option.bind_eq_some_iff.mp h
  refine xr_callT (i := a0) (rest := []) X O (T_J0_indexOf_7cf53 l κ a0 a1 (0 : Int32) M _ _ ht2) lk_J0_633 hut1 (Nat.le_of_ble_eq_true rfl) rfl hl.1 rfl (Nat.le_of_ble_eq_true rfl) dJ0_indexOf_0f7a4_3 ⟨Nat.le_of_ble_eq_true rfl, Nat.le_of_ble_eq_true rfl⟩ (fun H locs O => ?_)
  refine W.eq (g2 := F0 m 6 ls [.int t2.1]) rfl ?_
  rw [← Option.some.inj h] at hK
  have hK : (t2.1, t2.2) = (ro, mo) := hK
  obtain ⟨hK1, hK2⟩ := Prod.mk.inj hK
  rw [hK2] at O
  refine xr_top (w := .int ro) (by rw [hK1]) ?_
  exact xr_iret X hr hlk O dJ0_indexOf_0f7a4_6
def F_X7_step_47 (v0 : Nat) (M : xM) : Option ((xM) ⊕ (xM)) :=
(xgI M v0 7 6).bind fun t11 =>
(xpI M v0 7 6 (t11 + (1 : Int32))).bind fun t12 =>
some (.inl t12)
def F_X7_step_186 (s0 : Int32) (s1 : Nat) (M : xM) : Option (xM) :=
(xpI M s1 7 8 s0).bind fun t45 =>
some t45
def F_X7_step_230 (s0 : Int32) (s1 : Nat) (M : xM) : Option (xM) :=
(xpI M s1 7 8 s0).bind fun t44 =>
some t44
def F_X7_step_192 (v0 : Nat) (M : xM) : Option (xM) :=
(xgI M v0 7 7).bind fun t37 =>
(xpI M v0 7 7 (t37 + (1 : Int32))).bind fun t38 =>
(xgP t38 v0 7 4).bind fun t39 =>
(xgI t38 v0 7 6).bind fun t40 =>
(xaI t38 21 t39 t40).bind fun t41 =>
(xso 0).bind fun _ =>
(F_J0_indexOf_0f7a4 0 ((t41 &&& (255 : Int32)).toUInt32 % 65536).toInt32 t38).bind fun t43 =>
if t43.1 < 0 then (
F_X7_step_230 (1 : Int32) v0 t43.2)
else (
F_X7_step_230 (4 : Int32) v0 t43.2)
def F_X7_step_131 (v0 : Nat) (M : xM) : Option (xM) :=
(xgP M v0 7 4).bind fun t27 =>
(xgI M v0 7 6).bind fun t28 =>
(xaI M 21 t27 t28).bind fun t29 =>
if t29 < (48 : Int32) then (
F_X7_step_192 v0 M)
else (
(xgP M v0 7 4).bind fun t30 =>
(xgI M v0 7 6).bind fun t31 =>
(xaI M 21 t30 t31).bind fun t32 =>
if (57 : Int32) < t32 then (
F_X7_step_192 v0 M)
else (
(xck M v0 7).bind fun _ =>
(F_X7_pass v0 (48 : Int32) (57 : Int32) M).bind fun t34 =>
(xgI t34 v0 7 7).bind fun t35 =>
(xgI t34 v0 7 6).bind fun t36 =>
if (3 : Int32) < (t35 - t36) then (
F_X7_step_186 (1 : Int32) v0 t34)
else (
F_X7_step_186 (3 : Int32) v0 t34)))
def F_X7_step_60 (v0 : Nat) (M : xM) : Option (xM) :=
(xgI M v0 7 6).bind fun t13 =>
(xpI M v0 7 7 t13).bind fun t14 =>
(xgI t14 v0 7 6).bind fun t15 =>
(xgI t14 v0 7 5).bind fun t16 =>
if t15 < t16 then (
(xgP t14 v0 7 4).bind fun t17 =>
(xgI t14 v0 7 6).bind fun t18 =>
(xaI t14 21 t17 t18).bind fun t19 =>
if t19 < (97 : Int32) then (
F_X7_step_131 v0 t14)
else (
(xgP t14 v0 7 4).bind fun t20 =>
(xgI t14 v0 7 6).bind fun t21 =>
(xaI t14 21 t20 t21).bind fun t22 =>
if (122 : Int32) < t22 then (
F_X7_step_131 v0 t14)
else (
(xck t14 v0 7).bind fun _ =>
(F_X7_pass v0 (97 : Int32) (122 : Int32) t14).bind fun t24 =>
(xpI t24 v0 7 8 (2 : Int32)).bind fun t25 =>
some t25)))
else (
(xpI t14 v0 7 8 (0 : Int32)).bind fun t26 =>
some t26)
def F_X7_step_8b (v0 : Nat) : (xM) → Option ((xM) ⊕ (xM)) := fun M =>
(xgI M v0 7 6).bind fun t3 =>
(xgI M v0 7 5).bind fun t4 =>
if t4 ≤ t3 then (
(F_X7_step_60 v0 M).map Sum.inr)
else (
(xgP M v0 7 4).bind fun t5 =>
(xgI M v0 7 6).bind fun t6 =>
(xaI M 21 t5 t6).bind fun t7 =>
if t7 = (10 : Int32) then (
F_X7_step_47 v0 M)
else (
(xgP M v0 7 4).bind fun t8 =>
(xgI M v0 7 6).bind fun t9 =>
(xaI M 21 t8 t9).bind fun t10 =>
if t10 = (32 : Int32) then (
F_X7_step_47 v0 M)
else (
(F_X7_step_60 v0 M).map Sum.inr)))
def F_X7_step_8 (v0 : Nat) (M : xM) : Option (xM) := xit (F_X7_step_8b v0) xFU M
def F_X7_step (a0 : Nat) (M : xM) : Option (xM) :=
(xgI M a0 7 7).bind fun t1 =>
(xpI M a0 7 6 t1).bind fun t2 =>
F_X7_step_8 a0 t2
set_option maxRecDepth 100000 in
set_option maxHeartbeats 4000000 in
theorem F_X7_step_47_ok (X : xX p s m args c cX7_step 1 RX7 κ) (hr : meth.sig.returnType = none) (hlk : meth.locks = false) {mo : xM} (v0 : Nat) {W8 : xM → Prop} (hW8 : ∀ (M : xM), W8 M → ∀ (H : Heap) (locs : List Loc) (ls : Array Slot), xO κ s M H locs → lv_has ls 1 [(0, .ref (κ.1 + v0))] → W p l e (xRm 6 0 0) s m args below meth c H locs 0 0 (xQf below args s 0 0 κ none mo) (F0 m 8 ls [])) (M : xM) (x : (xM) ⊕ (xM)) (h : F_X7_step_47 v0 M = some x) (hK : (xKl W8 (fun o => o = mo)) x) (H : Heap) (locs : List Loc) (ls : Array Slot) (O : xO κ s M H locs) (hl : lv_has ls 1 [(0, .ref (κ.1 + v0))]) : W p l e (xRm 6 0 0) s m args below meth c H locs 0 0 (xQf below args s 0 0 κ none mo) (F0 m 47 ls []) := by
  unfold F_X7_step_47 at h
  have hx := X.1
  have hb := X.2.1
  refine lv_aload_n hx hb dX7_step_47 rfl (lv_at hl 0 rfl) ?_
  refine lv_dup hx hb dX7_step_48 rfl ?_
  obtain ⟨t11, ht11, h⟩ := Option.bind_eq_some_iff.mp h
  refine xr_getI X O ht11 fl_X7_77 (Or.inl rfl) dX7_step_49 ?_
  refine lv_iconst (v := (1 : Int32)) hx hb dX7_step_52 (by decide) ?_
  refine lv_iadd hx hb dX7_step_53 ?_
  obtain ⟨t12, ht12, h⟩ := Option.bind_eq_some_iff.mp h
  refine xr_putI X O ht12 fl_X7_77 dX7_step_54 (fun H locs O => ?_)
  refine lv_goto (tgt := 8) hx hb dX7_step_57 (by decide) ?_
  rw [← Option.some.inj h] at hK
  exact hW8 t12 hK H locs ls O (lv_sub hl [0] rfl)
set_option maxRecDepth 100000 in
set_option maxHeartbeats 4000000 in
theorem F_X7_step_186_ok (X : xX p s m args c cX7_step 1 RX7 κ) (hr : meth.sig.returnType = none) (hlk : meth.locks = false) {mo : xM} (s0 : Int32) (s1 : Nat) (M : xM) (x : xM) (h : F_X7_step_186 s0 s1 M = some x) (hK : (fun o => o = mo) x) (H : Heap) (locs : List Loc) (ls : Array Slot) (O : xO κ s M H locs) (hl : lv_has ls 1 []) : W p l e (xRm 6 0 0) s m args below meth c H locs 0 0 (xQf below args s 0 0 κ none mo) (F0 m 186 ls [.int s0, .ref (κ.1 + s1)]) := by
  unfold F_X7_step_186 at h
  have hx := X.1
  have hb := X.2.1
  obtain ⟨t45, ht45, h⟩ := Option.bind_eq_some_iff.mp h
  refine xr_putI X O ht45 fl_X7_64 dX7_step_186 (fun H locs O => ?_)
  refine lv_goto (tgt := 233) hx hb dX7_step_189 (by decide) ?_
  rw [← Option.some.inj h] at hK
  have hK : t45 = mo := hK
  rw [hK] at O
  exact xr_vret X hr hlk O dX7_step_233
set_option maxRecDepth 100000 in
set_option maxHeartbeats 4000000 in
theorem F_X7_step_230_ok (X : xX p s m args c cX7_step 1 RX7 κ) (hr : meth.sig.returnType = none) (hlk : meth.locks = false) {mo : xM} (s0 : Int32) (s1 : Nat) (M : xM) (x : xM) (h : F_X7_step_230 s0 s1 M = some x) (hK : (fun o => o = mo) x) (H : Heap) (locs : List Loc) (ls : Array Slot) (O : xO κ s M H locs) (hl : lv_has ls 1 []) : W p l e (xRm 6 0 0) s m args below meth c H locs 0 0 (xQf below args s 0 0 κ none mo) (F0 m 230 ls [.int s0, .ref (κ.1 + s1)]) := by
  unfold F_X7_step_230 at h
  have hx := X.1
  have hb := X.2.1
  obtain ⟨t44, ht44, h⟩ := Option.bind_eq_some_iff.mp h
  refine xr_putI X O ht44 fl_X7_64 dX7_step_230 (fun H locs O => ?_)
  rw [← Option.some.inj h] at hK
  have hK : t44 = mo := hK
  rw [hK] at O
  exact xr_vret X hr hlk O dX7_step_233
set_option maxRecDepth 100000 in
set_option maxHeartbeats 4000000 in
theorem F_X7_step_192_ok (X : xX p s m args c cX7_step 1 RX7 κ) (hr : meth.sig.returnType = none) (hlk : meth.locks = false) {mo : xM} (v0 : Nat) (M : xM) (x : xM) (h : F_X7_step_192 v0 M = some x) (hK : (fun o => o = mo) x) (H : Heap) (locs : List Loc) (ls : Array Slot) (O : xO κ s M H locs) (hl : lv_has ls 1 [(0, .ref (κ.1 + v0))]) : W p l e (xRm 6 0 0) s m args below meth c H locs 0 0 (xQf below args s 0 0 κ none mo) (F0 m 192 ls []) := by
  unfold F_X7_step_192 at h
  have hx := X.1
  have hb := X.2.1
  refine lv_aload_n hx hb dX7_step_192 rfl (lv_at hl 0 rfl) ?_
  refine lv_dup hx hb dX7_step_193 rfl ?_
  obtain ⟨t37, ht37, h⟩ := Option.bind_eq_some_iff.mp h
  refine xr_getI X O ht37 fl_X7_45 (Or.inl rfl) dX7_step_194 ?_
  refine lv_iconst (v := (1 : Int32)) hx hb dX7_step_197 (by decide) ?_
  refine lv_iadd hx hb dX7_step_198 ?_
  obtain ⟨t38, ht38, h⟩ := Option.bind_eq_some_iff.mp h
  refine xr_putI X O ht38 fl_X7_45 dX7_step_199 (fun H locs O => ?_)
  refine lv_aload_n hx hb dX7_step_202 rfl (lv_at hl 0 rfl) ?_
  refine va_ldcS hx hb X.2.2.2.1 (X.2.2.2.2.2.2.1 0 _ rfl).1 dX7_step_203 ?_
  refine lv_aload_n hx hb dX7_step_205 rfl (lv_at hl 0 rfl) ?_
  obtain ⟨t39, ht39, h⟩ := Option.bind_eq_some_iff.mp h
  refine xr_getP X O ht39 fl_X7_9 dX7_step_206 ?_
  refine lv_aload_n hx hb dX7_step_209 rfl (lv_at hl 0 rfl) ?_
  obtain ⟨t40, ht40, h⟩ := Option.bind_eq_some_iff.mp h
  refine xr_getI X O ht40 fl_X7_77 (Or.inl rfl) dX7_step_210 ?_
  obtain ⟨t41, ht41, h⟩ := Option.bind_eq_some_iff.mp h
  refine xr_aldB X O ht41 dX7_step_213 ?_
  refine lv_sipush (v := (255 : Int32)) hx hb dX7_step_214 (by decide) ?_
  refine lv_iand hx hb dX7_step_217 ?_
  refine lv_i2c (v := ((t41 &&& (255 : Int32)).toUInt32 % 65536).toInt32) hx hb dX7_step_218 rfl ?_
  obtain ⟨_, hut42, h⟩ := Option.bind_eq_some_iff.mp h
  obtain ⟨t43, ht43, h⟩ := Option.bind_eq_some_iff.mp h
  refine xr_callT (i := 0) (rest := [.ref (κ.1 + v0)]) X O (T_J0_indexOf_0f7a4 l κ 0 ((t41 &&& (255 : Int32)).toUInt32 % 65536).toInt32 t38 _ _ ht43) lk_X7_86 hut42 (Nat.le_of_ble_eq_true rfl) rfl hl.1 rfl (Nat.le_of_ble_eq_true rfl) dX7_step_219 ⟨Nat.le_of_ble_eq_true rfl, Nat.le_of_ble_eq_true rfl⟩ (fun H locs O => ?_)
  refine W.eq (g2 := F0 m 222 ls [.int t43.1, .ref (κ.1 + v0)]) rfl ?_
  refine lv_if_lt (tgt := 229) hx hb dX7_step_222 (by decide) (fun hc222 => ?_) (fun hc222 => ?_)
  · rw [if_pos hc222] at h
    refine lv_iconst (v := (1 : Int32)) hx hb dX7_step_229 (by decide) ?_
    exact F_X7_step_230_ok X hr hlk (1 : Int32) v0 t43.2 _ h hK H locs ls O (lv_sub hl [] rfl)
  rw [if_neg hc222] at h
  refine lv_iconst (v := (4 : Int32)) hx hb dX7_step_225 (by decide) ?_
  refine lv_goto (tgt := 230) hx hb dX7_step_226 (by decide) ?_
  exact F_X7_step_230_ok X hr hlk (4 : Int32) v0 t43.2 _ h hK H locs ls O (lv_sub hl [] rfl)
set_option maxRecDepth 100000 in
set_option maxHeartbeats 4000000 in
theorem F_X7_step_131_ok (X : xX p s m args c cX7_step 1 RX7 κ) (hr : meth.sig.returnType = none) (hlk : meth.locks = false) {mo : xM} (v0 : Nat) (M : xM) (x : xM) (h : F_X7_step_131 v0 M = some x) (hK : (fun o => o = mo) x) (H : Heap) (locs : List Loc) (ls : Array Slot) (O : xO κ s M H locs) (hl : lv_has ls 1 [(0, .ref (κ.1 + v0))]) : W p l e (xRm 6 0 0) s m args below meth c H locs 0 0 (xQf below args s 0 0 κ none mo) (F0 m 131 ls []) := by
  unfold F_X7_step_131 at h
  have hx := X.1
  have hb := X.2.1
  refine lv_aload_n hx hb dX7_step_131 rfl (lv_at hl 0 rfl) ?_
  obtain ⟨t27, ht27, h⟩ := Option.bind_eq_some_iff.mp h
  refine xr_getP X O ht27 fl_X7_9 dX7_step_132 ?_
  refine lv_aload_n hx hb dX7_step_135 rfl (lv_at hl 0 rfl) ?_
  obtain ⟨t28, ht28, h⟩ := Option.bind_eq_some_iff.mp h
  refine xr_getI X O ht28 fl_X7_77 (Or.inl rfl) dX7_step_136 ?_
  obtain ⟨t29, ht29, h⟩ := Option.bind_eq_some_iff.mp h
  refine xr_aldB X O ht29 dX7_step_139 ?_
  refine lv_bipush (v := (48 : Int32)) hx hb dX7_step_140 (by decide) ?_
  refine lv_icmp_lt (tgt := 192) hx hb dX7_step_142 (by decide) (fun hc142 => ?_) (fun hc142 => ?_)
  · rw [if_pos hc142] at h
    exact F_X7_step_192_ok X hr hlk v0 M _ h hK H locs ls O (lv_sub hl [0] rfl)
  rw [if_neg hc142] at h
  refine lv_aload_n hx hb dX7_step_145 rfl (lv_at hl 0 rfl) ?_
  obtain ⟨t30, ht30, h⟩ := Option.bind_eq_some_iff.mp h
  refine xr_getP X O ht30 fl_X7_9 dX7_step_146 ?_
  refine lv_aload_n hx hb dX7_step_149 rfl (lv_at hl 0 rfl) ?_
  obtain ⟨t31, ht31, h⟩ := Option.bind_eq_some_iff.mp h
  refine xr_getI X O ht31 fl_X7_77 (Or.inl rfl) dX7_step_150 ?_
  obtain ⟨t32, ht32, h⟩ := Option.bind_eq_some_iff.mp h
  refine xr_aldB X O ht32 dX7_step_153 ?_
  refine lv_bipush (v := (57 : Int32)) hx hb dX7_step_154 (by decide) ?_
  refine lv_icmp_gt (tgt := 192) hx hb dX7_step_156 (by decide) (fun hc156 => ?_) (fun hc156 => ?_)
  · rw [if_pos hc156] at h
    exact F_X7_step_192_ok X hr hlk v0 M _ h hK H locs ls O (lv_sub hl [0] rfl)
  rw [if_neg hc156] at h
  refine lv_aload_n hx hb dX7_step_159 rfl (lv_at hl 0 rfl) ?_
  refine lv_bipush (v := (48 : Int32)) hx hb dX7_step_160 (by decide) ?_
  refine lv_bipush (v := (57 : Int32)) hx hb dX7_step_162 (by decide) ?_
  obtain ⟨_, hut33, h⟩ := Option.bind_eq_some_iff.mp h
  obtain ⟨t34, ht34, h⟩ := Option.bind_eq_some_iff.mp h
  refine xr_callV (rest := []) X O (T_X7_pass l κ v0 (48 : Int32) (57 : Int32) M _ ht34) lk_X7_80 hut33 (Nat.le_of_ble_eq_true rfl) rfl hl.1 rfl (Nat.le_of_ble_eq_true rfl) dX7_step_164 ⟨Nat.le_of_ble_eq_true rfl, Nat.le_of_ble_eq_true rfl⟩ (fun H locs O => ?_)
  refine W.eq (g2 := F0 m 167 ls []) rfl ?_
  refine lv_aload_n hx hb dX7_step_167 rfl (lv_at hl 0 rfl) ?_
  refine lv_aload_n hx hb dX7_step_168 rfl (lv_at hl 0 rfl) ?_
  obtain ⟨t35, ht35, h⟩ := Option.bind_eq_some_iff.mp h
  refine xr_getI X O ht35 fl_X7_45 (Or.inl rfl) dX7_step_169 ?_
  refine lv_aload_n hx hb dX7_step_172 rfl (lv_at hl 0 rfl) ?_
  obtain ⟨t36, ht36, h⟩ := Option.bind_eq_some_iff.mp h
  refine xr_getI X O ht36 fl_X7_77 (Or.inl rfl) dX7_step_173 ?_
  refine lv_isub hx hb dX7_step_176 ?_
  refine lv_iconst (v := (3 : Int32)) hx hb dX7_step_177 (by decide) ?_
  refine lv_icmp_gt (tgt := 185) hx hb dX7_step_178 (by decide) (fun hc178 => ?_) (fun hc178 => ?_)
  · rw [if_pos hc178] at h
    refine lv_iconst (v := (1 : Int32)) hx hb dX7_step_185 (by decide) ?_
    exact F_X7_step_186_ok X hr hlk (1 : Int32) v0 t34 _ h hK H locs ls O (lv_sub hl [] rfl)
  rw [if_neg hc178] at h
  refine lv_iconst (v := (3 : Int32)) hx hb dX7_step_181 (by decide) ?_
  refine lv_goto (tgt := 186) hx hb dX7_step_182 (by decide) ?_
  exact F_X7_step_186_ok X hr hlk (3 : Int32) v0 t34 _ h hK H locs ls O (lv_sub hl [] rfl)
set_option maxRecDepth 100000 in
set_option maxHeartbeats 4000000 in
theorem F_X7_step_60_ok (X : xX p s m args c cX7_step 1 RX7 κ) (hr : meth.sig.returnType = none) (hlk : meth.locks = false) {mo : xM} (v0 : Nat) (M : xM) (x : xM) (h : F_X7_step_60 v0 M = some x) (hK : (fun o => o = mo) x) (H : Heap) (locs : List Loc) (ls : Array Slot) (O : xO κ s M H locs) (hl : lv_has ls 1 [(0, .ref (κ.1 + v0))]) : W p l e (xRm 6 0 0) s m args below meth c H locs 0 0 (xQf below args s 0 0 κ none mo) (F0 m 60 ls []) := by
  unfold F_X7_step_60 at h
  have hx := X.1
  have hb := X.2.1
  refine lv_aload_n hx hb dX7_step_60 rfl (lv_at hl 0 rfl) ?_
  refine lv_aload_n hx hb dX7_step_61 rfl (lv_at hl 0 rfl) ?_
  obtain ⟨t13, ht13, h⟩ := Option.bind_eq_some_iff.mp h
  refine xr_getI X O ht13 fl_X7_77 (Or.inl rfl) dX7_step_62 ?_
  obtain ⟨t14, ht14, h⟩ := Option.bind_eq_some_iff.mp h
  refine xr_putI X O ht14 fl_X7_45 dX7_step_65 (fun H locs O => ?_)
  refine lv_aload_n hx hb dX7_step_68 rfl (lv_at hl 0 rfl) ?_
  obtain ⟨t15, ht15, h⟩ := Option.bind_eq_some_iff.mp h
  refine xr_getI X O ht15 fl_X7_77 (Or.inl rfl) dX7_step_69 ?_
  refine lv_aload_n hx hb dX7_step_72 rfl (lv_at hl 0 rfl) ?_
  obtain ⟨t16, ht16, h⟩ := Option.bind_eq_some_iff.mp h
  refine xr_getI X O ht16 fl_X7_42 (Or.inl rfl) dX7_step_73 ?_
  refine lv_icmp_lt (tgt := 87) hx hb dX7_step_76 (by decide) (fun hc76 => ?_) (fun hc76 => ?_)
  · rw [if_pos hc76] at h
    refine lv_aload_n hx hb dX7_step_87 rfl (lv_at hl 0 rfl) ?_
    obtain ⟨t17, ht17, h⟩ := Option.bind_eq_some_iff.mp h
    refine xr_getP X O ht17 fl_X7_9 dX7_step_88 ?_
    refine lv_aload_n hx hb dX7_step_91 rfl (lv_at hl 0 rfl) ?_
    obtain ⟨t18, ht18, h⟩ := Option.bind_eq_some_iff.mp h
    refine xr_getI X O ht18 fl_X7_77 (Or.inl rfl) dX7_step_92 ?_
    obtain ⟨t19, ht19, h⟩ := Option.bind_eq_some_iff.mp h
    refine xr_aldB X O ht19 dX7_step_95 ?_
    refine lv_bipush (v := (97 : Int32)) hx hb dX7_step_96 (by decide) ?_
    refine lv_icmp_lt (tgt := 131) hx hb dX7_step_98 (by decide) (fun hc98 => ?_) (fun hc98 => ?_)
    · rw [if_pos hc98] at h
      exact F_X7_step_131_ok X hr hlk v0 t14 _ h hK H locs ls O (lv_sub hl [0] rfl)
    rw [if_neg hc98] at h
    refine lv_aload_n hx hb dX7_step_101 rfl (lv_at hl 0 rfl) ?_
    obtain ⟨t20, ht20, h⟩ := Option.bind_eq_some_iff.mp h
    refine xr_getP X O ht20 fl_X7_9 dX7_step_102 ?_
    refine lv_aload_n hx hb dX7_step_105 rfl (lv_at hl 0 rfl) ?_
    obtain ⟨t21, ht21, h⟩ := Option.bind_eq_some_iff.mp h
    refine xr_getI X O ht21 fl_X7_77 (Or.inl rfl) dX7_step_106 ?_
    obtain ⟨t22, ht22, h⟩ := Option.bind_eq_some_iff.mp h
    refine xr_aldB X O ht22 dX7_step_109 ?_
    refine lv_bipush (v := (122 : Int32)) hx hb dX7_step_110 (by decide) ?_
    refine lv_icmp_gt (tgt := 131) hx hb dX7_step_112 (by decide) (fun hc112 => ?_) (fun hc112 => ?_)
    · rw [if_pos hc112] at h
      exact F_X7_step_131_ok X hr hlk v0 t14 _ h hK H locs ls O (lv_sub hl [0] rfl)
    rw [if_neg hc112] at h
    refine lv_aload_n hx hb dX7_step_115 rfl (lv_at hl 0 rfl) ?_
    refine lv_bipush (v := (97 : Int32)) hx hb dX7_step_116 (by decide) ?_
    refine lv_bipush (v := (122 : Int32)) hx hb dX7_step_118 (by decide) ?_
    obtain ⟨_, hut23, h⟩ := Option.bind_eq_some_iff.mp h
    obtain ⟨t24, ht24, h⟩ := Option.bind_eq_some_iff.mp h
    refine xr_callV (rest := []) X O (T_X7_pass l κ v0 (97 : Int32) (122 : Int32) t14 _ ht24) lk_X7_80 hut23 (Nat.le_of_ble_eq_true rfl) rfl hl.1 rfl (Nat.le_of_ble_eq_true rfl) dX7_step_120 ⟨Nat.le_of_ble_eq_true rfl, Nat.le_of_ble_eq_true rfl⟩ (fun H locs O => ?_)
    refine W.eq (g2 := F0 m 123 ls []) rfl ?_
    refine lv_aload_n hx hb dX7_step_123 rfl (lv_at hl 0 rfl) ?_
    refine lv_iconst (v := (2 : Int32)) hx hb dX7_step_124 (by decide) ?_
    obtain ⟨t25, ht25, h⟩ := Option.bind_eq_some_iff.mp h
    refine xr_putI X O ht25 fl_X7_64 dX7_step_125 (fun H locs O => ?_)
    refine lv_goto (tgt := 233) hx hb dX7_step_128 (by decide) ?_
    rw [← Option.some.inj h] at hK
    have hK : t25 = mo := hK
    rw [hK] at O
    exact xr_vret X hr hlk O dX7_step_233
  rw [if_neg hc76] at h
  refine lv_aload_n hx hb dX7_step_79 rfl (lv_at hl 0 rfl) ?_
  refine lv_iconst (v := (0 : Int32)) hx hb dX7_step_80 (by decide) ?_
  obtain ⟨t26, ht26, h⟩ := Option.bind_eq_some_iff.mp h
  refine xr_putI X O ht26 fl_X7_64 dX7_step_81 (fun H locs O => ?_)
  refine lv_goto (tgt := 233) hx hb dX7_step_84 (by decide) ?_
  rw [← Option.some.inj h] at hK
  have hK : t26 = mo := hK
  rw [hK] at O
  exact xr_vret X hr hlk O dX7_step_233
set_option maxRecDepth 100000 in
set_option maxHeartbeats 4000000 in
theorem F_X7_step_8_bok (X : xX p s m args c cX7_step 1 RX7 κ) (hr : meth.sig.returnType = none) (hlk : meth.locks = false) {mo : xM} (v0 : Nat) {W8 : xM → Prop} (hW8 : ∀ (M : xM), W8 M → ∀ (H : Heap) (locs : List Loc) (ls : Array Slot), xO κ s M H locs → lv_has ls 1 [(0, .ref (κ.1 + v0))] → W p l e (xRm 6 0 0) s m args below meth c H locs 0 0 (xQf below args s 0 0 κ none mo) (F0 m 8 ls [])) (M : xM) (x : (xM) ⊕ (xM)) (h : F_X7_step_8b v0 M = some x) (hK : (xKl W8 (fun o => o = mo)) x) (H : Heap) (locs : List Loc) (ls : Array Slot) (O : xO κ s M H locs) (hl : lv_has ls 1 [(0, .ref (κ.1 + v0))]) : W p l e (xRm 6 0 0) s m args below meth c H locs 0 0 (xQf below args s 0 0 κ none mo) (F0 m 8 ls []) := by
  unfold F_X7_step_8b at h
  have hx := X.1
  have hb := X.2.1
  refine lv_aload_n hx hb dX7_step_8 rfl (lv_at hl 0 rfl) ?_
  obtain ⟨t3, ht3, h⟩ := Option.bind_eq_some_iff.mp h
  refine xr_getI X O ht3 fl_X7_77 (Or.inl rfl) dX7_step_9 ?_
  refine lv_aload_n hx hb dX7_step_12 rfl (lv_at hl 0 rfl) ?_
  obtain ⟨t4, ht4, h⟩ := Option.bind_eq_some_iff.mp h
  refine xr_getI X O ht4 fl_X7_42 (Or.inl rfl) dX7_step_13 ?_
  refine lv_icmp_ge (tgt := 60) hx hb dX7_step_16 (by decide) (fun hc16 => ?_) (fun hc16 => ?_)
  · rw [if_pos hc16] at h
    obtain ⟨_, hw0, ew0⟩ := Option.map_eq_some_iff.mp h
    rw [← ew0] at hK
    have h := hw0
    exact F_X7_step_60_ok X hr hlk v0 M _ h hK H locs ls O (lv_sub hl [0] rfl)
  rw [if_neg hc16] at h
  refine lv_aload_n hx hb dX7_step_19 rfl (lv_at hl 0 rfl) ?_
  obtain ⟨t5, ht5, h⟩ := Option.bind_eq_some_iff.mp h
  refine xr_getP X O ht5 fl_X7_9 dX7_step_20 ?_
  refine lv_aload_n hx hb dX7_step_23 rfl (lv_at hl 0 rfl) ?_
  obtain ⟨t6, ht6, h⟩ := Option.bind_eq_some_iff.mp h
  refine xr_getI X O ht6 fl_X7_77 (Or.inl rfl) dX7_step_24 ?_
  obtain ⟨t7, ht7, h⟩ := Option.bind_eq_some_iff.mp h
  refine xr_aldB X O ht7 dX7_step_27 ?_
  refine lv_bipush (v := (10 : Int32)) hx hb dX7_step_28 (by decide) ?_
  refine lv_icmp_eq (tgt := 47) hx hb dX7_step_30 (by decide) (fun hc30 => ?_) (fun hc30 => ?_)
  · rw [if_pos hc30] at h
    exact F_X7_step_47_ok X hr hlk v0 hW8 M _ h hK H locs ls O (lv_sub hl [0] rfl)
  rw [if_neg hc30] at h
  refine lv_aload_n hx hb dX7_step_33 rfl (lv_at hl 0 rfl) ?_
  obtain ⟨t8, ht8, h⟩ := Option.bind_eq_some_iff.mp h
  refine xr_getP X O ht8 fl_X7_9 dX7_step_34 ?_
  refine lv_aload_n hx hb dX7_step_37 rfl (lv_at hl 0 rfl) ?_
  obtain ⟨t9, ht9, h⟩ := Option.bind_eq_some_iff.mp h
  refine xr_getI X O ht9 fl_X7_77 (Or.inl rfl) dX7_step_38 ?_
  obtain ⟨t10, ht10, h⟩ := Option.bind_eq_some_iff.mp h
  refine xr_aldB X O ht10 dX7_step_41 ?_
  refine lv_bipush (v := (32 : Int32)) hx hb dX7_step_42 (by decide) ?_
  refine lv_icmp_ne (tgt := 60) hx hb dX7_step_44 (by decide) (fun hc44 => ?_) (fun hc44 => ?_)
  · rw [if_neg hc44] at h
    obtain ⟨_, hw0, ew0⟩ := Option.map_eq_some_iff.mp h
    rw [← ew0] at hK
    have h := hw0
    exact F_X7_step_60_ok X hr hlk v0 M _ h hK H locs ls O (lv_sub hl [0] rfl)
  rw [if_pos hc44] at h
  exact F_X7_step_47_ok X hr hlk v0 hW8 M _ h hK H locs ls O (lv_sub hl [0] rfl)
set_option maxRecDepth 100000 in
set_option maxHeartbeats 4000000 in
theorem F_X7_step_8_ok (X : xX p s m args c cX7_step 1 RX7 κ) (hr : meth.sig.returnType = none) (hlk : meth.locks = false) {mo : xM} (v0 : Nat) (M : xM) (x : xM) (h : F_X7_step_8 v0 M = some x) (hK : (fun o => o = mo) x) (H : Heap) (locs : List Loc) (ls : Array Slot) (O : xO κ s M H locs) (hl : lv_has ls 1 [(0, .ref (κ.1 + v0))]) : W p l e (xRm 6 0 0) s m args below meth c H locs 0 0 (xQf below args s 0 0 κ none mo) (F0 m 8 ls []) := by
  refine xit_K (Wh := fun x => ∀ (H : Heap) (locs : List Loc) (ls : Array Slot), xO κ s x H locs → lv_has ls 1 [(0, .ref (κ.1 + v0))] → W p l e (xRm 6 0 0) s m args below meth c H locs 0 0 (xQf below args s 0 0 κ none mo) (F0 m 8 ls [])) (Kp := (fun o => o = mo)) ?_ xFU M x h hK H locs ls O hl
  intro y x h hK H locs ls O hl
  exact F_X7_step_8_bok X hr hlk v0 (fun  _ hw => hw) y x h hK H locs ls O hl
set_option maxRecDepth 100000 in
set_option maxHeartbeats 4000000 in
theorem T_X7_step (l : Launch) (κ : xQ) (a0 : Nat) (M : xM) (mo : xM) (h : F_X7_step a0 M = some mo) : xC l yX7_step cX7_step 1 none 6 0 0 κ [.ref (κ.1 + a0)] M none mo := by
  refine xC_of rfl (Nat.le_of_ble_eq_true rfl) fun p e s m args below meth c X hr hlk hnm H locs ls O hl => ?_
  have X : xX p s m args c cX7_step 1 RX7 κ := X
  have hl : lv_has ls 1 [(0, .ref (κ.1 + a0))] := hl
  have hx := X.1
  have hb := X.2.1
  obtain ⟨x, hx0⟩ : ∃ x, mo = x := ⟨_, rfl⟩
  rw [hx0] at h
  have hK : x = mo := hx0.symm
  unfold F_X7_step at h
  refine lv_aload_n hx hb dX7_step_0 rfl (lv_at hl 0 rfl) ?_
  refine lv_aload_n hx hb dX7_step_1 rfl (lv_at hl 0 rfl) ?_
  obtain ⟨t1, ht1, h⟩ := Option.bind_eq_some_iff.mp h
  refine xr_getI X O ht1 fl_X7_45 (Or.inl rfl) dX7_step_2 ?_
  obtain ⟨t2, ht2, h⟩ := Option.bind_eq_some_iff.mp h
  refine xr_putI X O ht2 fl_X7_77 dX7_step_5 (fun H locs O => ?_)
  exact F_X7_step_8_ok X hr hlk a0 t2 _ h hK H locs ls O (lv_sub hl [0] rfl)
def F_J1_charAt_3b067 (a0 : Nat) (a1 : Int32) (M : xM) : Option (Int32 × xM) :=
(xsl a0).bind fun t1 =>
(F_J0_checkIndex_df160 a1 t1 M).bind fun t2 =>
(xsb a0 a1).bind fun t3 =>
(xzc ((t3 &&& (255 : Int32)).toUInt32 % 65536).toInt32).bind fun t4 =>
some (t4, t2)
set_option maxRecDepth 100000 in
set_option maxHeartbeats 4000000 in
theorem T_J1_charAt_3b067 (l : Launch) (κ : xQ) (a0 : Nat) (a1 : Int32) (M : xM) (ro : Int32) (mo : xM) (h : F_J1_charAt_3b067 a0 a1 M = some (ro, mo)) : xC l yJ1_charAt_3b067 cJ1_charAt_3b067 2 (some .char) 4 0 0 κ [.ref (κ.2.2.2.2 a0), .int a1] M (some (.int ro)) mo := by
  refine xC_ofF (by decide +kernel) (Nat.le_of_ble_eq_true rfl) fun p e s m args below meth c X hr hlk hnm H locs ls O hl => ?_
  have X : xX p s m args c cJ1_charAt_3b067 2 RJ1 κ := X
  have hl : lv_has ls 2 [(0, .ref (κ.2.2.2.2 a0)), (1, .int a1)] := hl
  have hx := X.1
  have hb := X.2.1
  obtain ⟨x, hx0⟩ : ∃ x, (ro, mo) = x := ⟨_, rfl⟩
  rw [hx0] at h
  have hK : x = (ro, mo) := hx0.symm
  unfold F_J1_charAt_3b067 at h
  refine lv_iload_n hx hb dJ1_charAt_3b067_0 rfl (lv_at hl 1 rfl) ?_
  refine lv_aload_n hx hb dJ1_charAt_3b067_1 rfl (lv_at hl 0 rfl) ?_
  obtain ⟨t1, ht1, h⟩ := Option.bind_eq_some_iff.mp h
  refine xr_slen X O ht1 dJ1_charAt_3b067_2 ?_
  obtain ⟨t2, ht2, h⟩ := Option.bind_eq_some_iff.mp h
  refine xr_callS (rest := []) X O (T_J0_checkIndex_df160 l κ a1 t1 M _ ht2) lk_J1_9 (Nat.le_of_ble_eq_true rfl) rfl hl.1 rfl (Nat.le_of_ble_eq_true rfl) dJ1_charAt_3b067_3 ⟨Nat.le_of_ble_eq_true rfl, Nat.le_of_ble_eq_true rfl⟩ (fun H locs O => ?_)
  refine W.eq (g2 := F0 m 6 ls []) rfl ?_
  refine lv_aload_n hx hb dJ1_charAt_3b067_6 rfl (lv_at hl 0 rfl) ?_
  refine lv_iload_n hx hb dJ1_charAt_3b067_7 rfl (lv_at hl 1 rfl) ?_
  obtain ⟨t3, ht3, h⟩ := Option.bind_eq_some_iff.mp h
  refine xr_sbal X O ht3 dJ1_charAt_3b067_8 ?_
  refine lv_sipush (v := (255 : Int32)) hx hb dJ1_charAt_3b067_9 (by decide) ?_
  refine lv_iand hx hb dJ1_charAt_3b067_12 ?_
  refine lv_i2c (v := ((t3 &&& (255 : Int32)).toUInt32 % 65536).toInt32) hx hb dJ1_charAt_3b067_13 rfl ?_
  obtain ⟨t4, ht4, h⟩ := Option.bind_eq_some_iff.mp h
  rw [← Option.some.inj h] at hK
  have hK : (t4, t2) = (ro, mo) := hK
  obtain ⟨hK1, hK2⟩ := Prod.mk.inj hK
  rw [hK1] at ht4
  rw [hK2] at O
  exact xr_cret X hr hlk O ht4 dJ1_charAt_3b067_14
def F_J0_charAt_5068e (a0 : Nat) (a1 : Int32) (M : xM) : Option (Int32 × xM) :=
(xso a0).bind fun _ =>
(F_J0_isLatin1_aae02 a0 M).bind fun t2 =>
if t2.1 = 0 then (
none)
else (
(xso a0).bind fun t3 =>
(F_J1_charAt_3b067 a0 a1 t2.2).bind fun t4 =>
(xzc t4.1).bind fun t5 =>
some (t5, t4.2))
set_option maxRecDepth 100000 in
set_option maxHeartbeats 4000000 in
theorem T_J0_charAt_5068e (l : Launch) (κ : xQ) (a0 : Nat) (a1 : Int32) (M : xM) (ro : Int32) (mo : xM) (h : F_J0_charAt_5068e a0 a1 M = some (ro, mo)) : xC l yJ0_charAt_5068e cJ0_charAt_5068e 2 (some .char) 5 0 0 κ [.ref (κ.2.2.2.1 a0), .int a1] M (some (.int ro)) mo := by
  refine xC_ofF (by decide +kernel) (Nat.le_of_ble_eq_true rfl) fun p e s m args below meth c X hr hlk hnm H locs ls O hl => ?_
  have X : xX p s m args c cJ0_charAt_5068e 2 RJ0 κ := X
  have hl : lv_has ls 2 [(0, .ref (κ.2.2.2.1 a0)), (1, .int a1)] := hl
  have hx := X.1
  have hb := X.2.1
  obtain ⟨x, hx0⟩ : ∃ x, (ro, mo) = x := ⟨_, rfl⟩
  rw [hx0] at h
  have hK : x = (ro, mo) := hx0.symm
  unfold F_J0_charAt_5068e at h
  refine lv_aload_n hx hb dJ0_charAt_5068e_0 rfl (lv_at hl 0 rfl) ?_
  obtain ⟨_, hut1, h⟩ := Option.bind_eq_some_iff.mp h
  obtain ⟨t2, ht2, h⟩ := Option.bind_eq_some_iff.mp h
  refine xr_callT (i := a0) (rest := []) X O (T_J0_isLatin1_aae02 l κ a0 M _ _ ht2) lk_J0_492 hut1 (Nat.le_of_ble_eq_true rfl) rfl hl.1 rfl (Nat.le_of_ble_eq_true rfl) dJ0_charAt_5068e_1 ⟨Nat.le_of_ble_eq_true rfl, Nat.le_of_ble_eq_true rfl⟩ (fun H locs O => ?_)
  refine W.eq (g2 := F0 m 4 ls [.int t2.1]) rfl ?_
  refine lv_if_eq (tgt := 16) hx hb dJ0_charAt_5068e_4 (by decide) (fun hc4 => ?_) (fun hc4 => ?_)
  · rw [if_pos hc4] at h
    cases h
  rw [if_neg hc4] at h
  refine lv_aload_n hx hb dJ0_charAt_5068e_7 rfl (lv_at hl 0 rfl) ?_
  obtain ⟨t3, ht3, h⟩ := Option.bind_eq_some_iff.mp h
  refine xr_sval X O ht3 fj_J0_9 dJ0_charAt_5068e_8 ?_
  refine lv_iload_n hx hb dJ0_charAt_5068e_11 rfl (lv_at hl 1 rfl) ?_
  obtain ⟨t4, ht4, h⟩ := Option.bind_eq_some_iff.mp h
  refine xr_callS (rest := []) X O (T_J1_charAt_3b067 l κ a0 a1 t2.2 _ _ ht4) lk_J0_495 (Nat.le_of_ble_eq_true rfl) rfl hl.1 rfl (Nat.le_of_ble_eq_true rfl) dJ0_charAt_5068e_12 ⟨Nat.le_of_ble_eq_true rfl, Nat.le_of_ble_eq_true rfl⟩ (fun H locs O => ?_)
  refine W.eq (g2 := F0 m 15 ls [.int t4.1]) rfl ?_
  obtain ⟨t5, ht5, h⟩ := Option.bind_eq_some_iff.mp h
  rw [← Option.some.inj h] at hK
  have hK : (t5, t4.2) = (ro, mo) := hK
  obtain ⟨hK1, hK2⟩ := Prod.mk.inj hK
  rw [hK1] at ht5
  rw [hK2] at O
  exact xr_cret X hr hlk O ht5 dJ0_charAt_5068e_15
def F_X7_atWord_68 (M : xM) : Option (Int32 × xM) :=
(xz (0 : Int32)).bind fun t18 =>
some (t18, M)
def F_X7_atWord_76 (M : xM) : Option (Int32 × xM) :=
(xz (1 : Int32)).bind fun t17 =>
some (t17, M)
def F_X7_atWord_28b (v0 : Nat) (v1 : Nat) : (Int32 × xM) → Option ((Int32 × xM) ⊕ (Int32 × xM)) := fun ⟨v2, M⟩ =>
(xso v1).bind fun _ =>
(F_J0_length_8abf5 v1 M).bind fun t9 =>
if t9.1 ≤ v2 then (
(F_X7_atWord_76 t9.2).map Sum.inr)
else (
(xgI t9.2 v0 7 6).bind fun t10 =>
(xgI t9.2 v0 7 5).bind fun t11 =>
if t11 ≤ (t10 + v2) then (
(F_X7_atWord_76 t9.2).map Sum.inr)
else (
(xgP t9.2 v0 7 4).bind fun t12 =>
(xgI t9.2 v0 7 6).bind fun t13 =>
(xaI t9.2 21 t12 (t13 + v2)).bind fun t14 =>
(xso v1).bind fun _ =>
(F_J0_charAt_5068e v1 v2 t9.2).bind fun t16 =>
if t14 = t16.1 then (
some (.inl ((v2 + 1), t16.2)))
else (
(F_X7_atWord_68 t16.2).map Sum.inr)))
def F_X7_atWord_28 (v0 : Nat) (v1 : Nat) (v2 : Int32) (M : xM) : Option (Int32 × xM) := xit (F_X7_atWord_28b v0 v1) xFU (v2, M)
def F_X7_atWord (a0 : Nat) (a1 : Nat) (M : xM) : Option (Int32 × xM) :=
(xgI M a0 7 8).bind fun t1 =>
if t1 = (2 : Int32) then (
(xgI M a0 7 7).bind fun t3 =>
(xgI M a0 7 6).bind fun t4 =>
(xso a1).bind fun _ =>
(F_J0_length_8abf5 a1 M).bind fun t6 =>
if (t3 - t4) = t6.1 then (
F_X7_atWord_28 a0 a1 (0 : Int32) t6.2)
else (
(xz (0 : Int32)).bind fun t7 =>
some (t7, t6.2)))
else (
(xz (0 : Int32)).bind fun t2 =>
some (t2, M))
set_option maxRecDepth 100000 in
set_option maxHeartbeats 4000000 in
theorem F_X7_atWord_68_ok (X : xX p s m args c cX7_atWord 3 RX7 κ) (hr : meth.sig.returnType = (some .boolean)) (hlk : meth.locks = false) {ro : Int32} {mo : xM} (M : xM) (x : Int32 × xM) (h : F_X7_atWord_68 M = some x) (hK : (fun o => o = (ro, mo)) x) (H : Heap) (locs : List Loc) (ls : Array Slot) (O : xO κ s M H locs) (hl : lv_has ls 3 []) : W p l e (xRm 6 0 0) s m args below meth c H locs 0 0 (xQf below args s 0 0 κ (some (.int ro)) mo) (F0 m 68 ls []) := by
  unfold F_X7_atWord_68 at h
  have hx := X.1
  have hb := X.2.1
  refine lv_iconst (v := (0 : Int32)) hx hb dX7_atWord_68 (by decide) ?_
  obtain ⟨t18, ht18, h⟩ := Option.bind_eq_some_iff.mp h
  rw [← Option.some.inj h] at hK
  have hK : (t18, M) = (ro, mo) := hK
  obtain ⟨hK1, hK2⟩ := Prod.mk.inj hK
  rw [hK1] at ht18
  rw [hK2] at O
  exact xr_zret X hr hlk O ht18 dX7_atWord_69
set_option maxRecDepth 100000 in
set_option maxHeartbeats 4000000 in
theorem F_X7_atWord_76_ok (X : xX p s m args c cX7_atWord 3 RX7 κ) (hr : meth.sig.returnType = (some .boolean)) (hlk : meth.locks = false) {ro : Int32} {mo : xM} (M : xM) (x : Int32 × xM) (h : F_X7_atWord_76 M = some x) (hK : (fun o => o = (ro, mo)) x) (H : Heap) (locs : List Loc) (ls : Array Slot) (O : xO κ s M H locs) (hl : lv_has ls 3 []) : W p l e (xRm 6 0 0) s m args below meth c H locs 0 0 (xQf below args s 0 0 κ (some (.int ro)) mo) (F0 m 76 ls []) := by
  unfold F_X7_atWord_76 at h
  have hx := X.1
  have hb := X.2.1
  refine lv_iconst (v := (1 : Int32)) hx hb dX7_atWord_76 (by decide) ?_
  obtain ⟨t17, ht17, h⟩ := Option.bind_eq_some_iff.mp h
  rw [← Option.some.inj h] at hK
  have hK : (t17, M) = (ro, mo) := hK
  obtain ⟨hK1, hK2⟩ := Prod.mk.inj hK
  rw [hK1] at ht17
  rw [hK2] at O
  exact xr_zret X hr hlk O ht17 dX7_atWord_77
set_option maxRecDepth 100000 in
set_option maxHeartbeats 4000000 in
theorem F_X7_atWord_28_bok (X : xX p s m args c cX7_atWord 3 RX7 κ) (hr : meth.sig.returnType = (some .boolean)) (hlk : meth.locks = false) {ro : Int32} {mo : xM} (v0 : Nat) (v1 : Nat) (v2 : Int32) {W28 : Int32 × xM → Prop} (hW28 : ∀ (v2 : Int32) (M : xM), W28 (v2, M) → ∀ (H : Heap) (locs : List Loc) (ls : Array Slot), xO κ s M H locs → lv_has ls 3 [(0, .ref (κ.1 + v0)), (1, .ref (κ.2.2.2.1 v1)), (2, .int v2)] → W p l e (xRm 6 0 0) s m args below meth c H locs 0 0 (xQf below args s 0 0 κ (some (.int ro)) mo) (F0 m 28 ls [])) (M : xM) (x : (Int32 × xM) ⊕ (Int32 × xM)) (h : F_X7_atWord_28b v0 v1 (v2, M) = some x) (hK : (xKl W28 (fun o => o = (ro, mo))) x) (H : Heap) (locs : List Loc) (ls : Array Slot) (O : xO κ s M H locs) (hl : lv_has ls 3 [(0, .ref (κ.1 + v0)), (1, .ref (κ.2.2.2.1 v1)), (2, .int v2)]) : W p l e (xRm 6 0 0) s m args below meth c H locs 0 0 (xQf below args s 0 0 κ (some (.int ro)) mo) (F0 m 28 ls []) := by
  unfold F_X7_atWord_28b at h
  dsimp only at h
  have hx := X.1
  have hb := X.2.1
  refine lv_iload_n hx hb dX7_atWord_28 rfl (lv_at hl 2 rfl) ?_
  refine lv_aload_n hx hb dX7_atWord_29 rfl (lv_at hl 1 rfl) ?_
  obtain ⟨_, hut8, h⟩ := Option.bind_eq_some_iff.mp h
  obtain ⟨t9, ht9, h⟩ := Option.bind_eq_some_iff.mp h
  refine xr_callT (i := v1) (rest := [.int v2]) X O (T_J0_length_8abf5 l κ v1 M _ _ ht9) lk_X7_92 hut8 (Nat.le_of_ble_eq_true rfl) rfl hl.1 rfl (Nat.le_of_ble_eq_true rfl) dX7_atWord_30 ⟨Nat.le_of_ble_eq_true rfl, Nat.le_of_ble_eq_true rfl⟩ (fun H locs O => ?_)
  refine W.eq (g2 := F0 m 33 ls [.int t9.1, .int v2]) rfl ?_
  refine lv_icmp_ge (tgt := 76) hx hb dX7_atWord_33 (by decide) (fun hc33 => ?_) (fun hc33 => ?_)
  · rw [if_pos hc33] at h
    obtain ⟨_, hw0, ew0⟩ := Option.map_eq_some_iff.mp h
    rw [← ew0] at hK
    have h := hw0
    exact F_X7_atWord_76_ok X hr hlk  t9.2 _ h hK H locs ls O (lv_sub hl [] rfl)
  rw [if_neg hc33] at h
  refine lv_aload_n hx hb dX7_atWord_36 rfl (lv_at hl 0 rfl) ?_
  obtain ⟨t10, ht10, h⟩ := Option.bind_eq_some_iff.mp h
  refine xr_getI X O ht10 fl_X7_77 (Or.inl rfl) dX7_atWord_37 ?_
  refine lv_iload_n hx hb dX7_atWord_40 rfl (lv_at hl 2 rfl) ?_
  refine lv_iadd hx hb dX7_atWord_41 ?_
  refine lv_aload_n hx hb dX7_atWord_42 rfl (lv_at hl 0 rfl) ?_
  obtain ⟨t11, ht11, h⟩ := Option.bind_eq_some_iff.mp h
  refine xr_getI X O ht11 fl_X7_42 (Or.inl rfl) dX7_atWord_43 ?_
  refine lv_icmp_ge (tgt := 76) hx hb dX7_atWord_46 (by decide) (fun hc46 => ?_) (fun hc46 => ?_)
  · rw [if_pos hc46] at h
    obtain ⟨_, hw0, ew0⟩ := Option.map_eq_some_iff.mp h
    rw [← ew0] at hK
    have h := hw0
    exact F_X7_atWord_76_ok X hr hlk  t9.2 _ h hK H locs ls O (lv_sub hl [] rfl)
  rw [if_neg hc46] at h
  refine lv_aload_n hx hb dX7_atWord_49 rfl (lv_at hl 0 rfl) ?_
  obtain ⟨t12, ht12, h⟩ := Option.bind_eq_some_iff.mp h
  refine xr_getP X O ht12 fl_X7_9 dX7_atWord_50 ?_
  refine lv_aload_n hx hb dX7_atWord_53 rfl (lv_at hl 0 rfl) ?_
  obtain ⟨t13, ht13, h⟩ := Option.bind_eq_some_iff.mp h
  refine xr_getI X O ht13 fl_X7_77 (Or.inl rfl) dX7_atWord_54 ?_
  refine lv_iload_n hx hb dX7_atWord_57 rfl (lv_at hl 2 rfl) ?_
  refine lv_iadd hx hb dX7_atWord_58 ?_
  obtain ⟨t14, ht14, h⟩ := Option.bind_eq_some_iff.mp h
  refine xr_aldB X O ht14 dX7_atWord_59 ?_
  refine lv_aload_n hx hb dX7_atWord_60 rfl (lv_at hl 1 rfl) ?_
  refine lv_iload_n hx hb dX7_atWord_61 rfl (lv_at hl 2 rfl) ?_
  obtain ⟨_, hut15, h⟩ := Option.bind_eq_some_iff.mp h
  obtain ⟨t16, ht16, h⟩ := Option.bind_eq_some_iff.mp h
  refine xr_callT (i := v1) (rest := [.int t14]) X O (T_J0_charAt_5068e l κ v1 v2 t9.2 _ _ ht16) lk_X7_95 hut15 (Nat.le_of_ble_eq_true rfl) rfl hl.1 rfl (Nat.le_of_ble_eq_true rfl) dX7_atWord_62 ⟨Nat.le_of_ble_eq_true rfl, Nat.le_of_ble_eq_true rfl⟩ (fun H locs O => ?_)
  refine W.eq (g2 := F0 m 65 ls [.int t16.1, .int t14]) rfl ?_
  refine lv_icmp_eq (tgt := 70) hx hb dX7_atWord_65 (by decide) (fun hc65 => ?_) (fun hc65 => ?_)
  · rw [if_pos hc65] at h
    refine lv_iinc (v := (v2 + 1)) (lv' := [(2, .int (v2 + 1)), (0, .ref (κ.1 + v0)), (1, .ref (κ.2.2.2.1 v1))]) hx hb dX7_atWord_70 hl (k := 2) rfl rfl (by decide) rfl (fun ls hl => ?_)
    refine lv_goto (tgt := 28) hx hb dX7_atWord_73 (by decide) ?_
    rw [← Option.some.inj h] at hK
    exact hW28 (v2 + 1) t16.2 hK H locs ls O (lv_sub hl [1, 2, 0] rfl)
  rw [if_neg hc65] at h
  obtain ⟨_, hw0, ew0⟩ := Option.map_eq_some_iff.mp h
  rw [← ew0] at hK
  have h := hw0
  exact F_X7_atWord_68_ok X hr hlk  t16.2 _ h hK H locs ls O (lv_sub hl [] rfl)
set_option maxRecDepth 100000 in
set_option maxHeartbeats 4000000 in
theorem F_X7_atWord_28_ok (X : xX p s m args c cX7_atWord 3 RX7 κ) (hr : meth.sig.returnType = (some .boolean)) (hlk : meth.locks = false) {ro : Int32} {mo : xM} (v0 : Nat) (v1 : Nat) (v2 : Int32) (M : xM) (x : Int32 × xM) (h : F_X7_atWord_28 v0 v1 v2 M = some x) (hK : (fun o => o = (ro, mo)) x) (H : Heap) (locs : List Loc) (ls : Array Slot) (O : xO κ s M H locs) (hl : lv_has ls 3 [(0, .ref (κ.1 + v0)), (1, .ref (κ.2.2.2.1 v1)), (2, .int v2)]) : W p l e (xRm 6 0 0) s m args below meth c H locs 0 0 (xQf below args s 0 0 κ (some (.int ro)) mo) (F0 m 28 ls []) := by
  refine xit_K (Wh := fun x => ∀ (H : Heap) (locs : List Loc) (ls : Array Slot), xO κ s x.2 H locs → lv_has ls 3 [(0, .ref (κ.1 + v0)), (1, .ref (κ.2.2.2.1 v1)), (2, .int x.1)] → W p l e (xRm 6 0 0) s m args below meth c H locs 0 0 (xQf below args s 0 0 κ (some (.int ro)) mo) (F0 m 28 ls [])) (Kp := (fun o => o = (ro, mo))) ?_ xFU (v2, M) x h hK H locs ls O hl
  intro y x h hK H locs ls O hl
  exact F_X7_atWord_28_bok X hr hlk v0 v1 y.1 (fun _ _ hw => hw) y.2 x h hK H locs ls O hl
set_option maxRecDepth 100000 in
set_option maxHeartbeats 4000000 in
theorem T_X7_atWord (l : Launch) (κ : xQ) (a0 : Nat) (a1 : Nat) (M : xM) (ro : Int32) (mo : xM) (h : F_X7_atWord a0 a1 M = some (ro, mo)) : xC l yX7_atWord cX7_atWord 3 (some .boolean) 6 0 0 κ [.ref (κ.1 + a0), .ref (κ.2.2.2.1 a1)] M (some (.int ro)) mo := by
  refine xC_of rfl (Nat.le_of_ble_eq_true rfl) fun p e s m args below meth c X hr hlk hnm H locs ls O hl => ?_
  have X : xX p s m args c cX7_atWord 3 RX7 κ := X
  have hl : lv_has ls 3 [(0, .ref (κ.1 + a0)), (1, .ref (κ.2.2.2.1 a1))] := hl
  have hx := X.1
  have hb := X.2.1
  obtain ⟨x, hx0⟩ : ∃ x, (ro, mo) = x := ⟨_, rfl⟩
  rw [hx0] at h
  have hK : x = (ro, mo) := hx0.symm
  unfold F_X7_atWord at h
  refine lv_aload_n hx hb dX7_atWord_0 rfl (lv_at hl 0 rfl) ?_
  obtain ⟨t1, ht1, h⟩ := Option.bind_eq_some_iff.mp h
  refine xr_getI X O ht1 fl_X7_64 (Or.inl rfl) dX7_atWord_1 ?_
  refine lv_iconst (v := (2 : Int32)) hx hb dX7_atWord_4 (by decide) ?_
  refine lv_icmp_ne (tgt := 24) hx hb dX7_atWord_5 (by decide) (fun hc5 => ?_) (fun hc5 => ?_)
  · rw [if_neg hc5] at h
    refine lv_iconst (v := (0 : Int32)) hx hb dX7_atWord_24 (by decide) ?_
    obtain ⟨t2, ht2, h⟩ := Option.bind_eq_some_iff.mp h
    rw [← Option.some.inj h] at hK
    have hK : (t2, M) = (ro, mo) := hK
    obtain ⟨hK1, hK2⟩ := Prod.mk.inj hK
    rw [hK1] at ht2
    rw [hK2] at O
    exact xr_zret X hr hlk O ht2 dX7_atWord_25
  rw [if_pos hc5] at h
  refine lv_aload_n hx hb dX7_atWord_8 rfl (lv_at hl 0 rfl) ?_
  obtain ⟨t3, ht3, h⟩ := Option.bind_eq_some_iff.mp h
  refine xr_getI X O ht3 fl_X7_45 (Or.inl rfl) dX7_atWord_9 ?_
  refine lv_aload_n hx hb dX7_atWord_12 rfl (lv_at hl 0 rfl) ?_
  obtain ⟨t4, ht4, h⟩ := Option.bind_eq_some_iff.mp h
  refine xr_getI X O ht4 fl_X7_77 (Or.inl rfl) dX7_atWord_13 ?_
  refine lv_isub hx hb dX7_atWord_16 ?_
  refine lv_aload_n hx hb dX7_atWord_17 rfl (lv_at hl 1 rfl) ?_
  obtain ⟨_, hut5, h⟩ := Option.bind_eq_some_iff.mp h
  obtain ⟨t6, ht6, h⟩ := Option.bind_eq_some_iff.mp h
  refine xr_callT (i := a1) (rest := [.int (t3 - t4)]) X O (T_J0_length_8abf5 l κ a1 M _ _ ht6) lk_X7_92 hut5 (Nat.le_of_ble_eq_true rfl) rfl hl.1 rfl (Nat.le_of_ble_eq_true rfl) dX7_atWord_18 ⟨Nat.le_of_ble_eq_true rfl, Nat.le_of_ble_eq_true rfl⟩ (fun H locs O => ?_)
  refine W.eq (g2 := F0 m 21 ls [.int t6.1, .int (t3 - t4)]) rfl ?_
  refine lv_icmp_eq (tgt := 26) hx hb dX7_atWord_21 (by decide) (fun hc21 => ?_) (fun hc21 => ?_)
  · rw [if_pos hc21] at h
    refine lv_iconst (v := (0 : Int32)) hx hb dX7_atWord_26 (by decide) ?_
    refine lv_istore_n (lv' := [(2, .int (0 : Int32)), (0, .ref (κ.1 + a0)), (1, .ref (κ.2.2.2.1 a1))]) hx hb dX7_atWord_27 rfl hl (by decide) rfl (fun ls hl => ?_)
    exact F_X7_atWord_28_ok X hr hlk a0 a1 (0 : Int32) t6.2 _ h hK H locs ls O (lv_sub hl [1, 2, 0] rfl)
  rw [if_neg hc21] at h
  refine lv_iconst (v := (0 : Int32)) hx hb dX7_atWord_24 (by decide) ?_
  obtain ⟨t7, ht7, h⟩ := Option.bind_eq_some_iff.mp h
  rw [← Option.some.inj h] at hK
  have hK : (t7, t6.2) = (ro, mo) := hK
  obtain ⟨hK1, hK2⟩ := Prod.mk.inj hK
  rw [hK1] at ht7
  rw [hK2] at O
  exact xr_zret X hr hlk O ht7 dX7_atWord_25
def F_X7_fail_21 (v0 : Nat) (s0 : Int32) (s1 : Nat) (M : xM) : Option (xM) :=
(xpI M s1 7 2 s0).bind fun t3 =>
(xgI t3 v0 7 6).bind fun t4 =>
(xpI t3 v0 7 3 t4).bind fun t5 =>
some t5
def F_X7_fail (a0 : Nat) (a1 : Int32) (M : xM) : Option (xM) :=
(xgI M a0 7 2).bind fun t1 =>
if t1 = 0 then (
(xgI M a0 7 8).bind fun t2 =>
if t2 = (1 : Int32) then (
F_X7_fail_21 a0 (1 : Int32) a0 M)
else (
F_X7_fail_21 a0 a1 a0 M))
else (
some M)
set_option maxRecDepth 100000 in
set_option maxHeartbeats 4000000 in
theorem F_X7_fail_21_ok (X : xX p s m args c cX7_fail 2 RX7 κ) (hr : meth.sig.returnType = none) (hlk : meth.locks = false) {mo : xM} (v0 : Nat) (s0 : Int32) (s1 : Nat) (M : xM) (x : xM) (h : F_X7_fail_21 v0 s0 s1 M = some x) (hK : (fun o => o = mo) x) (H : Heap) (locs : List Loc) (ls : Array Slot) (O : xO κ s M H locs) (hl : lv_has ls 2 [(0, .ref (κ.1 + v0))]) : W p l e (xRm 2 0 0) s m args below meth c H locs 0 0 (xQf below args s 0 0 κ none mo) (F0 m 21 ls [.int s0, .ref (κ.1 + s1)]) := by
  unfold F_X7_fail_21 at h
  have hx := X.1
  have hb := X.2.1
  obtain ⟨t3, ht3, h⟩ := Option.bind_eq_some_iff.mp h
  refine xr_putI X O ht3 fl_X7_48 dX7_fail_21 (fun H locs O => ?_)
  refine lv_aload_n hx hb dX7_fail_24 rfl (lv_at hl 0 rfl) ?_
  refine lv_aload_n hx hb dX7_fail_25 rfl (lv_at hl 0 rfl) ?_
  obtain ⟨t4, ht4, h⟩ := Option.bind_eq_some_iff.mp h
  refine xr_getI X O ht4 fl_X7_77 (Or.inl rfl) dX7_fail_26 ?_
  obtain ⟨t5, ht5, h⟩ := Option.bind_eq_some_iff.mp h
  refine xr_putI X O ht5 fl_X7_15 dX7_fail_29 (fun H locs O => ?_)
  rw [← Option.some.inj h] at hK
  have hK : t5 = mo := hK
  rw [hK] at O
  exact xr_vret X hr hlk O dX7_fail_32
set_option maxRecDepth 100000 in
set_option maxHeartbeats 4000000 in
theorem T_X7_fail (l : Launch) (κ : xQ) (a0 : Nat) (a1 : Int32) (M : xM) (mo : xM) (h : F_X7_fail a0 a1 M = some mo) : xC l yX7_fail cX7_fail 2 none 2 0 0 κ [.ref (κ.1 + a0), .int a1] M none mo := by
  refine xC_of rfl (Nat.le_of_ble_eq_true rfl) fun p e s m args below meth c X hr hlk hnm H locs ls O hl => ?_
  have X : xX p s m args c cX7_fail 2 RX7 κ := X
  have hl : lv_has ls 2 [(0, .ref (κ.1 + a0)), (1, .int a1)] := hl
  have hx := X.1
  have hb := X.2.1
  obtain ⟨x, hx0⟩ : ∃ x, mo = x := ⟨_, rfl⟩
  rw [hx0] at h
  have hK : x = mo := hx0.symm
  unfold F_X7_fail at h
  refine lv_aload_n hx hb dX7_fail_0 rfl (lv_at hl 0 rfl) ?_
  obtain ⟨t1, ht1, h⟩ := Option.bind_eq_some_iff.mp h
  refine xr_getI X O ht1 fl_X7_48 (Or.inl rfl) dX7_fail_1 ?_
  refine lv_if_ne (tgt := 32) hx hb dX7_fail_4 (by decide) (fun hc4 => ?_) (fun hc4 => ?_)
  · rw [if_neg hc4] at h
    rw [← Option.some.inj h] at hK
    have hK : M = mo := hK
    rw [hK] at O
    exact xr_vret X hr hlk O dX7_fail_32
  rw [if_pos hc4] at h
  refine lv_aload_n hx hb dX7_fail_7 rfl (lv_at hl 0 rfl) ?_
  refine lv_aload_n hx hb dX7_fail_8 rfl (lv_at hl 0 rfl) ?_
  obtain ⟨t2, ht2, h⟩ := Option.bind_eq_some_iff.mp h
  refine xr_getI X O ht2 fl_X7_64 (Or.inl rfl) dX7_fail_9 ?_
  refine lv_iconst (v := (1 : Int32)) hx hb dX7_fail_12 (by decide) ?_
  refine lv_icmp_ne (tgt := 20) hx hb dX7_fail_13 (by decide) (fun hc13 => ?_) (fun hc13 => ?_)
  · rw [if_neg hc13] at h
    refine lv_iload_n hx hb dX7_fail_20 rfl (lv_at hl 1 rfl) ?_
    exact F_X7_fail_21_ok X hr hlk a0 a1 a0 M _ h hK H locs ls O (lv_sub hl [0] rfl)
  rw [if_pos hc13] at h
  refine lv_iconst (v := (1 : Int32)) hx hb dX7_fail_16 (by decide) ?_
  refine lv_goto (tgt := 21) hx hb dX7_fail_17 (by decide) ?_
  exact F_X7_fail_21_ok X hr hlk a0 (1 : Int32) a0 M _ h hK H locs ls O (lv_sub hl [0] rfl)
def F_X7_expectWord_22 (v0 : Nat) (M : xM) : Option (xM) :=
(xck M v0 7).bind fun _ =>
(F_X7_fail v0 (2 : Int32) M).bind fun t7 =>
some t7
def F_X7_expectWord (a0 : Nat) (a1 : Nat) (M : xM) : Option (xM) :=
(xgI M a0 7 2).bind fun t1 =>
if t1 = 0 then (
(xck M a0 7).bind fun _ =>
(F_X7_atWord a0 a1 M).bind fun t3 =>
if t3.1 = 0 then (
F_X7_expectWord_22 a0 t3.2)
else (
(xck t3.2 a0 7).bind fun _ =>
(F_X7_step a0 t3.2).bind fun t5 =>
some t5))
else (
F_X7_expectWord_22 a0 M)
set_option maxRecDepth 100000 in
set_option maxHeartbeats 4000000 in
theorem F_X7_expectWord_22_ok (X : xX p s m args c cX7_expectWord 2 RX7 κ) (hr : meth.sig.returnType = none) (hlk : meth.locks = false) {mo : xM} (v0 : Nat) (M : xM) (x : xM) (h : F_X7_expectWord_22 v0 M = some x) (hK : (fun o => o = mo) x) (H : Heap) (locs : List Loc) (ls : Array Slot) (O : xO κ s M H locs) (hl : lv_has ls 2 [(0, .ref (κ.1 + v0))]) : W p l e (xRm 7 0 0) s m args below meth c H locs 0 0 (xQf below args s 0 0 κ none mo) (F0 m 22 ls []) := by
  unfold F_X7_expectWord_22 at h
  have hx := X.1
  have hb := X.2.1
  refine lv_aload_n hx hb dX7_expectWord_22 rfl (lv_at hl 0 rfl) ?_
  refine lv_iconst (v := (2 : Int32)) hx hb dX7_expectWord_23 (by decide) ?_
  obtain ⟨_, hut6, h⟩ := Option.bind_eq_some_iff.mp h
  obtain ⟨t7, ht7, h⟩ := Option.bind_eq_some_iff.mp h
  refine xr_callV (rest := []) X O (T_X7_fail l κ v0 (2 : Int32) M _ ht7) lk_X7_103 hut6 (Nat.le_of_ble_eq_true rfl) rfl hl.1 rfl (Nat.le_of_ble_eq_true rfl) dX7_expectWord_24 ⟨Nat.le_of_ble_eq_true rfl, Nat.le_of_ble_eq_true rfl⟩ (fun H locs O => ?_)
  refine W.eq (g2 := F0 m 27 ls []) rfl ?_
  rw [← Option.some.inj h] at hK
  have hK : t7 = mo := hK
  rw [hK] at O
  exact xr_vret X hr hlk O dX7_expectWord_27
set_option maxRecDepth 100000 in
set_option maxHeartbeats 4000000 in
theorem T_X7_expectWord (l : Launch) (κ : xQ) (a0 : Nat) (a1 : Nat) (M : xM) (mo : xM) (h : F_X7_expectWord a0 a1 M = some mo) : xC l yX7_expectWord cX7_expectWord 2 none 7 0 0 κ [.ref (κ.1 + a0), .ref (κ.2.2.2.1 a1)] M none mo := by
  refine xC_of rfl (Nat.le_of_ble_eq_true rfl) fun p e s m args below meth c X hr hlk hnm H locs ls O hl => ?_
  have X : xX p s m args c cX7_expectWord 2 RX7 κ := X
  have hl : lv_has ls 2 [(0, .ref (κ.1 + a0)), (1, .ref (κ.2.2.2.1 a1))] := hl
  have hx := X.1
  have hb := X.2.1
  obtain ⟨x, hx0⟩ : ∃ x, mo = x := ⟨_, rfl⟩
  rw [hx0] at h
  have hK : x = mo := hx0.symm
  unfold F_X7_expectWord at h
  refine lv_aload_n hx hb dX7_expectWord_0 rfl (lv_at hl 0 rfl) ?_
  obtain ⟨t1, ht1, h⟩ := Option.bind_eq_some_iff.mp h
  refine xr_getI X O ht1 fl_X7_48 (Or.inl rfl) dX7_expectWord_1 ?_
  refine lv_if_ne (tgt := 22) hx hb dX7_expectWord_4 (by decide) (fun hc4 => ?_) (fun hc4 => ?_)
  · rw [if_neg hc4] at h
    exact F_X7_expectWord_22_ok X hr hlk a0 M _ h hK H locs ls O (lv_sub hl [0] rfl)
  rw [if_pos hc4] at h
  refine lv_aload_n hx hb dX7_expectWord_7 rfl (lv_at hl 0 rfl) ?_
  refine lv_aload_n hx hb dX7_expectWord_8 rfl (lv_at hl 1 rfl) ?_
  obtain ⟨_, hut2, h⟩ := Option.bind_eq_some_iff.mp h
  obtain ⟨t3, ht3, h⟩ := Option.bind_eq_some_iff.mp h
  refine xr_callV (rest := []) X O (T_X7_atWord l κ a0 a1 M _ _ ht3) lk_X7_99 hut2 (Nat.le_of_ble_eq_true rfl) rfl hl.1 rfl (Nat.le_of_ble_eq_true rfl) dX7_expectWord_9 ⟨Nat.le_of_ble_eq_true rfl, Nat.le_of_ble_eq_true rfl⟩ (fun H locs O => ?_)
  refine W.eq (g2 := F0 m 12 ls [.int t3.1]) rfl ?_
  refine lv_if_eq (tgt := 22) hx hb dX7_expectWord_12 (by decide) (fun hc12 => ?_) (fun hc12 => ?_)
  · rw [if_pos hc12] at h
    exact F_X7_expectWord_22_ok X hr hlk a0 t3.2 _ h hK H locs ls O (lv_sub hl [0] rfl)
  rw [if_neg hc12] at h
  refine lv_aload_n hx hb dX7_expectWord_15 rfl (lv_at hl 0 rfl) ?_
  obtain ⟨_, hut4, h⟩ := Option.bind_eq_some_iff.mp h
  obtain ⟨t5, ht5, h⟩ := Option.bind_eq_some_iff.mp h
  refine xr_callV (rest := []) X O (T_X7_step l κ a0 t3.2 _ ht5) lk_X7_58 hut4 (Nat.le_of_ble_eq_true rfl) rfl hl.1 rfl (Nat.le_of_ble_eq_true rfl) dX7_expectWord_16 ⟨Nat.le_of_ble_eq_true rfl, Nat.le_of_ble_eq_true rfl⟩ (fun H locs O => ?_)
  refine W.eq (g2 := F0 m 19 ls []) rfl ?_
  refine lv_goto (tgt := 27) hx hb dX7_expectWord_19 (by decide) ?_
  rw [← Option.some.inj h] at hK
  have hK : t5 = mo := hK
  rw [hK] at O
  exact xr_vret X hr hlk O dX7_expectWord_27
def F_X7_numberHere_44 (v1 : Int32) (M : xM) : Option (Int32 × xM) :=
some (v1, M)
def F_X7_numberHere_7b (v0 : Nat) : (Int32 × Int32 × xM) → Option ((Int32 × Int32 × xM) ⊕ (Int32 × xM)) := fun ⟨v1, v2, M⟩ =>
(xgI M v0 7 7).bind fun t2 =>
if t2 ≤ v2 then (
(F_X7_numberHere_44 v1 M).map Sum.inr)
else (
(xgI M v0 7 5).bind fun t3 =>
if t3 ≤ v2 then (
(F_X7_numberHere_44 v1 M).map Sum.inr)
else (
(xgP M v0 7 4).bind fun t4 =>
(xaI M 21 t4 v2).bind fun t5 =>
(some ((((v1 * (10 : Int32)) + t5) - (48 : Int32)))).bind fun t6 =>
some (.inl (t6, (v2 + 1), M))))
def F_X7_numberHere_7 (v0 : Nat) (v1 : Int32) (v2 : Int32) (M : xM) : Option (Int32 × xM) := xit (F_X7_numberHere_7b v0) xFU (v1, v2, M)
def F_X7_numberHere (a0 : Nat) (M : xM) : Option (Int32 × xM) :=
(xgI M a0 7 6).bind fun t1 =>
F_X7_numberHere_7 a0 (0 : Int32) t1 M
set_option maxRecDepth 100000 in
set_option maxHeartbeats 4000000 in
theorem F_X7_numberHere_44_ok (X : xX p s m args c cX7_numberHere 3 RX7 κ) (hr : meth.sig.returnType = (some .int)) (hlk : meth.locks = false) {ro : Int32} {mo : xM} (v1 : Int32) (M : xM) (x : Int32 × xM) (h : F_X7_numberHere_44 v1 M = some x) (hK : (fun o => o = (ro, mo)) x) (H : Heap) (locs : List Loc) (ls : Array Slot) (O : xO κ s M H locs) (hl : lv_has ls 3 [(1, .int v1)]) : W p l e (xRm 2 0 0) s m args below meth c H locs 0 0 (xQf below args s 0 0 κ (some (.int ro)) mo) (F0 m 44 ls []) := by
  unfold F_X7_numberHere_44 at h
  have hx := X.1
  have hb := X.2.1
  refine lv_iload_n hx hb dX7_numberHere_44 rfl (lv_at hl 0 rfl) ?_
  rw [← Option.some.inj h] at hK
  have hK : (v1, M) = (ro, mo) := hK
  obtain ⟨hK1, hK2⟩ := Prod.mk.inj hK
  rw [hK2] at O
  refine xr_top (w := .int ro) (by rw [hK1]) ?_
  exact xr_iret X hr hlk O dX7_numberHere_45
set_option maxRecDepth 100000 in
set_option maxHeartbeats 4000000 in
theorem F_X7_numberHere_7_bok (X : xX p s m args c cX7_numberHere 3 RX7 κ) (hr : meth.sig.returnType = (some .int)) (hlk : meth.locks = false) {ro : Int32} {mo : xM} (v0 : Nat) (v1 : Int32) (v2 : Int32) {W7 : Int32 × Int32 × xM → Prop} (hW7 : ∀ (v1 : Int32) (v2 : Int32) (M : xM), W7 (v1, v2, M) → ∀ (H : Heap) (locs : List Loc) (ls : Array Slot), xO κ s M H locs → lv_has ls 3 [(0, .ref (κ.1 + v0)), (1, .int v1), (2, .int v2)] → W p l e (xRm 2 0 0) s m args below meth c H locs 0 0 (xQf below args s 0 0 κ (some (.int ro)) mo) (F0 m 7 ls [])) (M : xM) (x : (Int32 × Int32 × xM) ⊕ (Int32 × xM)) (h : F_X7_numberHere_7b v0 (v1, v2, M) = some x) (hK : (xKl W7 (fun o => o = (ro, mo))) x) (H : Heap) (locs : List Loc) (ls : Array Slot) (O : xO κ s M H locs) (hl : lv_has ls 3 [(0, .ref (κ.1 + v0)), (1, .int v1), (2, .int v2)]) : W p l e (xRm 2 0 0) s m args below meth c H locs 0 0 (xQf below args s 0 0 κ (some (.int ro)) mo) (F0 m 7 ls []) := by
  unfold F_X7_numberHere_7b at h
  dsimp only at h
  have hx := X.1
  have hb := X.2.1
  refine lv_iload_n hx hb dX7_numberHere_7 rfl (lv_at hl 2 rfl) ?_
  refine lv_aload_n hx hb dX7_numberHere_8 rfl (lv_at hl 0 rfl) ?_
  obtain ⟨t2, ht2, h⟩ := Option.bind_eq_some_iff.mp h
  refine xr_getI X O ht2 fl_X7_45 (Or.inl rfl) dX7_numberHere_9 ?_
  refine lv_icmp_ge (tgt := 44) hx hb dX7_numberHere_12 (by decide) (fun hc12 => ?_) (fun hc12 => ?_)
  · rw [if_pos hc12] at h
    obtain ⟨_, hw0, ew0⟩ := Option.map_eq_some_iff.mp h
    rw [← ew0] at hK
    have h := hw0
    exact F_X7_numberHere_44_ok X hr hlk v1 M _ h hK H locs ls O (lv_sub hl [1] rfl)
  rw [if_neg hc12] at h
  refine lv_iload_n hx hb dX7_numberHere_15 rfl (lv_at hl 2 rfl) ?_
  refine lv_aload_n hx hb dX7_numberHere_16 rfl (lv_at hl 0 rfl) ?_
  obtain ⟨t3, ht3, h⟩ := Option.bind_eq_some_iff.mp h
  refine xr_getI X O ht3 fl_X7_42 (Or.inl rfl) dX7_numberHere_17 ?_
  refine lv_icmp_ge (tgt := 44) hx hb dX7_numberHere_20 (by decide) (fun hc20 => ?_) (fun hc20 => ?_)
  · rw [if_pos hc20] at h
    obtain ⟨_, hw0, ew0⟩ := Option.map_eq_some_iff.mp h
    rw [← ew0] at hK
    have h := hw0
    exact F_X7_numberHere_44_ok X hr hlk v1 M _ h hK H locs ls O (lv_sub hl [1] rfl)
  rw [if_neg hc20] at h
  refine lv_iload_n hx hb dX7_numberHere_23 rfl (lv_at hl 1 rfl) ?_
  refine lv_bipush (v := (10 : Int32)) hx hb dX7_numberHere_24 (by decide) ?_
  refine lv_imul hx hb dX7_numberHere_26 ?_
  refine lv_aload_n hx hb dX7_numberHere_27 rfl (lv_at hl 0 rfl) ?_
  obtain ⟨t4, ht4, h⟩ := Option.bind_eq_some_iff.mp h
  refine xr_getP X O ht4 fl_X7_9 dX7_numberHere_28 ?_
  refine lv_iload_n hx hb dX7_numberHere_31 rfl (lv_at hl 2 rfl) ?_
  obtain ⟨t5, ht5, h⟩ := Option.bind_eq_some_iff.mp h
  refine xr_aldB X O ht5 dX7_numberHere_32 ?_
  refine lv_iadd hx hb dX7_numberHere_33 ?_
  refine lv_bipush (v := (48 : Int32)) hx hb dX7_numberHere_34 (by decide) ?_
  refine lv_isub hx hb dX7_numberHere_36 ?_
  obtain ⟨t6, ht6, h⟩ := Option.bind_eq_some_iff.mp h
  refine xr_top (w := .int t6) (by rw [Option.some.inj ht6]) ?_
  refine lv_istore_n (lv' := [(1, .int t6), (0, .ref (κ.1 + v0)), (2, .int v2)]) hx hb dX7_numberHere_37 rfl hl (by decide) rfl (fun ls hl => ?_)
  refine lv_iinc (v := (v2 + 1)) (lv' := [(2, .int (v2 + 1)), (1, .int t6), (0, .ref (κ.1 + v0))]) hx hb dX7_numberHere_38 hl (k := 2) rfl rfl (by decide) rfl (fun ls hl => ?_)
  refine lv_goto (tgt := 7) hx hb dX7_numberHere_41 (by decide) ?_
  rw [← Option.some.inj h] at hK
  exact hW7 t6 (v2 + 1) M hK H locs ls O (lv_sub hl [2, 1, 0] rfl)
set_option maxRecDepth 100000 in
set_option maxHeartbeats 4000000 in
theorem F_X7_numberHere_7_ok (X : xX p s m args c cX7_numberHere 3 RX7 κ) (hr : meth.sig.returnType = (some .int)) (hlk : meth.locks = false) {ro : Int32} {mo : xM} (v0 : Nat) (v1 : Int32) (v2 : Int32) (M : xM) (x : Int32 × xM) (h : F_X7_numberHere_7 v0 v1 v2 M = some x) (hK : (fun o => o = (ro, mo)) x) (H : Heap) (locs : List Loc) (ls : Array Slot) (O : xO κ s M H locs) (hl : lv_has ls 3 [(0, .ref (κ.1 + v0)), (1, .int v1), (2, .int v2)]) : W p l e (xRm 2 0 0) s m args below meth c H locs 0 0 (xQf below args s 0 0 κ (some (.int ro)) mo) (F0 m 7 ls []) := by
  refine xit_K (Wh := fun x => ∀ (H : Heap) (locs : List Loc) (ls : Array Slot), xO κ s x.2.2 H locs → lv_has ls 3 [(0, .ref (κ.1 + v0)), (1, .int x.1), (2, .int x.2.1)] → W p l e (xRm 2 0 0) s m args below meth c H locs 0 0 (xQf below args s 0 0 κ (some (.int ro)) mo) (F0 m 7 ls [])) (Kp := (fun o => o = (ro, mo))) ?_ xFU (v1, v2, M) x h hK H locs ls O hl
  intro y x h hK H locs ls O hl
  exact F_X7_numberHere_7_bok X hr hlk v0 y.1 y.2.1 (fun _ _ _ hw => hw) y.2.2 x h hK H locs ls O hl
set_option maxRecDepth 100000 in
set_option maxHeartbeats 4000000 in
theorem T_X7_numberHere (l : Launch) (κ : xQ) (a0 : Nat) (M : xM) (ro : Int32) (mo : xM) (h : F_X7_numberHere a0 M = some (ro, mo)) : xC l yX7_numberHere cX7_numberHere 3 (some .int) 2 0 0 κ [.ref (κ.1 + a0)] M (some (.int ro)) mo := by
  refine xC_of rfl (Nat.le_of_ble_eq_true rfl) fun p e s m args below meth c X hr hlk hnm H locs ls O hl => ?_
  have X : xX p s m args c cX7_numberHere 3 RX7 κ := X
  have hl : lv_has ls 3 [(0, .ref (κ.1 + a0))] := hl
  have hx := X.1
  have hb := X.2.1
  obtain ⟨x, hx0⟩ : ∃ x, (ro, mo) = x := ⟨_, rfl⟩
  rw [hx0] at h
  have hK : x = (ro, mo) := hx0.symm
  unfold F_X7_numberHere at h
  refine lv_iconst (v := (0 : Int32)) hx hb dX7_numberHere_0 (by decide) ?_
  refine lv_istore_n (lv' := [(1, .int (0 : Int32)), (0, .ref (κ.1 + a0))]) hx hb dX7_numberHere_1 rfl hl (by decide) rfl (fun ls hl => ?_)
  refine lv_aload_n hx hb dX7_numberHere_2 rfl (lv_at hl 1 rfl) ?_
  obtain ⟨t1, ht1, h⟩ := Option.bind_eq_some_iff.mp h
  refine xr_getI X O ht1 fl_X7_77 (Or.inl rfl) dX7_numberHere_3 ?_
  refine lv_istore_n (lv' := [(2, .int t1), (1, .int (0 : Int32)), (0, .ref (κ.1 + a0))]) hx hb dX7_numberHere_6 rfl hl (by decide) rfl (fun ls hl => ?_)
  exact F_X7_numberHere_7_ok X hr hlk a0 (0 : Int32) t1 M _ h hK H locs ls O (lv_sub hl [2, 1, 0] rfl)
def F_X7_expectNumber_51 (v0 : Nat) (v1 : Int32) (M : xM) : Option (Int32 × xM) :=
(xck M v0 7).bind fun _ =>
(F_X7_fail v0 (3 : Int32) M).bind fun t10 =>
some (v1, t10)
def F_X7_expectNumber (a0 : Nat) (a1 : Int32) (a2 : Int32) (a3 : Int32) (M : xM) : Option (Int32 × xM) :=
(xgI M a0 7 2).bind fun t1 =>
if t1 = 0 then (
(xgI M a0 7 8).bind fun t2 =>
if t2 = (3 : Int32) then (
(xck M a0 7).bind fun _ =>
(F_X7_numberHere a0 M).bind fun t4 =>
if t4.1 < a1 then (
F_X7_expectNumber_51 a0 a1 t4.2)
else (
if a2 < t4.1 then (
F_X7_expectNumber_51 a0 a1 t4.2)
else (
if ((a3 >>> (t4.1 &&& 31)) &&& (1 : Int32)) = 0 then (
(xck t4.2 a0 7).bind fun _ =>
(F_X7_step a0 t4.2).bind fun t6 =>
some (t4.1, t6))
else (
F_X7_expectNumber_51 a0 a1 t4.2))))
else (
(xck M a0 7).bind fun _ =>
(F_X7_fail a0 (2 : Int32) M).bind fun t8 =>
some (a1, t8)))
else (
some (a1, M))
set_option maxRecDepth 100000 in
set_option maxHeartbeats 4000000 in
theorem F_X7_expectNumber_51_ok (X : xX p s m args c cX7_expectNumber 5 RX7 κ) (hr : meth.sig.returnType = (some .int)) (hlk : meth.locks = false) {ro : Int32} {mo : xM} (v0 : Nat) (v1 : Int32) (M : xM) (x : Int32 × xM) (h : F_X7_expectNumber_51 v0 v1 M = some x) (hK : (fun o => o = (ro, mo)) x) (H : Heap) (locs : List Loc) (ls : Array Slot) (O : xO κ s M H locs) (hl : lv_has ls 5 [(0, .ref (κ.1 + v0)), (1, .int v1)]) : W p l e (xRm 7 0 0) s m args below meth c H locs 0 0 (xQf below args s 0 0 κ (some (.int ro)) mo) (F0 m 51 ls []) := by
  unfold F_X7_expectNumber_51 at h
  have hx := X.1
  have hb := X.2.1
  refine lv_aload_n hx hb dX7_expectNumber_51 rfl (lv_at hl 0 rfl) ?_
  refine lv_iconst (v := (3 : Int32)) hx hb dX7_expectNumber_52 (by decide) ?_
  obtain ⟨_, hut9, h⟩ := Option.bind_eq_some_iff.mp h
  obtain ⟨t10, ht10, h⟩ := Option.bind_eq_some_iff.mp h
  refine xr_callV (rest := []) X O (T_X7_fail l κ v0 (3 : Int32) M _ ht10) lk_X7_103 hut9 (Nat.le_of_ble_eq_true rfl) rfl hl.1 rfl (Nat.le_of_ble_eq_true rfl) dX7_expectNumber_53 ⟨Nat.le_of_ble_eq_true rfl, Nat.le_of_ble_eq_true rfl⟩ (fun H locs O => ?_)
  refine W.eq (g2 := F0 m 56 ls []) rfl ?_
  refine lv_iload_n hx hb dX7_expectNumber_56 rfl (lv_at hl 1 rfl) ?_
  rw [← Option.some.inj h] at hK
  have hK : (v1, t10) = (ro, mo) := hK
  obtain ⟨hK1, hK2⟩ := Prod.mk.inj hK
  rw [hK2] at O
  refine xr_top (w := .int ro) (by rw [hK1]) ?_
  exact xr_iret X hr hlk O dX7_expectNumber_57
set_option maxRecDepth 100000 in
set_option maxHeartbeats 4000000 in
theorem T_X7_expectNumber (l : Launch) (κ : xQ) (a0 : Nat) (a1 : Int32) (a2 : Int32) (a3 : Int32) (M : xM) (ro : Int32) (mo : xM) (h : F_X7_expectNumber a0 a1 a2 a3 M = some (ro, mo)) : xC l yX7_expectNumber cX7_expectNumber 5 (some .int) 7 0 0 κ [.ref (κ.1 + a0), .int a1, .int a2, .int a3] M (some (.int ro)) mo := by
  refine xC_of rfl (Nat.le_of_ble_eq_true rfl) fun p e s m args below meth c X hr hlk hnm H locs ls O hl => ?_
  have X : xX p s m args c cX7_expectNumber 5 RX7 κ := X
  have hl : lv_has ls 5 [(0, .ref (κ.1 + a0)), (1, .int a1), (2, .int a2), (3, .int a3)] := hl
  have hx := X.1
  have hb := X.2.1
  obtain ⟨x, hx0⟩ : ∃ x, (ro, mo) = x := ⟨_, rfl⟩
  rw [hx0] at h
  have hK : x = (ro, mo) := hx0.symm
  unfold F_X7_expectNumber at h
  refine lv_aload_n hx hb dX7_expectNumber_0 rfl (lv_at hl 0 rfl) ?_
  obtain ⟨t1, ht1, h⟩ := Option.bind_eq_some_iff.mp h
  refine xr_getI X O ht1 fl_X7_48 (Or.inl rfl) dX7_expectNumber_1 ?_
  refine lv_if_eq (tgt := 9) hx hb dX7_expectNumber_4 (by decide) (fun hc4 => ?_) (fun hc4 => ?_)
  · rw [if_pos hc4] at h
    refine lv_aload_n hx hb dX7_expectNumber_9 rfl (lv_at hl 0 rfl) ?_
    obtain ⟨t2, ht2, h⟩ := Option.bind_eq_some_iff.mp h
    refine xr_getI X O ht2 fl_X7_64 (Or.inl rfl) dX7_expectNumber_10 ?_
    refine lv_iconst (v := (3 : Int32)) hx hb dX7_expectNumber_13 (by decide) ?_
    refine lv_icmp_eq (tgt := 24) hx hb dX7_expectNumber_14 (by decide) (fun hc14 => ?_) (fun hc14 => ?_)
    · rw [if_pos hc14] at h
      refine lv_aload_n hx hb dX7_expectNumber_24 rfl (lv_at hl 0 rfl) ?_
      obtain ⟨_, hut3, h⟩ := Option.bind_eq_some_iff.mp h
      obtain ⟨t4, ht4, h⟩ := Option.bind_eq_some_iff.mp h
      refine xr_callV (rest := []) X O (T_X7_numberHere l κ a0 M _ _ ht4) lk_X7_111 hut3 (Nat.le_of_ble_eq_true rfl) rfl hl.1 rfl (Nat.le_of_ble_eq_true rfl) dX7_expectNumber_25 ⟨Nat.le_of_ble_eq_true rfl, Nat.le_of_ble_eq_true rfl⟩ (fun H locs O => ?_)
      refine W.eq (g2 := F0 m 28 ls [.int t4.1]) rfl ?_
      refine lv_istore (lv' := [(4, .int t4.1), (0, .ref (κ.1 + a0)), (1, .int a1), (2, .int a2), (3, .int a3)]) hx hb dX7_expectNumber_28 hl (by decide) rfl (fun ls hl => ?_)
      refine lv_iload hx hb dX7_expectNumber_30 (lv_at hl 0 rfl) ?_
      refine lv_iload_n hx hb dX7_expectNumber_32 rfl (lv_at hl 2 rfl) ?_
      refine lv_icmp_lt (tgt := 51) hx hb dX7_expectNumber_33 (by decide) (fun hc33 => ?_) (fun hc33 => ?_)
      · rw [if_pos hc33] at h
        exact F_X7_expectNumber_51_ok X hr hlk a0 a1 t4.2 _ h hK H locs ls O (lv_sub hl [1, 2] rfl)
      rw [if_neg hc33] at h
      refine lv_iload hx hb dX7_expectNumber_36 (lv_at hl 0 rfl) ?_
      refine lv_iload_n hx hb dX7_expectNumber_38 rfl (lv_at hl 3 rfl) ?_
      refine lv_icmp_gt (tgt := 51) hx hb dX7_expectNumber_39 (by decide) (fun hc39 => ?_) (fun hc39 => ?_)
      · rw [if_pos hc39] at h
        exact F_X7_expectNumber_51_ok X hr hlk a0 a1 t4.2 _ h hK H locs ls O (lv_sub hl [1, 2] rfl)
      rw [if_neg hc39] at h
      refine lv_iload_n hx hb dX7_expectNumber_42 rfl (lv_at hl 4 rfl) ?_
      refine lv_iload hx hb dX7_expectNumber_43 (lv_at hl 0 rfl) ?_
      refine lv_ishr hx hb dX7_expectNumber_45 ?_
      refine lv_iconst (v := (1 : Int32)) hx hb dX7_expectNumber_46 (by decide) ?_
      refine lv_iand hx hb dX7_expectNumber_47 ?_
      refine lv_if_eq (tgt := 58) hx hb dX7_expectNumber_48 (by decide) (fun hc48 => ?_) (fun hc48 => ?_)
      · rw [if_pos hc48] at h
        refine lv_aload_n hx hb dX7_expectNumber_58 rfl (lv_at hl 1 rfl) ?_
        obtain ⟨_, hut5, h⟩ := Option.bind_eq_some_iff.mp h
        obtain ⟨t6, ht6, h⟩ := Option.bind_eq_some_iff.mp h
        refine xr_callV (rest := []) X O (T_X7_step l κ a0 t4.2 _ ht6) lk_X7_58 hut5 (Nat.le_of_ble_eq_true rfl) rfl hl.1 rfl (Nat.le_of_ble_eq_true rfl) dX7_expectNumber_59 ⟨Nat.le_of_ble_eq_true rfl, Nat.le_of_ble_eq_true rfl⟩ (fun H locs O => ?_)
        refine W.eq (g2 := F0 m 62 ls []) rfl ?_
        refine lv_iload hx hb dX7_expectNumber_62 (lv_at hl 0 rfl) ?_
        rw [← Option.some.inj h] at hK
        have hK : (t4.1, t6) = (ro, mo) := hK
        obtain ⟨hK1, hK2⟩ := Prod.mk.inj hK
        rw [hK2] at O
        refine xr_top (w := .int ro) (by rw [hK1]) ?_
        exact xr_iret X hr hlk O dX7_expectNumber_64
      rw [if_neg hc48] at h
      exact F_X7_expectNumber_51_ok X hr hlk a0 a1 t4.2 _ h hK H locs ls O (lv_sub hl [1, 2] rfl)
    rw [if_neg hc14] at h
    refine lv_aload_n hx hb dX7_expectNumber_17 rfl (lv_at hl 0 rfl) ?_
    refine lv_iconst (v := (2 : Int32)) hx hb dX7_expectNumber_18 (by decide) ?_
    obtain ⟨_, hut7, h⟩ := Option.bind_eq_some_iff.mp h
    obtain ⟨t8, ht8, h⟩ := Option.bind_eq_some_iff.mp h
    refine xr_callV (rest := []) X O (T_X7_fail l κ a0 (2 : Int32) M _ ht8) lk_X7_103 hut7 (Nat.le_of_ble_eq_true rfl) rfl hl.1 rfl (Nat.le_of_ble_eq_true rfl) dX7_expectNumber_19 ⟨Nat.le_of_ble_eq_true rfl, Nat.le_of_ble_eq_true rfl⟩ (fun H locs O => ?_)
    refine W.eq (g2 := F0 m 22 ls []) rfl ?_
    refine lv_iload_n hx hb dX7_expectNumber_22 rfl (lv_at hl 1 rfl) ?_
    rw [← Option.some.inj h] at hK
    have hK : (a1, t8) = (ro, mo) := hK
    obtain ⟨hK1, hK2⟩ := Prod.mk.inj hK
    rw [hK2] at O
    refine xr_top (w := .int ro) (by rw [hK1]) ?_
    exact xr_iret X hr hlk O dX7_expectNumber_23
  rw [if_neg hc4] at h
  refine lv_iload_n hx hb dX7_expectNumber_7 rfl (lv_at hl 1 rfl) ?_
  rw [← Option.some.inj h] at hK
  have hK : (a1, M) = (ro, mo) := hK
  obtain ⟨hK1, hK2⟩ := Prod.mk.inj hK
  rw [hK2] at O
  refine xr_top (w := .int ro) (by rw [hK1]) ?_
  exact xr_iret X hr hlk O dX7_expectNumber_8
def F_X7_atSign_36 (M : xM) : Option (Int32 × xM) :=
(xz (0 : Int32)).bind fun t8 =>
some (t8, M)
def F_X7_atSign (a0 : Nat) (a1 : Int32) (M : xM) : Option (Int32 × xM) :=
(xgI M a0 7 8).bind fun t1 =>
if t1 = (4 : Int32) then (
(xgI M a0 7 6).bind fun t2 =>
(xgI M a0 7 5).bind fun t3 =>
if t3 ≤ t2 then (
F_X7_atSign_36 M)
else (
(xgP M a0 7 4).bind fun t4 =>
(xgI M a0 7 6).bind fun t5 =>
(xaI M 21 t4 t5).bind fun t6 =>
if t6 = a1 then (
(xz (1 : Int32)).bind fun t7 =>
some (t7, M))
else (
F_X7_atSign_36 M)))
else (
F_X7_atSign_36 M)
set_option maxRecDepth 100000 in
set_option maxHeartbeats 4000000 in
theorem F_X7_atSign_36_ok (X : xX p s m args c cX7_atSign 2 RX7 κ) (hr : meth.sig.returnType = (some .boolean)) (hlk : meth.locks = false) {ro : Int32} {mo : xM} (M : xM) (x : Int32 × xM) (h : F_X7_atSign_36 M = some x) (hK : (fun o => o = (ro, mo)) x) (H : Heap) (locs : List Loc) (ls : Array Slot) (O : xO κ s M H locs) (hl : lv_has ls 2 []) : W p l e (xRm 2 0 0) s m args below meth c H locs 0 0 (xQf below args s 0 0 κ (some (.int ro)) mo) (F0 m 36 ls []) := by
  unfold F_X7_atSign_36 at h
  have hx := X.1
  have hb := X.2.1
  refine lv_iconst (v := (0 : Int32)) hx hb dX7_atSign_36 (by decide) ?_
  obtain ⟨t8, ht8, h⟩ := Option.bind_eq_some_iff.mp h
  rw [← Option.some.inj h] at hK
  have hK : (t8, M) = (ro, mo) := hK
  obtain ⟨hK1, hK2⟩ := Prod.mk.inj hK
  rw [hK1] at ht8
  rw [hK2] at O
  exact xr_zret X hr hlk O ht8 dX7_atSign_37
set_option maxRecDepth 100000 in
set_option maxHeartbeats 4000000 in
theorem T_X7_atSign (l : Launch) (κ : xQ) (a0 : Nat) (a1 : Int32) (M : xM) (ro : Int32) (mo : xM) (h : F_X7_atSign a0 a1 M = some (ro, mo)) : xC l yX7_atSign cX7_atSign 2 (some .boolean) 2 0 0 κ [.ref (κ.1 + a0), .int a1] M (some (.int ro)) mo := by
  refine xC_of rfl (Nat.le_of_ble_eq_true rfl) fun p e s m args below meth c X hr hlk hnm H locs ls O hl => ?_
  have X : xX p s m args c cX7_atSign 2 RX7 κ := X
  have hl : lv_has ls 2 [(0, .ref (κ.1 + a0)), (1, .int a1)] := hl
  have hx := X.1
  have hb := X.2.1
  obtain ⟨x, hx0⟩ : ∃ x, (ro, mo) = x := ⟨_, rfl⟩
  rw [hx0] at h
  have hK : x = (ro, mo) := hx0.symm
  unfold F_X7_atSign at h
  refine lv_aload_n hx hb dX7_atSign_0 rfl (lv_at hl 0 rfl) ?_
  obtain ⟨t1, ht1, h⟩ := Option.bind_eq_some_iff.mp h
  refine xr_getI X O ht1 fl_X7_64 (Or.inl rfl) dX7_atSign_1 ?_
  refine lv_iconst (v := (4 : Int32)) hx hb dX7_atSign_4 (by decide) ?_
  refine lv_icmp_ne (tgt := 36) hx hb dX7_atSign_5 (by decide) (fun hc5 => ?_) (fun hc5 => ?_)
  · rw [if_neg hc5] at h
    exact F_X7_atSign_36_ok X hr hlk  M _ h hK H locs ls O (lv_sub hl [] rfl)
  rw [if_pos hc5] at h
  refine lv_aload_n hx hb dX7_atSign_8 rfl (lv_at hl 0 rfl) ?_
  obtain ⟨t2, ht2, h⟩ := Option.bind_eq_some_iff.mp h
  refine xr_getI X O ht2 fl_X7_77 (Or.inl rfl) dX7_atSign_9 ?_
  refine lv_aload_n hx hb dX7_atSign_12 rfl (lv_at hl 0 rfl) ?_
  obtain ⟨t3, ht3, h⟩ := Option.bind_eq_some_iff.mp h
  refine xr_getI X O ht3 fl_X7_42 (Or.inl rfl) dX7_atSign_13 ?_
  refine lv_icmp_ge (tgt := 36) hx hb dX7_atSign_16 (by decide) (fun hc16 => ?_) (fun hc16 => ?_)
  · rw [if_pos hc16] at h
    exact F_X7_atSign_36_ok X hr hlk  M _ h hK H locs ls O (lv_sub hl [] rfl)
  rw [if_neg hc16] at h
  refine lv_aload_n hx hb dX7_atSign_19 rfl (lv_at hl 0 rfl) ?_
  obtain ⟨t4, ht4, h⟩ := Option.bind_eq_some_iff.mp h
  refine xr_getP X O ht4 fl_X7_9 dX7_atSign_20 ?_
  refine lv_aload_n hx hb dX7_atSign_23 rfl (lv_at hl 0 rfl) ?_
  obtain ⟨t5, ht5, h⟩ := Option.bind_eq_some_iff.mp h
  refine xr_getI X O ht5 fl_X7_77 (Or.inl rfl) dX7_atSign_24 ?_
  obtain ⟨t6, ht6, h⟩ := Option.bind_eq_some_iff.mp h
  refine xr_aldB X O ht6 dX7_atSign_27 ?_
  refine lv_iload_n hx hb dX7_atSign_28 rfl (lv_at hl 1 rfl) ?_
  refine lv_icmp_ne (tgt := 36) hx hb dX7_atSign_29 (by decide) (fun hc29 => ?_) (fun hc29 => ?_)
  · rw [if_neg hc29] at h
    exact F_X7_atSign_36_ok X hr hlk  M _ h hK H locs ls O (lv_sub hl [] rfl)
  rw [if_pos hc29] at h
  refine lv_iconst (v := (1 : Int32)) hx hb dX7_atSign_32 (by decide) ?_
  refine lv_goto (tgt := 37) hx hb dX7_atSign_33 (by decide) ?_
  obtain ⟨t7, ht7, h⟩ := Option.bind_eq_some_iff.mp h
  rw [← Option.some.inj h] at hK
  have hK : (t7, M) = (ro, mo) := hK
  obtain ⟨hK1, hK2⟩ := Prod.mk.inj hK
  rw [hK1] at ht7
  rw [hK2] at O
  exact xr_zret X hr hlk O ht7 dX7_atSign_37
def F_X7_expectSign_22 (v0 : Nat) (M : xM) : Option (xM) :=
(xck M v0 7).bind fun _ =>
(F_X7_fail v0 (2 : Int32) M).bind fun t7 =>
some t7
def F_X7_expectSign (a0 : Nat) (a1 : Int32) (M : xM) : Option (xM) :=
(xgI M a0 7 2).bind fun t1 =>
if t1 = 0 then (
(xck M a0 7).bind fun _ =>
(F_X7_atSign a0 a1 M).bind fun t3 =>
if t3.1 = 0 then (
F_X7_expectSign_22 a0 t3.2)
else (
(xck t3.2 a0 7).bind fun _ =>
(F_X7_step a0 t3.2).bind fun t5 =>
some t5))
else (
F_X7_expectSign_22 a0 M)
set_option maxRecDepth 100000 in
set_option maxHeartbeats 4000000 in
theorem F_X7_expectSign_22_ok (X : xX p s m args c cX7_expectSign 2 RX7 κ) (hr : meth.sig.returnType = none) (hlk : meth.locks = false) {mo : xM} (v0 : Nat) (M : xM) (x : xM) (h : F_X7_expectSign_22 v0 M = some x) (hK : (fun o => o = mo) x) (H : Heap) (locs : List Loc) (ls : Array Slot) (O : xO κ s M H locs) (hl : lv_has ls 2 [(0, .ref (κ.1 + v0))]) : W p l e (xRm 7 0 0) s m args below meth c H locs 0 0 (xQf below args s 0 0 κ none mo) (F0 m 22 ls []) := by
  unfold F_X7_expectSign_22 at h
  have hx := X.1
  have hb := X.2.1
  refine lv_aload_n hx hb dX7_expectSign_22 rfl (lv_at hl 0 rfl) ?_
  refine lv_iconst (v := (2 : Int32)) hx hb dX7_expectSign_23 (by decide) ?_
  obtain ⟨_, hut6, h⟩ := Option.bind_eq_some_iff.mp h
  obtain ⟨t7, ht7, h⟩ := Option.bind_eq_some_iff.mp h
  refine xr_callV (rest := []) X O (T_X7_fail l κ v0 (2 : Int32) M _ ht7) lk_X7_103 hut6 (Nat.le_of_ble_eq_true rfl) rfl hl.1 rfl (Nat.le_of_ble_eq_true rfl) dX7_expectSign_24 ⟨Nat.le_of_ble_eq_true rfl, Nat.le_of_ble_eq_true rfl⟩ (fun H locs O => ?_)
  refine W.eq (g2 := F0 m 27 ls []) rfl ?_
  rw [← Option.some.inj h] at hK
  have hK : t7 = mo := hK
  rw [hK] at O
  exact xr_vret X hr hlk O dX7_expectSign_27
set_option maxRecDepth 100000 in
set_option maxHeartbeats 4000000 in
theorem T_X7_expectSign (l : Launch) (κ : xQ) (a0 : Nat) (a1 : Int32) (M : xM) (mo : xM) (h : F_X7_expectSign a0 a1 M = some mo) : xC l yX7_expectSign cX7_expectSign 2 none 7 0 0 κ [.ref (κ.1 + a0), .int a1] M none mo := by
  refine xC_of rfl (Nat.le_of_ble_eq_true rfl) fun p e s m args below meth c X hr hlk hnm H locs ls O hl => ?_
  have X : xX p s m args c cX7_expectSign 2 RX7 κ := X
  have hl : lv_has ls 2 [(0, .ref (κ.1 + a0)), (1, .int a1)] := hl
  have hx := X.1
  have hb := X.2.1
  obtain ⟨x, hx0⟩ : ∃ x, mo = x := ⟨_, rfl⟩
  rw [hx0] at h
  have hK : x = mo := hx0.symm
  unfold F_X7_expectSign at h
  refine lv_aload_n hx hb dX7_expectSign_0 rfl (lv_at hl 0 rfl) ?_
  obtain ⟨t1, ht1, h⟩ := Option.bind_eq_some_iff.mp h
  refine xr_getI X O ht1 fl_X7_48 (Or.inl rfl) dX7_expectSign_1 ?_
  refine lv_if_ne (tgt := 22) hx hb dX7_expectSign_4 (by decide) (fun hc4 => ?_) (fun hc4 => ?_)
  · rw [if_neg hc4] at h
    exact F_X7_expectSign_22_ok X hr hlk a0 M _ h hK H locs ls O (lv_sub hl [0] rfl)
  rw [if_pos hc4] at h
  refine lv_aload_n hx hb dX7_expectSign_7 rfl (lv_at hl 0 rfl) ?_
  refine lv_iload_n hx hb dX7_expectSign_8 rfl (lv_at hl 1 rfl) ?_
  obtain ⟨_, hut2, h⟩ := Option.bind_eq_some_iff.mp h
  obtain ⟨t3, ht3, h⟩ := Option.bind_eq_some_iff.mp h
  refine xr_callV (rest := []) X O (T_X7_atSign l κ a0 a1 M _ _ ht3) lk_X7_107 hut2 (Nat.le_of_ble_eq_true rfl) rfl hl.1 rfl (Nat.le_of_ble_eq_true rfl) dX7_expectSign_9 ⟨Nat.le_of_ble_eq_true rfl, Nat.le_of_ble_eq_true rfl⟩ (fun H locs O => ?_)
  refine W.eq (g2 := F0 m 12 ls [.int t3.1]) rfl ?_
  refine lv_if_eq (tgt := 22) hx hb dX7_expectSign_12 (by decide) (fun hc12 => ?_) (fun hc12 => ?_)
  · rw [if_pos hc12] at h
    exact F_X7_expectSign_22_ok X hr hlk a0 t3.2 _ h hK H locs ls O (lv_sub hl [0] rfl)
  rw [if_neg hc12] at h
  refine lv_aload_n hx hb dX7_expectSign_15 rfl (lv_at hl 0 rfl) ?_
  obtain ⟨_, hut4, h⟩ := Option.bind_eq_some_iff.mp h
  obtain ⟨t5, ht5, h⟩ := Option.bind_eq_some_iff.mp h
  refine xr_callV (rest := []) X O (T_X7_step l κ a0 t3.2 _ ht5) lk_X7_58 hut4 (Nat.le_of_ble_eq_true rfl) rfl hl.1 rfl (Nat.le_of_ble_eq_true rfl) dX7_expectSign_16 ⟨Nat.le_of_ble_eq_true rfl, Nat.le_of_ble_eq_true rfl⟩ (fun H locs O => ?_)
  refine W.eq (g2 := F0 m 19 ls []) rfl ?_
  refine lv_goto (tgt := 27) hx hb dX7_expectSign_19 (by decide) ?_
  rw [← Option.some.inj h] at hK
  have hK : t5 = mo := hK
  rw [hK] at O
  exact xr_vret X hr hlk O dX7_expectSign_27
def F_X7_readHead_94 (M : xM) : Option (xM) :=
some M
def F_X7_readHead_59b (v0 : Nat) (v2 : Int32) : (Int32 × xM) → Option ((Int32 × xM) ⊕ (xM)) := fun ⟨v3, M⟩ =>
(xgP M v0 7 0).bind fun t18 =>
(xck M t18 3).bind fun _ =>
(F_X3_cells t18 M).bind fun t20 =>
if t20.1 ≤ v3 then (
(F_X7_readHead_94 t20.2).map Sum.inr)
else (
if (25 : Int32) ≤ v3 then (
(F_X7_readHead_94 t20.2).map Sum.inr)
else (
(xgP t20.2 v0 7 1).bind fun t21 =>
(xgP t20.2 t21 0 0).bind fun t22 =>
if v2 = 0 then none else
(xsI t20.2 t22 v3 (v3 / v2)).bind fun t23 =>
some (.inl ((v3 + 1), t23))))
def F_X7_readHead_59 (v0 : Nat) (v2 : Int32) (v3 : Int32) (M : xM) : Option (xM) := xit (F_X7_readHead_59b v0 v2) xFU (v3, M)
def F_X7_readHead (a0 : Nat) (M : xM) : Option (xM) :=
(xck M a0 7).bind fun _ =>
(F_X7_expectWord a0 1 M).bind fun t2 =>
(xck t2 a0 7).bind fun _ =>
(F_X7_expectWord a0 2 t2).bind fun t4 =>
(xck t4 a0 7).bind fun _ =>
(F_X7_expectNumber a0 (1 : Int32) (5 : Int32) (0 : Int32) t4).bind fun t6 =>
(xck t6.2 a0 7).bind fun _ =>
(F_X7_expectWord a0 3 t6.2).bind fun t8 =>
(xck t8 a0 7).bind fun _ =>
(F_X7_expectNumber a0 (1 : Int32) (5 : Int32) (0 : Int32) t8).bind fun t10 =>
(xck t10.2 a0 7).bind fun _ =>
(F_X7_expectSign a0 (59 : Int32) t10.2).bind fun t12 =>
(xgP t12 a0 7 0).bind fun t13 =>
(xck t12 t13 3).bind fun _ =>
(F_X3_setSize t13 t6.1 t10.1 t12).bind fun t15 =>
(xgP t15 a0 7 0).bind fun t16 =>
(xpI t15 t16 3 3 (1 : Int32)).bind fun t17 =>
F_X7_readHead_59 a0 t10.1 (0 : Int32) t17
set_option maxRecDepth 100000 in
set_option maxHeartbeats 4000000 in
theorem F_X7_readHead_94_ok (X : xX p s m args c cX7_readHead 4 RX7 κ) (hr : meth.sig.returnType = none) (hlk : meth.locks = false) {mo : xM} (M : xM) (x : xM) (h : F_X7_readHead_94 M = some x) (hK : (fun o => o = mo) x) (H : Heap) (locs : List Loc) (ls : Array Slot) (O : xO κ s M H locs) (hl : lv_has ls 4 []) : W p l e (xRm 8 0 0) s m args below meth c H locs 0 0 (xQf below args s 0 0 κ none mo) (F0 m 94 ls []) := by
  unfold F_X7_readHead_94 at h
  have hx := X.1
  have hb := X.2.1
  rw [← Option.some.inj h] at hK
  have hK : M = mo := hK
  rw [hK] at O
  exact xr_vret X hr hlk O dX7_readHead_94
set_option maxRecDepth 100000 in
set_option maxHeartbeats 4000000 in
theorem F_X7_readHead_59_bok (X : xX p s m args c cX7_readHead 4 RX7 κ) (hr : meth.sig.returnType = none) (hlk : meth.locks = false) {mo : xM} (v0 : Nat) (v2 : Int32) (v3 : Int32) {W59 : Int32 × xM → Prop} (hW59 : ∀ (v3 : Int32) (M : xM), W59 (v3, M) → ∀ (H : Heap) (locs : List Loc) (ls : Array Slot), xO κ s M H locs → lv_has ls 4 [(0, .ref (κ.1 + v0)), (2, .int v2), (3, .int v3)] → W p l e (xRm 8 0 0) s m args below meth c H locs 0 0 (xQf below args s 0 0 κ none mo) (F0 m 59 ls [])) (M : xM) (x : (Int32 × xM) ⊕ (xM)) (h : F_X7_readHead_59b v0 v2 (v3, M) = some x) (hK : (xKl W59 (fun o => o = mo)) x) (H : Heap) (locs : List Loc) (ls : Array Slot) (O : xO κ s M H locs) (hl : lv_has ls 4 [(0, .ref (κ.1 + v0)), (2, .int v2), (3, .int v3)]) : W p l e (xRm 8 0 0) s m args below meth c H locs 0 0 (xQf below args s 0 0 κ none mo) (F0 m 59 ls []) := by
  unfold F_X7_readHead_59b at h
  dsimp only at h
  have hx := X.1
  have hb := X.2.1
  refine lv_iload_n hx hb dX7_readHead_59 rfl (lv_at hl 2 rfl) ?_
  refine lv_aload_n hx hb dX7_readHead_60 rfl (lv_at hl 0 rfl) ?_
  obtain ⟨t18, ht18, h⟩ := Option.bind_eq_some_iff.mp h
  refine xr_getP X O ht18 fl_X7_22 dX7_readHead_61 ?_
  obtain ⟨_, hut19, h⟩ := Option.bind_eq_some_iff.mp h
  obtain ⟨t20, ht20, h⟩ := Option.bind_eq_some_iff.mp h
  refine xr_callV (rest := [.int v3]) X O (T_X3_cells l κ t18 M _ _ ht20) lk_X7_114 hut19 (Nat.le_of_ble_eq_true rfl) rfl hl.1 rfl (Nat.le_of_ble_eq_true rfl) dX7_readHead_64 ⟨Nat.le_of_ble_eq_true rfl, Nat.le_of_ble_eq_true rfl⟩ (fun H locs O => ?_)
  refine W.eq (g2 := F0 m 67 ls [.int t20.1, .int v3]) rfl ?_
  refine lv_icmp_ge (tgt := 94) hx hb dX7_readHead_67 (by decide) (fun hc67 => ?_) (fun hc67 => ?_)
  · rw [if_pos hc67] at h
    obtain ⟨_, hw0, ew0⟩ := Option.map_eq_some_iff.mp h
    rw [← ew0] at hK
    have h := hw0
    exact F_X7_readHead_94_ok X hr hlk  t20.2 _ h hK H locs ls O (lv_sub hl [] rfl)
  rw [if_neg hc67] at h
  refine lv_iload_n hx hb dX7_readHead_70 rfl (lv_at hl 2 rfl) ?_
  refine lv_bipush (v := (25 : Int32)) hx hb dX7_readHead_71 (by decide) ?_
  refine lv_icmp_ge (tgt := 94) hx hb dX7_readHead_73 (by decide) (fun hc73 => ?_) (fun hc73 => ?_)
  · rw [if_pos hc73] at h
    obtain ⟨_, hw0, ew0⟩ := Option.map_eq_some_iff.mp h
    rw [← ew0] at hK
    have h := hw0
    exact F_X7_readHead_94_ok X hr hlk  t20.2 _ h hK H locs ls O (lv_sub hl [] rfl)
  rw [if_neg hc73] at h
  refine lv_aload_n hx hb dX7_readHead_76 rfl (lv_at hl 0 rfl) ?_
  obtain ⟨t21, ht21, h⟩ := Option.bind_eq_some_iff.mp h
  refine xr_getP X O ht21 fl_X7_29 dX7_readHead_77 ?_
  obtain ⟨t22, ht22, h⟩ := Option.bind_eq_some_iff.mp h
  refine xr_getP X O ht22 fl_X7_135 dX7_readHead_80 ?_
  refine lv_iload_n hx hb dX7_readHead_83 rfl (lv_at hl 2 rfl) ?_
  refine lv_iload_n hx hb dX7_readHead_84 rfl (lv_at hl 2 rfl) ?_
  refine lv_iload_n hx hb dX7_readHead_85 rfl (lv_at hl 1 rfl) ?_
  by_cases hz86 : v2 = 0
  · rw [if_pos hz86] at h; cases h
  rw [if_neg hz86] at h
  refine lv_idiv hx hb dX7_readHead_86 hz86 ?_
  obtain ⟨t23, ht23, h⟩ := Option.bind_eq_some_iff.mp h
  refine xr_stI X O ht23 dX7_readHead_87 (fun H locs O => ?_)
  refine lv_iinc (v := (v3 + 1)) (lv' := [(3, .int (v3 + 1)), (0, .ref (κ.1 + v0)), (2, .int v2)]) hx hb dX7_readHead_88 hl (k := 2) rfl rfl (by decide) rfl (fun ls hl => ?_)
  refine lv_goto (tgt := 59) hx hb dX7_readHead_91 (by decide) ?_
  rw [← Option.some.inj h] at hK
  exact hW59 (v3 + 1) t23 hK H locs ls O (lv_sub hl [1, 2, 0] rfl)
set_option maxRecDepth 100000 in
set_option maxHeartbeats 4000000 in
theorem F_X7_readHead_59_ok (X : xX p s m args c cX7_readHead 4 RX7 κ) (hr : meth.sig.returnType = none) (hlk : meth.locks = false) {mo : xM} (v0 : Nat) (v2 : Int32) (v3 : Int32) (M : xM) (x : xM) (h : F_X7_readHead_59 v0 v2 v3 M = some x) (hK : (fun o => o = mo) x) (H : Heap) (locs : List Loc) (ls : Array Slot) (O : xO κ s M H locs) (hl : lv_has ls 4 [(0, .ref (κ.1 + v0)), (2, .int v2), (3, .int v3)]) : W p l e (xRm 8 0 0) s m args below meth c H locs 0 0 (xQf below args s 0 0 κ none mo) (F0 m 59 ls []) := by
  refine xit_K (Wh := fun x => ∀ (H : Heap) (locs : List Loc) (ls : Array Slot), xO κ s x.2 H locs → lv_has ls 4 [(0, .ref (κ.1 + v0)), (2, .int v2), (3, .int x.1)] → W p l e (xRm 8 0 0) s m args below meth c H locs 0 0 (xQf below args s 0 0 κ none mo) (F0 m 59 ls [])) (Kp := (fun o => o = mo)) ?_ xFU (v3, M) x h hK H locs ls O hl
  intro y x h hK H locs ls O hl
  exact F_X7_readHead_59_bok X hr hlk v0 v2 y.1 (fun _ _ hw => hw) y.2 x h hK H locs ls O hl
set_option maxRecDepth 100000 in
set_option maxHeartbeats 4000000 in
theorem T_X7_readHead (l : Launch) (κ : xQ) (a0 : Nat) (M : xM) (mo : xM) (h : F_X7_readHead a0 M = some mo) : xC l yX7_readHead cX7_readHead 4 none 8 0 0 κ [.ref (κ.1 + a0)] M none mo := by
  refine xC_of rfl (Nat.le_of_ble_eq_true rfl) fun p e s m args below meth c X hr hlk hnm H locs ls O hl => ?_
  have X : xX p s m args c cX7_readHead 4 RX7 κ := X
  have hl : lv_has ls 4 [(0, .ref (κ.1 + a0))] := hl
  have hx := X.1
  have hb := X.2.1
  obtain ⟨x, hx0⟩ : ∃ x, mo = x := ⟨_, rfl⟩
  rw [hx0] at h
  have hK : x = mo := hx0.symm
  unfold F_X7_readHead at h
  refine lv_aload_n hx hb dX7_readHead_0 rfl (lv_at hl 0 rfl) ?_
  refine va_ldcS hx hb X.2.2.2.1 (X.2.2.2.2.2.2.1 1 _ rfl).1 dX7_readHead_1 ?_
  obtain ⟨_, hut1, h⟩ := Option.bind_eq_some_iff.mp h
  obtain ⟨t2, ht2, h⟩ := Option.bind_eq_some_iff.mp h
  refine xr_callV (rest := []) X O (T_X7_expectWord l κ a0 1 M _ ht2) lk_X7_123 hut1 (Nat.le_of_ble_eq_true rfl) rfl hl.1 rfl (Nat.le_of_ble_eq_true rfl) dX7_readHead_3 ⟨Nat.le_of_ble_eq_true rfl, Nat.le_of_ble_eq_true rfl⟩ (fun H locs O => ?_)
  refine W.eq (g2 := F0 m 6 ls []) rfl ?_
  refine lv_aload_n hx hb dX7_readHead_6 rfl (lv_at hl 0 rfl) ?_
  refine va_ldcS hx hb X.2.2.2.1 (X.2.2.2.2.2.2.1 2 _ rfl).1 dX7_readHead_7 ?_
  obtain ⟨_, hut3, h⟩ := Option.bind_eq_some_iff.mp h
  obtain ⟨t4, ht4, h⟩ := Option.bind_eq_some_iff.mp h
  refine xr_callV (rest := []) X O (T_X7_expectWord l κ a0 2 t2 _ ht4) lk_X7_123 hut3 (Nat.le_of_ble_eq_true rfl) rfl hl.1 rfl (Nat.le_of_ble_eq_true rfl) dX7_readHead_9 ⟨Nat.le_of_ble_eq_true rfl, Nat.le_of_ble_eq_true rfl⟩ (fun H locs O => ?_)
  refine W.eq (g2 := F0 m 12 ls []) rfl ?_
  refine lv_aload_n hx hb dX7_readHead_12 rfl (lv_at hl 0 rfl) ?_
  refine lv_iconst (v := (1 : Int32)) hx hb dX7_readHead_13 (by decide) ?_
  refine lv_iconst (v := (5 : Int32)) hx hb dX7_readHead_14 (by decide) ?_
  refine lv_iconst (v := (0 : Int32)) hx hb dX7_readHead_15 (by decide) ?_
  obtain ⟨_, hut5, h⟩ := Option.bind_eq_some_iff.mp h
  obtain ⟨t6, ht6, h⟩ := Option.bind_eq_some_iff.mp h
  refine xr_callV (rest := []) X O (T_X7_expectNumber l κ a0 (1 : Int32) (5 : Int32) (0 : Int32) t4 _ _ ht6) lk_X7_117 hut5 (Nat.le_of_ble_eq_true rfl) rfl hl.1 rfl (Nat.le_of_ble_eq_true rfl) dX7_readHead_16 ⟨Nat.le_of_ble_eq_true rfl, Nat.le_of_ble_eq_true rfl⟩ (fun H locs O => ?_)
  refine W.eq (g2 := F0 m 19 ls [.int t6.1]) rfl ?_
  refine lv_istore_n (lv' := [(1, .int t6.1), (0, .ref (κ.1 + a0))]) hx hb dX7_readHead_19 rfl hl (by decide) rfl (fun ls hl => ?_)
  refine lv_aload_n hx hb dX7_readHead_20 rfl (lv_at hl 1 rfl) ?_
  refine va_ldcS hx hb X.2.2.2.1 (X.2.2.2.2.2.2.1 3 _ rfl).1 dX7_readHead_21 ?_
  obtain ⟨_, hut7, h⟩ := Option.bind_eq_some_iff.mp h
  obtain ⟨t8, ht8, h⟩ := Option.bind_eq_some_iff.mp h
  refine xr_callV (rest := []) X O (T_X7_expectWord l κ a0 3 t6.2 _ ht8) lk_X7_123 hut7 (Nat.le_of_ble_eq_true rfl) rfl hl.1 rfl (Nat.le_of_ble_eq_true rfl) dX7_readHead_23 ⟨Nat.le_of_ble_eq_true rfl, Nat.le_of_ble_eq_true rfl⟩ (fun H locs O => ?_)
  refine W.eq (g2 := F0 m 26 ls []) rfl ?_
  refine lv_aload_n hx hb dX7_readHead_26 rfl (lv_at hl 1 rfl) ?_
  refine lv_iconst (v := (1 : Int32)) hx hb dX7_readHead_27 (by decide) ?_
  refine lv_iconst (v := (5 : Int32)) hx hb dX7_readHead_28 (by decide) ?_
  refine lv_iconst (v := (0 : Int32)) hx hb dX7_readHead_29 (by decide) ?_
  obtain ⟨_, hut9, h⟩ := Option.bind_eq_some_iff.mp h
  obtain ⟨t10, ht10, h⟩ := Option.bind_eq_some_iff.mp h
  refine xr_callV (rest := []) X O (T_X7_expectNumber l κ a0 (1 : Int32) (5 : Int32) (0 : Int32) t8 _ _ ht10) lk_X7_117 hut9 (Nat.le_of_ble_eq_true rfl) rfl hl.1 rfl (Nat.le_of_ble_eq_true rfl) dX7_readHead_30 ⟨Nat.le_of_ble_eq_true rfl, Nat.le_of_ble_eq_true rfl⟩ (fun H locs O => ?_)
  refine W.eq (g2 := F0 m 33 ls [.int t10.1]) rfl ?_
  refine lv_istore_n (lv' := [(2, .int t10.1), (1, .int t6.1), (0, .ref (κ.1 + a0))]) hx hb dX7_readHead_33 rfl hl (by decide) rfl (fun ls hl => ?_)
  refine lv_aload_n hx hb dX7_readHead_34 rfl (lv_at hl 2 rfl) ?_
  refine lv_bipush (v := (59 : Int32)) hx hb dX7_readHead_35 (by decide) ?_
  obtain ⟨_, hut11, h⟩ := Option.bind_eq_some_iff.mp h
  obtain ⟨t12, ht12, h⟩ := Option.bind_eq_some_iff.mp h
  refine xr_callV (rest := []) X O (T_X7_expectSign l κ a0 (59 : Int32) t10.2 _ ht12) lk_X7_70 hut11 (Nat.le_of_ble_eq_true rfl) rfl hl.1 rfl (Nat.le_of_ble_eq_true rfl) dX7_readHead_37 ⟨Nat.le_of_ble_eq_true rfl, Nat.le_of_ble_eq_true rfl⟩ (fun H locs O => ?_)
  refine W.eq (g2 := F0 m 40 ls []) rfl ?_
  refine lv_aload_n hx hb dX7_readHead_40 rfl (lv_at hl 2 rfl) ?_
  obtain ⟨t13, ht13, h⟩ := Option.bind_eq_some_iff.mp h
  refine xr_getP X O ht13 fl_X7_22 dX7_readHead_41 ?_
  refine lv_iload_n hx hb dX7_readHead_44 rfl (lv_at hl 1 rfl) ?_
  refine lv_iload_n hx hb dX7_readHead_45 rfl (lv_at hl 0 rfl) ?_
  obtain ⟨_, hut14, h⟩ := Option.bind_eq_some_iff.mp h
  obtain ⟨t15, ht15, h⟩ := Option.bind_eq_some_iff.mp h
  refine xr_callV (rest := []) X O (T_X3_setSize l κ t13 t6.1 t10.1 t12 _ ht15) lk_X7_131 hut14 (Nat.le_of_ble_eq_true rfl) rfl hl.1 rfl (Nat.le_of_ble_eq_true rfl) dX7_readHead_46 ⟨Nat.le_of_ble_eq_true rfl, Nat.le_of_ble_eq_true rfl⟩ (fun H locs O => ?_)
  refine W.eq (g2 := F0 m 49 ls []) rfl ?_
  refine lv_aload_n hx hb dX7_readHead_49 rfl (lv_at hl 2 rfl) ?_
  obtain ⟨t16, ht16, h⟩ := Option.bind_eq_some_iff.mp h
  refine xr_getP X O ht16 fl_X7_22 dX7_readHead_50 ?_
  refine lv_iconst (v := (1 : Int32)) hx hb dX7_readHead_53 (by decide) ?_
  obtain ⟨t17, ht17, h⟩ := Option.bind_eq_some_iff.mp h
  refine xr_putI X O ht17 fl_X7_74 dX7_readHead_54 (fun H locs O => ?_)
  refine lv_iconst (v := (0 : Int32)) hx hb dX7_readHead_57 (by decide) ?_
  refine lv_istore_n (lv' := [(3, .int (0 : Int32)), (2, .int t10.1), (1, .int t6.1), (0, .ref (κ.1 + a0))]) hx hb dX7_readHead_58 rfl hl (by decide) rfl (fun ls hl => ?_)
  exact F_X7_readHead_59_ok X hr hlk a0 t10.1 (0 : Int32) t17 _ h hK H locs ls O (lv_sub hl [3, 1, 0] rfl)
def F_X7_expectCell (a0 : Nat) (a1 : Int32) (M : xM) : Option (Int32 × xM) :=
(xgP M a0 7 0).bind fun t1 =>
(xck M t1 3).bind fun _ =>
(F_X3_cells t1 M).bind fun t3 =>
(xck t3.2 a0 7).bind fun _ =>
(F_X7_expectNumber a0 (0 : Int32) (t3.1 - (1 : Int32)) a1 t3.2).bind fun t5 =>
some (t5.1, t5.2)
set_option maxRecDepth 100000 in
set_option maxHeartbeats 4000000 in
theorem T_X7_expectCell (l : Launch) (κ : xQ) (a0 : Nat) (a1 : Int32) (M : xM) (ro : Int32) (mo : xM) (h : F_X7_expectCell a0 a1 M = some (ro, mo)) : xC l yX7_expectCell cX7_expectCell 2 (some .int) 8 0 0 κ [.ref (κ.1 + a0), .int a1] M (some (.int ro)) mo := by
  refine xC_of rfl (Nat.le_of_ble_eq_true rfl) fun p e s m args below meth c X hr hlk hnm H locs ls O hl => ?_
  have X : xX p s m args c cX7_expectCell 2 RX7 κ := X
  have hl : lv_has ls 2 [(0, .ref (κ.1 + a0)), (1, .int a1)] := hl
  have hx := X.1
  have hb := X.2.1
  obtain ⟨x, hx0⟩ : ∃ x, (ro, mo) = x := ⟨_, rfl⟩
  rw [hx0] at h
  have hK : x = (ro, mo) := hx0.symm
  unfold F_X7_expectCell at h
  refine lv_aload_n hx hb dX7_expectCell_0 rfl (lv_at hl 0 rfl) ?_
  refine lv_iconst (v := (0 : Int32)) hx hb dX7_expectCell_1 (by decide) ?_
  refine lv_aload_n hx hb dX7_expectCell_2 rfl (lv_at hl 0 rfl) ?_
  obtain ⟨t1, ht1, h⟩ := Option.bind_eq_some_iff.mp h
  refine xr_getP X O ht1 fl_X7_22 dX7_expectCell_3 ?_
  obtain ⟨_, hut2, h⟩ := Option.bind_eq_some_iff.mp h
  obtain ⟨t3, ht3, h⟩ := Option.bind_eq_some_iff.mp h
  refine xr_callV (rest := [.int (0 : Int32), .ref (κ.1 + a0)]) X O (T_X3_cells l κ t1 M _ _ ht3) lk_X7_114 hut2 (Nat.le_of_ble_eq_true rfl) rfl hl.1 rfl (Nat.le_of_ble_eq_true rfl) dX7_expectCell_6 ⟨Nat.le_of_ble_eq_true rfl, Nat.le_of_ble_eq_true rfl⟩ (fun H locs O => ?_)
  refine W.eq (g2 := F0 m 9 ls [.int t3.1, .int (0 : Int32), .ref (κ.1 + a0)]) rfl ?_
  refine lv_iconst (v := (1 : Int32)) hx hb dX7_expectCell_9 (by decide) ?_
  refine lv_isub hx hb dX7_expectCell_10 ?_
  refine lv_iload_n hx hb dX7_expectCell_11 rfl (lv_at hl 1 rfl) ?_
  obtain ⟨_, hut4, h⟩ := Option.bind_eq_some_iff.mp h
  obtain ⟨t5, ht5, h⟩ := Option.bind_eq_some_iff.mp h
  refine xr_callV (rest := []) X O (T_X7_expectNumber l κ a0 (0 : Int32) (t3.1 - (1 : Int32)) a1 t3.2 _ _ ht5) lk_X7_117 hut4 (Nat.le_of_ble_eq_true rfl) rfl hl.1 rfl (Nat.le_of_ble_eq_true rfl) dX7_expectCell_12 ⟨Nat.le_of_ble_eq_true rfl, Nat.le_of_ble_eq_true rfl⟩ (fun H locs O => ?_)
  refine W.eq (g2 := F0 m 15 ls [.int t5.1]) rfl ?_
  rw [← Option.some.inj h] at hK
  have hK : (t5.1, t5.2) = (ro, mo) := hK
  obtain ⟨hK1, hK2⟩ := Prod.mk.inj hK
  rw [hK2] at O
  refine xr_top (w := .int ro) (by rw [hK1]) ?_
  exact xr_iret X hr hlk O dX7_expectCell_15
def F_X7_readSand (a0 : Nat) (M : xM) : Option (xM) :=
(xck M a0 7).bind fun _ =>
(F_X7_step a0 M).bind fun t2 =>
(xck t2 a0 7).bind fun _ =>
(F_X7_expectCell a0 (0 : Int32) t2).bind fun t4 =>
(xck t4.2 a0 7).bind fun _ =>
(F_X7_expectNumber a0 (0 : Int32) (9 : Int32) (0 : Int32) t4.2).bind fun t6 =>
(xgI t6.2 a0 7 2).bind fun t7 =>
if t7 = 0 then (
if (25 : Int32) ≤ t4.1 then (
some t6.2)
else (
(xgP t6.2 a0 7 1).bind fun t8 =>
(xgP t6.2 t8 0 0).bind fun t9 =>
(xsI t6.2 t9 t4.1 t6.1).bind fun t10 =>
some t10))
else (
some t6.2)
set_option maxRecDepth 100000 in
set_option maxHeartbeats 4000000 in
theorem T_X7_readSand (l : Launch) (κ : xQ) (a0 : Nat) (M : xM) (mo : xM) (h : F_X7_readSand a0 M = some mo) : xC l yX7_readSand cX7_readSand 3 none 9 0 0 κ [.ref (κ.1 + a0)] M none mo := by
  refine xC_of rfl (Nat.le_of_ble_eq_true rfl) fun p e s m args below meth c X hr hlk hnm H locs ls O hl => ?_
  have X : xX p s m args c cX7_readSand 3 RX7 κ := X
  have hl : lv_has ls 3 [(0, .ref (κ.1 + a0))] := hl
  have hx := X.1
  have hb := X.2.1
  obtain ⟨x, hx0⟩ : ∃ x, mo = x := ⟨_, rfl⟩
  rw [hx0] at h
  have hK : x = mo := hx0.symm
  unfold F_X7_readSand at h
  refine lv_aload_n hx hb dX7_readSand_0 rfl (lv_at hl 0 rfl) ?_
  obtain ⟨_, hut1, h⟩ := Option.bind_eq_some_iff.mp h
  obtain ⟨t2, ht2, h⟩ := Option.bind_eq_some_iff.mp h
  refine xr_callV (rest := []) X O (T_X7_step l κ a0 M _ ht2) lk_X7_58 hut1 (Nat.le_of_ble_eq_true rfl) rfl hl.1 rfl (Nat.le_of_ble_eq_true rfl) dX7_readSand_1 ⟨Nat.le_of_ble_eq_true rfl, Nat.le_of_ble_eq_true rfl⟩ (fun H locs O => ?_)
  refine W.eq (g2 := F0 m 4 ls []) rfl ?_
  refine lv_aload_n hx hb dX7_readSand_4 rfl (lv_at hl 0 rfl) ?_
  refine lv_iconst (v := (0 : Int32)) hx hb dX7_readSand_5 (by decide) ?_
  obtain ⟨_, hut3, h⟩ := Option.bind_eq_some_iff.mp h
  obtain ⟨t4, ht4, h⟩ := Option.bind_eq_some_iff.mp h
  refine xr_callV (rest := []) X O (T_X7_expectCell l κ a0 (0 : Int32) t2 _ _ ht4) lk_X7_179 hut3 (Nat.le_of_ble_eq_true rfl) rfl hl.1 rfl (Nat.le_of_ble_eq_true rfl) dX7_readSand_6 ⟨Nat.le_of_ble_eq_true rfl, Nat.le_of_ble_eq_true rfl⟩ (fun H locs O => ?_)
  refine W.eq (g2 := F0 m 9 ls [.int t4.1]) rfl ?_
  refine lv_istore_n (lv' := [(1, .int t4.1), (0, .ref (κ.1 + a0))]) hx hb dX7_readSand_9 rfl hl (by decide) rfl (fun ls hl => ?_)
  refine lv_aload_n hx hb dX7_readSand_10 rfl (lv_at hl 1 rfl) ?_
  refine lv_iconst (v := (0 : Int32)) hx hb dX7_readSand_11 (by decide) ?_
  refine lv_bipush (v := (9 : Int32)) hx hb dX7_readSand_12 (by decide) ?_
  refine lv_iconst (v := (0 : Int32)) hx hb dX7_readSand_14 (by decide) ?_
  obtain ⟨_, hut5, h⟩ := Option.bind_eq_some_iff.mp h
  obtain ⟨t6, ht6, h⟩ := Option.bind_eq_some_iff.mp h
  refine xr_callV (rest := []) X O (T_X7_expectNumber l κ a0 (0 : Int32) (9 : Int32) (0 : Int32) t4.2 _ _ ht6) lk_X7_117 hut5 (Nat.le_of_ble_eq_true rfl) rfl hl.1 rfl (Nat.le_of_ble_eq_true rfl) dX7_readSand_15 ⟨Nat.le_of_ble_eq_true rfl, Nat.le_of_ble_eq_true rfl⟩ (fun H locs O => ?_)
  refine W.eq (g2 := F0 m 18 ls [.int t6.1]) rfl ?_
  refine lv_istore_n (lv' := [(2, .int t6.1), (1, .int t4.1), (0, .ref (κ.1 + a0))]) hx hb dX7_readSand_18 rfl hl (by decide) rfl (fun ls hl => ?_)
  refine lv_aload_n hx hb dX7_readSand_19 rfl (lv_at hl 2 rfl) ?_
  obtain ⟨t7, ht7, h⟩ := Option.bind_eq_some_iff.mp h
  refine xr_getI X O ht7 fl_X7_48 (Or.inl rfl) dX7_readSand_20 ?_
  refine lv_if_ne (tgt := 42) hx hb dX7_readSand_23 (by decide) (fun hc23 => ?_) (fun hc23 => ?_)
  · rw [if_neg hc23] at h
    rw [← Option.some.inj h] at hK
    have hK : t6.2 = mo := hK
    rw [hK] at O
    exact xr_vret X hr hlk O dX7_readSand_42
  rw [if_pos hc23] at h
  refine lv_iload_n hx hb dX7_readSand_26 rfl (lv_at hl 1 rfl) ?_
  refine lv_bipush (v := (25 : Int32)) hx hb dX7_readSand_27 (by decide) ?_
  refine lv_icmp_ge (tgt := 42) hx hb dX7_readSand_29 (by decide) (fun hc29 => ?_) (fun hc29 => ?_)
  · rw [if_pos hc29] at h
    rw [← Option.some.inj h] at hK
    have hK : t6.2 = mo := hK
    rw [hK] at O
    exact xr_vret X hr hlk O dX7_readSand_42
  rw [if_neg hc29] at h
  refine lv_aload_n hx hb dX7_readSand_32 rfl (lv_at hl 2 rfl) ?_
  obtain ⟨t8, ht8, h⟩ := Option.bind_eq_some_iff.mp h
  refine xr_getP X O ht8 fl_X7_29 dX7_readSand_33 ?_
  obtain ⟨t9, ht9, h⟩ := Option.bind_eq_some_iff.mp h
  refine xr_getP X O ht9 fl_X7_135 dX7_readSand_36 ?_
  refine lv_iload_n hx hb dX7_readSand_39 rfl (lv_at hl 1 rfl) ?_
  refine lv_iload_n hx hb dX7_readSand_40 rfl (lv_at hl 0 rfl) ?_
  obtain ⟨t10, ht10, h⟩ := Option.bind_eq_some_iff.mp h
  refine xr_stI X O ht10 dX7_readSand_41 (fun H locs O => ?_)
  rw [← Option.some.inj h] at hK
  have hK : t10 = mo := hK
  rw [hK] at O
  exact xr_vret X hr hlk O dX7_readSand_42
def F_X7_expectOwner (a0 : Nat) (a1 : Int32) (M : xM) : Option (Int32 × xM) :=
(xck M a0 7).bind fun _ =>
(F_X7_expectNumber a0 (0 : Int32) (4 : Int32) a1 M).bind fun t2 =>
some (t2.1, t2.2)
set_option maxRecDepth 100000 in
set_option maxHeartbeats 4000000 in
theorem T_X7_expectOwner (l : Launch) (κ : xQ) (a0 : Nat) (a1 : Int32) (M : xM) (ro : Int32) (mo : xM) (h : F_X7_expectOwner a0 a1 M = some (ro, mo)) : xC l yX7_expectOwner cX7_expectOwner 2 (some .int) 8 0 0 κ [.ref (κ.1 + a0), .int a1] M (some (.int ro)) mo := by
  refine xC_of rfl (Nat.le_of_ble_eq_true rfl) fun p e s m args below meth c X hr hlk hnm H locs ls O hl => ?_
  have X : xX p s m args c cX7_expectOwner 2 RX7 κ := X
  have hl : lv_has ls 2 [(0, .ref (κ.1 + a0)), (1, .int a1)] := hl
  have hx := X.1
  have hb := X.2.1
  obtain ⟨x, hx0⟩ : ∃ x, (ro, mo) = x := ⟨_, rfl⟩
  rw [hx0] at h
  have hK : x = (ro, mo) := hx0.symm
  unfold F_X7_expectOwner at h
  refine lv_aload_n hx hb dX7_expectOwner_0 rfl (lv_at hl 0 rfl) ?_
  refine lv_iconst (v := (0 : Int32)) hx hb dX7_expectOwner_1 (by decide) ?_
  refine lv_iconst (v := (4 : Int32)) hx hb dX7_expectOwner_2 (by decide) ?_
  refine lv_iload_n hx hb dX7_expectOwner_3 rfl (lv_at hl 1 rfl) ?_
  obtain ⟨_, hut1, h⟩ := Option.bind_eq_some_iff.mp h
  obtain ⟨t2, ht2, h⟩ := Option.bind_eq_some_iff.mp h
  refine xr_callV (rest := []) X O (T_X7_expectNumber l κ a0 (0 : Int32) (4 : Int32) a1 M _ _ ht2) lk_X7_117 hut1 (Nat.le_of_ble_eq_true rfl) rfl hl.1 rfl (Nat.le_of_ble_eq_true rfl) dX7_expectOwner_4 ⟨Nat.le_of_ble_eq_true rfl, Nat.le_of_ble_eq_true rfl⟩ (fun H locs O => ?_)
  refine W.eq (g2 := F0 m 7 ls [.int t2.1]) rfl ?_
  rw [← Option.some.inj h] at hK
  have hK : (t2.1, t2.2) = (ro, mo) := hK
  obtain ⟨hK1, hK2⟩ := Prod.mk.inj hK
  rw [hK2] at O
  refine xr_top (w := .int ro) (by rw [hK1]) ?_
  exact xr_iret X hr hlk O dX7_expectOwner_7
def F_X7_readHouse (a0 : Nat) (M : xM) : Option (xM) :=
(xgP M a0 7 1).bind fun t1 =>
(xgI M t1 0 3).bind fun t2 =>
if t2 < (6 : Int32) then (
(xck M a0 7).bind fun _ =>
(F_X7_step a0 M).bind fun t4 =>
(xgP t4 a0 7 1).bind fun t5 =>
(xck t4 t5 0).bind fun _ =>
(F_X0_builtCells t5 t4).bind fun t7 =>
(xck t7.2 a0 7).bind fun _ =>
(F_X7_expectCell a0 t7.1 t7.2).bind fun t9 =>
(xck t9.2 a0 7).bind fun _ =>
(F_X7_expectWord a0 6 t9.2).bind fun t11 =>
(xck t11 a0 7).bind fun _ =>
(F_X7_expectOwner a0 (0 : Int32) t11).bind fun t13 =>
(xgI t13.2 a0 7 2).bind fun t14 =>
if t14 = 0 then (
(xgP t13.2 a0 7 1).bind fun t15 =>
(xgP t13.2 a0 7 0).bind fun t16 =>
(xck t13.2 t16 3).bind fun _ =>
(F_X3_cells t16 t13.2).bind fun t18 =>
(xck t18.2 t15 0).bind fun _ =>
(F_X0_settle t15 t9.1 t13.1 t18.1 t18.2).bind fun t20 =>
some t20.2)
else (
some t13.2))
else (
(xck M a0 7).bind fun _ =>
(F_X7_fail a0 (4 : Int32) M).bind fun t22 =>
some t22)
set_option maxRecDepth 100000 in
set_option maxHeartbeats 4000000 in
theorem T_X7_readHouse (l : Launch) (κ : xQ) (a0 : Nat) (M : xM) (mo : xM) (h : F_X7_readHouse a0 M = some mo) : xC l yX7_readHouse cX7_readHouse 3 none 9 0 0 κ [.ref (κ.1 + a0)] M none mo := by
  refine xC_of rfl (Nat.le_of_ble_eq_true rfl) fun p e s m args below meth c X hr hlk hnm H locs ls O hl => ?_
  have X : xX p s m args c cX7_readHouse 3 RX7 κ := X
  have hl : lv_has ls 3 [(0, .ref (κ.1 + a0))] := hl
  have hx := X.1
  have hb := X.2.1
  obtain ⟨x, hx0⟩ : ∃ x, mo = x := ⟨_, rfl⟩
  rw [hx0] at h
  have hK : x = mo := hx0.symm
  unfold F_X7_readHouse at h
  refine lv_aload_n hx hb dX7_readHouse_0 rfl (lv_at hl 0 rfl) ?_
  obtain ⟨t1, ht1, h⟩ := Option.bind_eq_some_iff.mp h
  refine xr_getP X O ht1 fl_X7_29 dX7_readHouse_1 ?_
  obtain ⟨t2, ht2, h⟩ := Option.bind_eq_some_iff.mp h
  refine xr_getI X O ht2 fl_X7_182 (Or.inl rfl) dX7_readHouse_4 ?_
  refine lv_bipush (v := (6 : Int32)) hx hb dX7_readHouse_7 (by decide) ?_
  refine lv_icmp_lt (tgt := 18) hx hb dX7_readHouse_9 (by decide) (fun hc9 => ?_) (fun hc9 => ?_)
  · rw [if_pos hc9] at h
    refine lv_aload_n hx hb dX7_readHouse_18 rfl (lv_at hl 0 rfl) ?_
    obtain ⟨_, hut3, h⟩ := Option.bind_eq_some_iff.mp h
    obtain ⟨t4, ht4, h⟩ := Option.bind_eq_some_iff.mp h
    refine xr_callV (rest := []) X O (T_X7_step l κ a0 M _ ht4) lk_X7_58 hut3 (Nat.le_of_ble_eq_true rfl) rfl hl.1 rfl (Nat.le_of_ble_eq_true rfl) dX7_readHouse_19 ⟨Nat.le_of_ble_eq_true rfl, Nat.le_of_ble_eq_true rfl⟩ (fun H locs O => ?_)
    refine W.eq (g2 := F0 m 22 ls []) rfl ?_
    refine lv_aload_n hx hb dX7_readHouse_22 rfl (lv_at hl 0 rfl) ?_
    refine lv_aload_n hx hb dX7_readHouse_23 rfl (lv_at hl 0 rfl) ?_
    obtain ⟨t5, ht5, h⟩ := Option.bind_eq_some_iff.mp h
    refine xr_getP X O ht5 fl_X7_29 dX7_readHouse_24 ?_
    obtain ⟨_, hut6, h⟩ := Option.bind_eq_some_iff.mp h
    obtain ⟨t7, ht7, h⟩ := Option.bind_eq_some_iff.mp h
    refine xr_callV (rest := [.ref (κ.1 + a0)]) X O (T_X0_builtCells l κ t5 t4 _ _ ht7) lk_X7_185 hut6 (Nat.le_of_ble_eq_true rfl) rfl hl.1 rfl (Nat.le_of_ble_eq_true rfl) dX7_readHouse_27 ⟨Nat.le_of_ble_eq_true rfl, Nat.le_of_ble_eq_true rfl⟩ (fun H locs O => ?_)
    refine W.eq (g2 := F0 m 30 ls [.int t7.1, .ref (κ.1 + a0)]) rfl ?_
    obtain ⟨_, hut8, h⟩ := Option.bind_eq_some_iff.mp h
    obtain ⟨t9, ht9, h⟩ := Option.bind_eq_some_iff.mp h
    refine xr_callV (rest := []) X O (T_X7_expectCell l κ a0 t7.1 t7.2 _ _ ht9) lk_X7_179 hut8 (Nat.le_of_ble_eq_true rfl) rfl hl.1 rfl (Nat.le_of_ble_eq_true rfl) dX7_readHouse_30 ⟨Nat.le_of_ble_eq_true rfl, Nat.le_of_ble_eq_true rfl⟩ (fun H locs O => ?_)
    refine W.eq (g2 := F0 m 33 ls [.int t9.1]) rfl ?_
    refine lv_istore_n (lv' := [(1, .int t9.1), (0, .ref (κ.1 + a0))]) hx hb dX7_readHouse_33 rfl hl (by decide) rfl (fun ls hl => ?_)
    refine lv_aload_n hx hb dX7_readHouse_34 rfl (lv_at hl 1 rfl) ?_
    refine va_ldcS hx hb X.2.2.2.1 (X.2.2.2.2.2.2.1 6 _ rfl).1 dX7_readHouse_35 ?_
    obtain ⟨_, hut10, h⟩ := Option.bind_eq_some_iff.mp h
    obtain ⟨t11, ht11, h⟩ := Option.bind_eq_some_iff.mp h
    refine xr_callV (rest := []) X O (T_X7_expectWord l κ a0 6 t9.2 _ ht11) lk_X7_123 hut10 (Nat.le_of_ble_eq_true rfl) rfl hl.1 rfl (Nat.le_of_ble_eq_true rfl) dX7_readHouse_37 ⟨Nat.le_of_ble_eq_true rfl, Nat.le_of_ble_eq_true rfl⟩ (fun H locs O => ?_)
    refine W.eq (g2 := F0 m 40 ls []) rfl ?_
    refine lv_aload_n hx hb dX7_readHouse_40 rfl (lv_at hl 1 rfl) ?_
    refine lv_iconst (v := (0 : Int32)) hx hb dX7_readHouse_41 (by decide) ?_
    obtain ⟨_, hut12, h⟩ := Option.bind_eq_some_iff.mp h
    obtain ⟨t13, ht13, h⟩ := Option.bind_eq_some_iff.mp h
    refine xr_callV (rest := []) X O (T_X7_expectOwner l κ a0 (0 : Int32) t11 _ _ ht13) lk_X7_190 hut12 (Nat.le_of_ble_eq_true rfl) rfl hl.1 rfl (Nat.le_of_ble_eq_true rfl) dX7_readHouse_42 ⟨Nat.le_of_ble_eq_true rfl, Nat.le_of_ble_eq_true rfl⟩ (fun H locs O => ?_)
    refine W.eq (g2 := F0 m 45 ls [.int t13.1]) rfl ?_
    refine lv_istore_n (lv' := [(2, .int t13.1), (1, .int t9.1), (0, .ref (κ.1 + a0))]) hx hb dX7_readHouse_45 rfl hl (by decide) rfl (fun ls hl => ?_)
    refine lv_aload_n hx hb dX7_readHouse_46 rfl (lv_at hl 2 rfl) ?_
    obtain ⟨t14, ht14, h⟩ := Option.bind_eq_some_iff.mp h
    refine xr_getI X O ht14 fl_X7_48 (Or.inl rfl) dX7_readHouse_47 ?_
    refine lv_if_ne (tgt := 70) hx hb dX7_readHouse_50 (by decide) (fun hc50 => ?_) (fun hc50 => ?_)
    · rw [if_neg hc50] at h
      rw [← Option.some.inj h] at hK
      have hK : t13.2 = mo := hK
      rw [hK] at O
      exact xr_vret X hr hlk O dX7_readHouse_70
    rw [if_pos hc50] at h
    refine lv_aload_n hx hb dX7_readHouse_53 rfl (lv_at hl 2 rfl) ?_
    obtain ⟨t15, ht15, h⟩ := Option.bind_eq_some_iff.mp h
    refine xr_getP X O ht15 fl_X7_29 dX7_readHouse_54 ?_
    refine lv_iload_n hx hb dX7_readHouse_57 rfl (lv_at hl 1 rfl) ?_
    refine lv_iload_n hx hb dX7_readHouse_58 rfl (lv_at hl 0 rfl) ?_
    refine lv_aload_n hx hb dX7_readHouse_59 rfl (lv_at hl 2 rfl) ?_
    obtain ⟨t16, ht16, h⟩ := Option.bind_eq_some_iff.mp h
    refine xr_getP X O ht16 fl_X7_22 dX7_readHouse_60 ?_
    obtain ⟨_, hut17, h⟩ := Option.bind_eq_some_iff.mp h
    obtain ⟨t18, ht18, h⟩ := Option.bind_eq_some_iff.mp h
    refine xr_callV (rest := [.int t13.1, .int t9.1, .ref (κ.1 + t15)]) X O (T_X3_cells l κ t16 t13.2 _ _ ht18) lk_X7_114 hut17 (Nat.le_of_ble_eq_true rfl) rfl hl.1 rfl (Nat.le_of_ble_eq_true rfl) dX7_readHouse_63 ⟨Nat.le_of_ble_eq_true rfl, Nat.le_of_ble_eq_true rfl⟩ (fun H locs O => ?_)
    refine W.eq (g2 := F0 m 66 ls [.int t18.1, .int t13.1, .int t9.1, .ref (κ.1 + t15)]) rfl ?_
    obtain ⟨_, hut19, h⟩ := Option.bind_eq_some_iff.mp h
    obtain ⟨t20, ht20, h⟩ := Option.bind_eq_some_iff.mp h
    refine xr_callV (rest := []) X O (T_X0_settle l κ t15 t9.1 t13.1 t18.1 t18.2 _ _ ht20) lk_X7_193 hut19 (Nat.le_of_ble_eq_true rfl) rfl hl.1 rfl (Nat.le_of_ble_eq_true rfl) dX7_readHouse_66 ⟨Nat.le_of_ble_eq_true rfl, Nat.le_of_ble_eq_true rfl⟩ (fun H locs O => ?_)
    refine W.eq (g2 := F0 m 69 ls [.int t20.1]) rfl ?_
    refine lv_pop hx hb dX7_readHouse_69 rfl ?_
    rw [← Option.some.inj h] at hK
    have hK : t20.2 = mo := hK
    rw [hK] at O
    exact xr_vret X hr hlk O dX7_readHouse_70
  rw [if_neg hc9] at h
  refine lv_aload_n hx hb dX7_readHouse_12 rfl (lv_at hl 0 rfl) ?_
  refine lv_iconst (v := (4 : Int32)) hx hb dX7_readHouse_13 (by decide) ?_
  obtain ⟨_, hut21, h⟩ := Option.bind_eq_some_iff.mp h
  obtain ⟨t22, ht22, h⟩ := Option.bind_eq_some_iff.mp h
  refine xr_callV (rest := []) X O (T_X7_fail l κ a0 (4 : Int32) M _ ht22) lk_X7_103 hut21 (Nat.le_of_ble_eq_true rfl) rfl hl.1 rfl (Nat.le_of_ble_eq_true rfl) dX7_readHouse_14 ⟨Nat.le_of_ble_eq_true rfl, Nat.le_of_ble_eq_true rfl⟩ (fun H locs O => ?_)
  refine W.eq (g2 := F0 m 17 ls []) rfl ?_
  rw [← Option.some.inj h] at hK
  have hK : t22 = mo := hK
  rw [hK] at O
  exact xr_vret X hr hlk O dX7_readHouse_17
def F_X7_readPlot (a0 : Nat) (M : xM) : Option (xM) :=
(xgP M a0 7 0).bind fun t1 =>
(xgI M t1 3 5).bind fun t2 =>
if t2 < (6 : Int32) then (
(xck M a0 7).bind fun _ =>
(F_X7_step a0 M).bind fun t4 =>
(xck t4 a0 7).bind fun _ =>
(F_X7_expectCell a0 (0 : Int32) t4).bind fun t6 =>
(xck t6.2 a0 7).bind fun _ =>
(F_X7_expectWord a0 8 t6.2).bind fun t8 =>
(xck t8 a0 7).bind fun _ =>
(F_X7_expectNumber a0 (1 : Int32) (9 : Int32) (0 : Int32) t8).bind fun t10 =>
(xck t10.2 a0 7).bind fun _ =>
(F_X7_expectWord a0 9 t10.2).bind fun t12 =>
(xck t12 a0 7).bind fun _ =>
(F_X7_expectNumber a0 (0 : Int32) (9 : Int32) (0 : Int32) t12).bind fun t14 =>
(xgI t14.2 a0 7 2).bind fun t15 =>
if t15 = 0 then (
(xgP t14.2 a0 7 0).bind fun t16 =>
(xck t14.2 t16 3).bind fun _ =>
(F_X3_addPlot t16 t6.1 t10.1 t14.1 t14.2).bind fun t18 =>
some t18)
else (
some t14.2))
else (
(xck M a0 7).bind fun _ =>
(F_X7_fail a0 (4 : Int32) M).bind fun t20 =>
some t20)
set_option maxRecDepth 100000 in
set_option maxHeartbeats 4000000 in
theorem T_X7_readPlot (l : Launch) (κ : xQ) (a0 : Nat) (M : xM) (mo : xM) (h : F_X7_readPlot a0 M = some mo) : xC l yX7_readPlot cX7_readPlot 4 none 9 0 0 κ [.ref (κ.1 + a0)] M none mo := by
  refine xC_of rfl (Nat.le_of_ble_eq_true rfl) fun p e s m args below meth c X hr hlk hnm H locs ls O hl => ?_
  have X : xX p s m args c cX7_readPlot 4 RX7 κ := X
  have hl : lv_has ls 4 [(0, .ref (κ.1 + a0))] := hl
  have hx := X.1
  have hb := X.2.1
  obtain ⟨x, hx0⟩ : ∃ x, mo = x := ⟨_, rfl⟩
  rw [hx0] at h
  have hK : x = mo := hx0.symm
  unfold F_X7_readPlot at h
  refine lv_aload_n hx hb dX7_readPlot_0 rfl (lv_at hl 0 rfl) ?_
  obtain ⟨t1, ht1, h⟩ := Option.bind_eq_some_iff.mp h
  refine xr_getP X O ht1 fl_X7_22 dX7_readPlot_1 ?_
  obtain ⟨t2, ht2, h⟩ := Option.bind_eq_some_iff.mp h
  refine xr_getI X O ht2 fl_X7_196 (Or.inl rfl) dX7_readPlot_4 ?_
  refine lv_bipush (v := (6 : Int32)) hx hb dX7_readPlot_7 (by decide) ?_
  refine lv_icmp_lt (tgt := 18) hx hb dX7_readPlot_9 (by decide) (fun hc9 => ?_) (fun hc9 => ?_)
  · rw [if_pos hc9] at h
    refine lv_aload_n hx hb dX7_readPlot_18 rfl (lv_at hl 0 rfl) ?_
    obtain ⟨_, hut3, h⟩ := Option.bind_eq_some_iff.mp h
    obtain ⟨t4, ht4, h⟩ := Option.bind_eq_some_iff.mp h
    refine xr_callV (rest := []) X O (T_X7_step l κ a0 M _ ht4) lk_X7_58 hut3 (Nat.le_of_ble_eq_true rfl) rfl hl.1 rfl (Nat.le_of_ble_eq_true rfl) dX7_readPlot_19 ⟨Nat.le_of_ble_eq_true rfl, Nat.le_of_ble_eq_true rfl⟩ (fun H locs O => ?_)
    refine W.eq (g2 := F0 m 22 ls []) rfl ?_
    refine lv_aload_n hx hb dX7_readPlot_22 rfl (lv_at hl 0 rfl) ?_
    refine lv_iconst (v := (0 : Int32)) hx hb dX7_readPlot_23 (by decide) ?_
    obtain ⟨_, hut5, h⟩ := Option.bind_eq_some_iff.mp h
    obtain ⟨t6, ht6, h⟩ := Option.bind_eq_some_iff.mp h
    refine xr_callV (rest := []) X O (T_X7_expectCell l κ a0 (0 : Int32) t4 _ _ ht6) lk_X7_179 hut5 (Nat.le_of_ble_eq_true rfl) rfl hl.1 rfl (Nat.le_of_ble_eq_true rfl) dX7_readPlot_24 ⟨Nat.le_of_ble_eq_true rfl, Nat.le_of_ble_eq_true rfl⟩ (fun H locs O => ?_)
    refine W.eq (g2 := F0 m 27 ls [.int t6.1]) rfl ?_
    refine lv_istore_n (lv' := [(1, .int t6.1), (0, .ref (κ.1 + a0))]) hx hb dX7_readPlot_27 rfl hl (by decide) rfl (fun ls hl => ?_)
    refine lv_aload_n hx hb dX7_readPlot_28 rfl (lv_at hl 1 rfl) ?_
    refine va_ldcS hx hb X.2.2.2.1 (X.2.2.2.2.2.2.1 8 _ rfl).1 dX7_readPlot_29 ?_
    obtain ⟨_, hut7, h⟩ := Option.bind_eq_some_iff.mp h
    obtain ⟨t8, ht8, h⟩ := Option.bind_eq_some_iff.mp h
    refine xr_callV (rest := []) X O (T_X7_expectWord l κ a0 8 t6.2 _ ht8) lk_X7_123 hut7 (Nat.le_of_ble_eq_true rfl) rfl hl.1 rfl (Nat.le_of_ble_eq_true rfl) dX7_readPlot_31 ⟨Nat.le_of_ble_eq_true rfl, Nat.le_of_ble_eq_true rfl⟩ (fun H locs O => ?_)
    refine W.eq (g2 := F0 m 34 ls []) rfl ?_
    refine lv_aload_n hx hb dX7_readPlot_34 rfl (lv_at hl 1 rfl) ?_
    refine lv_iconst (v := (1 : Int32)) hx hb dX7_readPlot_35 (by decide) ?_
    refine lv_bipush (v := (9 : Int32)) hx hb dX7_readPlot_36 (by decide) ?_
    refine lv_iconst (v := (0 : Int32)) hx hb dX7_readPlot_38 (by decide) ?_
    obtain ⟨_, hut9, h⟩ := Option.bind_eq_some_iff.mp h
    obtain ⟨t10, ht10, h⟩ := Option.bind_eq_some_iff.mp h
    refine xr_callV (rest := []) X O (T_X7_expectNumber l κ a0 (1 : Int32) (9 : Int32) (0 : Int32) t8 _ _ ht10) lk_X7_117 hut9 (Nat.le_of_ble_eq_true rfl) rfl hl.1 rfl (Nat.le_of_ble_eq_true rfl) dX7_readPlot_39 ⟨Nat.le_of_ble_eq_true rfl, Nat.le_of_ble_eq_true rfl⟩ (fun H locs O => ?_)
    refine W.eq (g2 := F0 m 42 ls [.int t10.1]) rfl ?_
    refine lv_istore_n (lv' := [(2, .int t10.1), (1, .int t6.1), (0, .ref (κ.1 + a0))]) hx hb dX7_readPlot_42 rfl hl (by decide) rfl (fun ls hl => ?_)
    refine lv_aload_n hx hb dX7_readPlot_43 rfl (lv_at hl 2 rfl) ?_
    refine va_ldcS hx hb X.2.2.2.1 (X.2.2.2.2.2.2.1 9 _ rfl).1 dX7_readPlot_44 ?_
    obtain ⟨_, hut11, h⟩ := Option.bind_eq_some_iff.mp h
    obtain ⟨t12, ht12, h⟩ := Option.bind_eq_some_iff.mp h
    refine xr_callV (rest := []) X O (T_X7_expectWord l κ a0 9 t10.2 _ ht12) lk_X7_123 hut11 (Nat.le_of_ble_eq_true rfl) rfl hl.1 rfl (Nat.le_of_ble_eq_true rfl) dX7_readPlot_46 ⟨Nat.le_of_ble_eq_true rfl, Nat.le_of_ble_eq_true rfl⟩ (fun H locs O => ?_)
    refine W.eq (g2 := F0 m 49 ls []) rfl ?_
    refine lv_aload_n hx hb dX7_readPlot_49 rfl (lv_at hl 2 rfl) ?_
    refine lv_iconst (v := (0 : Int32)) hx hb dX7_readPlot_50 (by decide) ?_
    refine lv_bipush (v := (9 : Int32)) hx hb dX7_readPlot_51 (by decide) ?_
    refine lv_iconst (v := (0 : Int32)) hx hb dX7_readPlot_53 (by decide) ?_
    obtain ⟨_, hut13, h⟩ := Option.bind_eq_some_iff.mp h
    obtain ⟨t14, ht14, h⟩ := Option.bind_eq_some_iff.mp h
    refine xr_callV (rest := []) X O (T_X7_expectNumber l κ a0 (0 : Int32) (9 : Int32) (0 : Int32) t12 _ _ ht14) lk_X7_117 hut13 (Nat.le_of_ble_eq_true rfl) rfl hl.1 rfl (Nat.le_of_ble_eq_true rfl) dX7_readPlot_54 ⟨Nat.le_of_ble_eq_true rfl, Nat.le_of_ble_eq_true rfl⟩ (fun H locs O => ?_)
    refine W.eq (g2 := F0 m 57 ls [.int t14.1]) rfl ?_
    refine lv_istore_n (lv' := [(3, .int t14.1), (2, .int t10.1), (1, .int t6.1), (0, .ref (κ.1 + a0))]) hx hb dX7_readPlot_57 rfl hl (by decide) rfl (fun ls hl => ?_)
    refine lv_aload_n hx hb dX7_readPlot_58 rfl (lv_at hl 3 rfl) ?_
    obtain ⟨t15, ht15, h⟩ := Option.bind_eq_some_iff.mp h
    refine xr_getI X O ht15 fl_X7_48 (Or.inl rfl) dX7_readPlot_59 ?_
    refine lv_if_ne (tgt := 75) hx hb dX7_readPlot_62 (by decide) (fun hc62 => ?_) (fun hc62 => ?_)
    · rw [if_neg hc62] at h
      rw [← Option.some.inj h] at hK
      have hK : t14.2 = mo := hK
      rw [hK] at O
      exact xr_vret X hr hlk O dX7_readPlot_75
    rw [if_pos hc62] at h
    refine lv_aload_n hx hb dX7_readPlot_65 rfl (lv_at hl 3 rfl) ?_
    obtain ⟨t16, ht16, h⟩ := Option.bind_eq_some_iff.mp h
    refine xr_getP X O ht16 fl_X7_22 dX7_readPlot_66 ?_
    refine lv_iload_n hx hb dX7_readPlot_69 rfl (lv_at hl 2 rfl) ?_
    refine lv_iload_n hx hb dX7_readPlot_70 rfl (lv_at hl 1 rfl) ?_
    refine lv_iload_n hx hb dX7_readPlot_71 rfl (lv_at hl 0 rfl) ?_
    obtain ⟨_, hut17, h⟩ := Option.bind_eq_some_iff.mp h
    obtain ⟨t18, ht18, h⟩ := Option.bind_eq_some_iff.mp h
    refine xr_callV (rest := []) X O (T_X3_addPlot l κ t16 t6.1 t10.1 t14.1 t14.2 _ ht18) lk_X7_203 hut17 (Nat.le_of_ble_eq_true rfl) rfl hl.1 rfl (Nat.le_of_ble_eq_true rfl) dX7_readPlot_72 ⟨Nat.le_of_ble_eq_true rfl, Nat.le_of_ble_eq_true rfl⟩ (fun H locs O => ?_)
    refine W.eq (g2 := F0 m 75 ls []) rfl ?_
    rw [← Option.some.inj h] at hK
    have hK : t18 = mo := hK
    rw [hK] at O
    exact xr_vret X hr hlk O dX7_readPlot_75
  rw [if_neg hc9] at h
  refine lv_aload_n hx hb dX7_readPlot_12 rfl (lv_at hl 0 rfl) ?_
  refine lv_iconst (v := (4 : Int32)) hx hb dX7_readPlot_13 (by decide) ?_
  obtain ⟨_, hut19, h⟩ := Option.bind_eq_some_iff.mp h
  obtain ⟨t20, ht20, h⟩ := Option.bind_eq_some_iff.mp h
  refine xr_callV (rest := []) X O (T_X7_fail l κ a0 (4 : Int32) M _ ht20) lk_X7_103 hut19 (Nat.le_of_ble_eq_true rfl) rfl hl.1 rfl (Nat.le_of_ble_eq_true rfl) dX7_readPlot_14 ⟨Nat.le_of_ble_eq_true rfl, Nat.le_of_ble_eq_true rfl⟩ (fun H locs O => ?_)
  refine W.eq (g2 := F0 m 17 ls []) rfl ?_
  rw [← Option.some.inj h] at hK
  have hK : t20 = mo := hK
  rw [hK] at O
  exact xr_vret X hr hlk O dX7_readPlot_17
def F_X7_readPaper (a0 : Nat) (M : xM) : Option (xM) :=
(xgP M a0 7 0).bind fun t1 =>
(xgI M t1 3 6).bind fun t2 =>
if t2 < (6 : Int32) then (
(xck M a0 7).bind fun _ =>
(F_X7_step a0 M).bind fun t4 =>
(xck t4 a0 7).bind fun _ =>
(F_X7_expectCell a0 (0 : Int32) t4).bind fun t6 =>
(xck t6.2 a0 7).bind fun _ =>
(F_X7_expectCell a0 (0 : Int32) t6.2).bind fun t8 =>
(xgI t8.2 a0 7 2).bind fun t9 =>
if t9 = 0 then (
(xgP t8.2 a0 7 0).bind fun t10 =>
(xck t8.2 t10 3).bind fun _ =>
(F_X3_addPaper t10 t6.1 t8.1 t8.2).bind fun t12 =>
some t12)
else (
some t8.2))
else (
(xck M a0 7).bind fun _ =>
(F_X7_fail a0 (4 : Int32) M).bind fun t14 =>
some t14)
set_option maxRecDepth 100000 in
set_option maxHeartbeats 4000000 in
theorem T_X7_readPaper (l : Launch) (κ : xQ) (a0 : Nat) (M : xM) (mo : xM) (h : F_X7_readPaper a0 M = some mo) : xC l yX7_readPaper cX7_readPaper 3 none 9 0 0 κ [.ref (κ.1 + a0)] M none mo := by
  refine xC_of rfl (Nat.le_of_ble_eq_true rfl) fun p e s m args below meth c X hr hlk hnm H locs ls O hl => ?_
  have X : xX p s m args c cX7_readPaper 3 RX7 κ := X
  have hl : lv_has ls 3 [(0, .ref (κ.1 + a0))] := hl
  have hx := X.1
  have hb := X.2.1
  obtain ⟨x, hx0⟩ : ∃ x, mo = x := ⟨_, rfl⟩
  rw [hx0] at h
  have hK : x = mo := hx0.symm
  unfold F_X7_readPaper at h
  refine lv_aload_n hx hb dX7_readPaper_0 rfl (lv_at hl 0 rfl) ?_
  obtain ⟨t1, ht1, h⟩ := Option.bind_eq_some_iff.mp h
  refine xr_getP X O ht1 fl_X7_22 dX7_readPaper_1 ?_
  obtain ⟨t2, ht2, h⟩ := Option.bind_eq_some_iff.mp h
  refine xr_getI X O ht2 fl_X7_207 (Or.inl rfl) dX7_readPaper_4 ?_
  refine lv_bipush (v := (6 : Int32)) hx hb dX7_readPaper_7 (by decide) ?_
  refine lv_icmp_lt (tgt := 18) hx hb dX7_readPaper_9 (by decide) (fun hc9 => ?_) (fun hc9 => ?_)
  · rw [if_pos hc9] at h
    refine lv_aload_n hx hb dX7_readPaper_18 rfl (lv_at hl 0 rfl) ?_
    obtain ⟨_, hut3, h⟩ := Option.bind_eq_some_iff.mp h
    obtain ⟨t4, ht4, h⟩ := Option.bind_eq_some_iff.mp h
    refine xr_callV (rest := []) X O (T_X7_step l κ a0 M _ ht4) lk_X7_58 hut3 (Nat.le_of_ble_eq_true rfl) rfl hl.1 rfl (Nat.le_of_ble_eq_true rfl) dX7_readPaper_19 ⟨Nat.le_of_ble_eq_true rfl, Nat.le_of_ble_eq_true rfl⟩ (fun H locs O => ?_)
    refine W.eq (g2 := F0 m 22 ls []) rfl ?_
    refine lv_aload_n hx hb dX7_readPaper_22 rfl (lv_at hl 0 rfl) ?_
    refine lv_iconst (v := (0 : Int32)) hx hb dX7_readPaper_23 (by decide) ?_
    obtain ⟨_, hut5, h⟩ := Option.bind_eq_some_iff.mp h
    obtain ⟨t6, ht6, h⟩ := Option.bind_eq_some_iff.mp h
    refine xr_callV (rest := []) X O (T_X7_expectCell l κ a0 (0 : Int32) t4 _ _ ht6) lk_X7_179 hut5 (Nat.le_of_ble_eq_true rfl) rfl hl.1 rfl (Nat.le_of_ble_eq_true rfl) dX7_readPaper_24 ⟨Nat.le_of_ble_eq_true rfl, Nat.le_of_ble_eq_true rfl⟩ (fun H locs O => ?_)
    refine W.eq (g2 := F0 m 27 ls [.int t6.1]) rfl ?_
    refine lv_istore_n (lv' := [(1, .int t6.1), (0, .ref (κ.1 + a0))]) hx hb dX7_readPaper_27 rfl hl (by decide) rfl (fun ls hl => ?_)
    refine lv_aload_n hx hb dX7_readPaper_28 rfl (lv_at hl 1 rfl) ?_
    refine lv_iconst (v := (0 : Int32)) hx hb dX7_readPaper_29 (by decide) ?_
    obtain ⟨_, hut7, h⟩ := Option.bind_eq_some_iff.mp h
    obtain ⟨t8, ht8, h⟩ := Option.bind_eq_some_iff.mp h
    refine xr_callV (rest := []) X O (T_X7_expectCell l κ a0 (0 : Int32) t6.2 _ _ ht8) lk_X7_179 hut7 (Nat.le_of_ble_eq_true rfl) rfl hl.1 rfl (Nat.le_of_ble_eq_true rfl) dX7_readPaper_30 ⟨Nat.le_of_ble_eq_true rfl, Nat.le_of_ble_eq_true rfl⟩ (fun H locs O => ?_)
    refine W.eq (g2 := F0 m 33 ls [.int t8.1]) rfl ?_
    refine lv_istore_n (lv' := [(2, .int t8.1), (1, .int t6.1), (0, .ref (κ.1 + a0))]) hx hb dX7_readPaper_33 rfl hl (by decide) rfl (fun ls hl => ?_)
    refine lv_aload_n hx hb dX7_readPaper_34 rfl (lv_at hl 2 rfl) ?_
    obtain ⟨t9, ht9, h⟩ := Option.bind_eq_some_iff.mp h
    refine xr_getI X O ht9 fl_X7_48 (Or.inl rfl) dX7_readPaper_35 ?_
    refine lv_if_ne (tgt := 50) hx hb dX7_readPaper_38 (by decide) (fun hc38 => ?_) (fun hc38 => ?_)
    · rw [if_neg hc38] at h
      rw [← Option.some.inj h] at hK
      have hK : t8.2 = mo := hK
      rw [hK] at O
      exact xr_vret X hr hlk O dX7_readPaper_50
    rw [if_pos hc38] at h
    refine lv_aload_n hx hb dX7_readPaper_41 rfl (lv_at hl 2 rfl) ?_
    obtain ⟨t10, ht10, h⟩ := Option.bind_eq_some_iff.mp h
    refine xr_getP X O ht10 fl_X7_22 dX7_readPaper_42 ?_
    refine lv_iload_n hx hb dX7_readPaper_45 rfl (lv_at hl 1 rfl) ?_
    refine lv_iload_n hx hb dX7_readPaper_46 rfl (lv_at hl 0 rfl) ?_
    obtain ⟨_, hut11, h⟩ := Option.bind_eq_some_iff.mp h
    obtain ⟨t12, ht12, h⟩ := Option.bind_eq_some_iff.mp h
    refine xr_callV (rest := []) X O (T_X3_addPaper l κ t10 t6.1 t8.1 t8.2 _ ht12) lk_X7_210 hut11 (Nat.le_of_ble_eq_true rfl) rfl hl.1 rfl (Nat.le_of_ble_eq_true rfl) dX7_readPaper_47 ⟨Nat.le_of_ble_eq_true rfl, Nat.le_of_ble_eq_true rfl⟩ (fun H locs O => ?_)
    refine W.eq (g2 := F0 m 50 ls []) rfl ?_
    rw [← Option.some.inj h] at hK
    have hK : t12 = mo := hK
    rw [hK] at O
    exact xr_vret X hr hlk O dX7_readPaper_50
  rw [if_neg hc9] at h
  refine lv_aload_n hx hb dX7_readPaper_12 rfl (lv_at hl 0 rfl) ?_
  refine lv_iconst (v := (4 : Int32)) hx hb dX7_readPaper_13 (by decide) ?_
  obtain ⟨_, hut13, h⟩ := Option.bind_eq_some_iff.mp h
  obtain ⟨t14, ht14, h⟩ := Option.bind_eq_some_iff.mp h
  refine xr_callV (rest := []) X O (T_X7_fail l κ a0 (4 : Int32) M _ ht14) lk_X7_103 hut13 (Nat.le_of_ble_eq_true rfl) rfl hl.1 rfl (Nat.le_of_ble_eq_true rfl) dX7_readPaper_14 ⟨Nat.le_of_ble_eq_true rfl, Nat.le_of_ble_eq_true rfl⟩ (fun H locs O => ?_)
  refine W.eq (g2 := F0 m 17 ls []) rfl ?_
  rw [← Option.some.inj h] at hK
  have hK : t14 = mo := hK
  rw [hK] at O
  exact xr_vret X hr hlk O dX7_readPaper_17
def F_X7_readOwes (a0 : Nat) (M : xM) : Option (xM) :=
(xgI M a0 7 9).bind fun t1 =>
if t1 < (8 : Int32) then (
(xgI M a0 7 9).bind fun t2 =>
(xpI M a0 7 9 (t2 + (1 : Int32))).bind fun t3 =>
(xck t3 a0 7).bind fun _ =>
(F_X7_step a0 t3).bind fun t5 =>
(xck t5 a0 7).bind fun _ =>
(F_X7_expectOwner a0 (0 : Int32) t5).bind fun t7 =>
(xck t7.2 a0 7).bind fun _ =>
(F_X7_expectOwner a0 ((1 : Int32) <<< (t7.1 &&& 31)) t7.2).bind fun t9 =>
(xck t9.2 a0 7).bind fun _ =>
(F_X7_expectNumber a0 (0 : Int32) (99 : Int32) (0 : Int32) t9.2).bind fun t11 =>
(xgI t11.2 a0 7 2).bind fun t12 =>
if t12 = 0 then (
(xgP t11.2 a0 7 0).bind fun t13 =>
(xgP t11.2 t13 3 16).bind fun t14 =>
(xaI t11.2 20 t14 t7.1).bind fun t15 =>
(xsI t11.2 t14 t7.1 (t15 - t11.1)).bind fun t16 =>
(xgP t16 a0 7 0).bind fun t17 =>
(xgP t16 t17 3 16).bind fun t18 =>
(xaI t16 20 t18 t9.1).bind fun t19 =>
(xsI t16 t18 t9.1 (t19 + t11.1)).bind fun t20 =>
some t20)
else (
some t11.2))
else (
(xck M a0 7).bind fun _ =>
(F_X7_fail a0 (4 : Int32) M).bind fun t22 =>
some t22)
set_option maxRecDepth 100000 in
set_option maxHeartbeats 4000000 in
theorem T_X7_readOwes (l : Launch) (κ : xQ) (a0 : Nat) (M : xM) (mo : xM) (h : F_X7_readOwes a0 M = some mo) : xC l yX7_readOwes cX7_readOwes 4 none 9 0 0 κ [.ref (κ.1 + a0)] M none mo := by
  refine xC_of rfl (Nat.le_of_ble_eq_true rfl) fun p e s m args below meth c X hr hlk hnm H locs ls O hl => ?_
  have X : xX p s m args c cX7_readOwes 4 RX7 κ := X
  have hl : lv_has ls 4 [(0, .ref (κ.1 + a0))] := hl
  have hx := X.1
  have hb := X.2.1
  obtain ⟨x, hx0⟩ : ∃ x, mo = x := ⟨_, rfl⟩
  rw [hx0] at h
  have hK : x = mo := hx0.symm
  unfold F_X7_readOwes at h
  refine lv_aload_n hx hb dX7_readOwes_0 rfl (lv_at hl 0 rfl) ?_
  obtain ⟨t1, ht1, h⟩ := Option.bind_eq_some_iff.mp h
  refine xr_getI X O ht1 fl_X7_51 (Or.inl rfl) dX7_readOwes_1 ?_
  refine lv_bipush (v := (8 : Int32)) hx hb dX7_readOwes_4 (by decide) ?_
  refine lv_icmp_lt (tgt := 15) hx hb dX7_readOwes_6 (by decide) (fun hc6 => ?_) (fun hc6 => ?_)
  · rw [if_pos hc6] at h
    refine lv_aload_n hx hb dX7_readOwes_15 rfl (lv_at hl 0 rfl) ?_
    refine lv_dup hx hb dX7_readOwes_16 rfl ?_
    obtain ⟨t2, ht2, h⟩ := Option.bind_eq_some_iff.mp h
    refine xr_getI X O ht2 fl_X7_51 (Or.inl rfl) dX7_readOwes_17 ?_
    refine lv_iconst (v := (1 : Int32)) hx hb dX7_readOwes_20 (by decide) ?_
    refine lv_iadd hx hb dX7_readOwes_21 ?_
    obtain ⟨t3, ht3, h⟩ := Option.bind_eq_some_iff.mp h
    refine xr_putI X O ht3 fl_X7_51 dX7_readOwes_22 (fun H locs O => ?_)
    refine lv_aload_n hx hb dX7_readOwes_25 rfl (lv_at hl 0 rfl) ?_
    obtain ⟨_, hut4, h⟩ := Option.bind_eq_some_iff.mp h
    obtain ⟨t5, ht5, h⟩ := Option.bind_eq_some_iff.mp h
    refine xr_callV (rest := []) X O (T_X7_step l κ a0 t3 _ ht5) lk_X7_58 hut4 (Nat.le_of_ble_eq_true rfl) rfl hl.1 rfl (Nat.le_of_ble_eq_true rfl) dX7_readOwes_26 ⟨Nat.le_of_ble_eq_true rfl, Nat.le_of_ble_eq_true rfl⟩ (fun H locs O => ?_)
    refine W.eq (g2 := F0 m 29 ls []) rfl ?_
    refine lv_aload_n hx hb dX7_readOwes_29 rfl (lv_at hl 0 rfl) ?_
    refine lv_iconst (v := (0 : Int32)) hx hb dX7_readOwes_30 (by decide) ?_
    obtain ⟨_, hut6, h⟩ := Option.bind_eq_some_iff.mp h
    obtain ⟨t7, ht7, h⟩ := Option.bind_eq_some_iff.mp h
    refine xr_callV (rest := []) X O (T_X7_expectOwner l κ a0 (0 : Int32) t5 _ _ ht7) lk_X7_190 hut6 (Nat.le_of_ble_eq_true rfl) rfl hl.1 rfl (Nat.le_of_ble_eq_true rfl) dX7_readOwes_31 ⟨Nat.le_of_ble_eq_true rfl, Nat.le_of_ble_eq_true rfl⟩ (fun H locs O => ?_)
    refine W.eq (g2 := F0 m 34 ls [.int t7.1]) rfl ?_
    refine lv_istore_n (lv' := [(1, .int t7.1), (0, .ref (κ.1 + a0))]) hx hb dX7_readOwes_34 rfl hl (by decide) rfl (fun ls hl => ?_)
    refine lv_aload_n hx hb dX7_readOwes_35 rfl (lv_at hl 1 rfl) ?_
    refine lv_iconst (v := (1 : Int32)) hx hb dX7_readOwes_36 (by decide) ?_
    refine lv_iload_n hx hb dX7_readOwes_37 rfl (lv_at hl 0 rfl) ?_
    refine lv_ishl hx hb dX7_readOwes_38 ?_
    obtain ⟨_, hut8, h⟩ := Option.bind_eq_some_iff.mp h
    obtain ⟨t9, ht9, h⟩ := Option.bind_eq_some_iff.mp h
    refine xr_callV (rest := []) X O (T_X7_expectOwner l κ a0 ((1 : Int32) <<< (t7.1 &&& 31)) t7.2 _ _ ht9) lk_X7_190 hut8 (Nat.le_of_ble_eq_true rfl) rfl hl.1 rfl (Nat.le_of_ble_eq_true rfl) dX7_readOwes_39 ⟨Nat.le_of_ble_eq_true rfl, Nat.le_of_ble_eq_true rfl⟩ (fun H locs O => ?_)
    refine W.eq (g2 := F0 m 42 ls [.int t9.1]) rfl ?_
    refine lv_istore_n (lv' := [(2, .int t9.1), (1, .int t7.1), (0, .ref (κ.1 + a0))]) hx hb dX7_readOwes_42 rfl hl (by decide) rfl (fun ls hl => ?_)
    refine lv_aload_n hx hb dX7_readOwes_43 rfl (lv_at hl 2 rfl) ?_
    refine lv_iconst (v := (0 : Int32)) hx hb dX7_readOwes_44 (by decide) ?_
    refine lv_bipush (v := (99 : Int32)) hx hb dX7_readOwes_45 (by decide) ?_
    refine lv_iconst (v := (0 : Int32)) hx hb dX7_readOwes_47 (by decide) ?_
    obtain ⟨_, hut10, h⟩ := Option.bind_eq_some_iff.mp h
    obtain ⟨t11, ht11, h⟩ := Option.bind_eq_some_iff.mp h
    refine xr_callV (rest := []) X O (T_X7_expectNumber l κ a0 (0 : Int32) (99 : Int32) (0 : Int32) t9.2 _ _ ht11) lk_X7_117 hut10 (Nat.le_of_ble_eq_true rfl) rfl hl.1 rfl (Nat.le_of_ble_eq_true rfl) dX7_readOwes_48 ⟨Nat.le_of_ble_eq_true rfl, Nat.le_of_ble_eq_true rfl⟩ (fun H locs O => ?_)
    refine W.eq (g2 := F0 m 51 ls [.int t11.1]) rfl ?_
    refine lv_istore_n (lv' := [(3, .int t11.1), (2, .int t9.1), (1, .int t7.1), (0, .ref (κ.1 + a0))]) hx hb dX7_readOwes_51 rfl hl (by decide) rfl (fun ls hl => ?_)
    refine lv_aload_n hx hb dX7_readOwes_52 rfl (lv_at hl 3 rfl) ?_
    obtain ⟨t12, ht12, h⟩ := Option.bind_eq_some_iff.mp h
    refine xr_getI X O ht12 fl_X7_48 (Or.inl rfl) dX7_readOwes_53 ?_
    refine lv_if_ne (tgt := 85) hx hb dX7_readOwes_56 (by decide) (fun hc56 => ?_) (fun hc56 => ?_)
    · rw [if_neg hc56] at h
      rw [← Option.some.inj h] at hK
      have hK : t11.2 = mo := hK
      rw [hK] at O
      exact xr_vret X hr hlk O dX7_readOwes_85
    rw [if_pos hc56] at h
    refine lv_aload_n hx hb dX7_readOwes_59 rfl (lv_at hl 3 rfl) ?_
    obtain ⟨t13, ht13, h⟩ := Option.bind_eq_some_iff.mp h
    refine xr_getP X O ht13 fl_X7_22 dX7_readOwes_60 ?_
    obtain ⟨t14, ht14, h⟩ := Option.bind_eq_some_iff.mp h
    refine xr_getP X O ht14 fl_X7_213 dX7_readOwes_63 ?_
    refine lv_iload_n hx hb dX7_readOwes_66 rfl (lv_at hl 2 rfl) ?_
    refine lv_dup2_11 hx hb dX7_readOwes_67 rfl rfl ?_
    obtain ⟨t15, ht15, h⟩ := Option.bind_eq_some_iff.mp h
    refine xr_aldI X O ht15 dX7_readOwes_68 ?_
    refine lv_iload_n hx hb dX7_readOwes_69 rfl (lv_at hl 0 rfl) ?_
    refine lv_isub hx hb dX7_readOwes_70 ?_
    obtain ⟨t16, ht16, h⟩ := Option.bind_eq_some_iff.mp h
    refine xr_stI X O ht16 dX7_readOwes_71 (fun H locs O => ?_)
    refine lv_aload_n hx hb dX7_readOwes_72 rfl (lv_at hl 3 rfl) ?_
    obtain ⟨t17, ht17, h⟩ := Option.bind_eq_some_iff.mp h
    refine xr_getP X O ht17 fl_X7_22 dX7_readOwes_73 ?_
    obtain ⟨t18, ht18, h⟩ := Option.bind_eq_some_iff.mp h
    refine xr_getP X O ht18 fl_X7_213 dX7_readOwes_76 ?_
    refine lv_iload_n hx hb dX7_readOwes_79 rfl (lv_at hl 1 rfl) ?_
    refine lv_dup2_11 hx hb dX7_readOwes_80 rfl rfl ?_
    obtain ⟨t19, ht19, h⟩ := Option.bind_eq_some_iff.mp h
    refine xr_aldI X O ht19 dX7_readOwes_81 ?_
    refine lv_iload_n hx hb dX7_readOwes_82 rfl (lv_at hl 0 rfl) ?_
    refine lv_iadd hx hb dX7_readOwes_83 ?_
    obtain ⟨t20, ht20, h⟩ := Option.bind_eq_some_iff.mp h
    refine xr_stI X O ht20 dX7_readOwes_84 (fun H locs O => ?_)
    rw [← Option.some.inj h] at hK
    have hK : t20 = mo := hK
    rw [hK] at O
    exact xr_vret X hr hlk O dX7_readOwes_85
  rw [if_neg hc6] at h
  refine lv_aload_n hx hb dX7_readOwes_9 rfl (lv_at hl 0 rfl) ?_
  refine lv_iconst (v := (4 : Int32)) hx hb dX7_readOwes_10 (by decide) ?_
  obtain ⟨_, hut21, h⟩ := Option.bind_eq_some_iff.mp h
  obtain ⟨t22, ht22, h⟩ := Option.bind_eq_some_iff.mp h
  refine xr_callV (rest := []) X O (T_X7_fail l κ a0 (4 : Int32) M _ ht22) lk_X7_103 hut21 (Nat.le_of_ble_eq_true rfl) rfl hl.1 rfl (Nat.le_of_ble_eq_true rfl) dX7_readOwes_11 ⟨Nat.le_of_ble_eq_true rfl, Nat.le_of_ble_eq_true rfl⟩ (fun H locs O => ?_)
  refine W.eq (g2 := F0 m 14 ls []) rfl ?_
  rw [← Option.some.inj h] at hK
  have hK : t22 = mo := hK
  rw [hK] at O
  exact xr_vret X hr hlk O dX7_readOwes_14
def F_X7_nameHere (a0 : Nat) (M : xM) : Option (Int32 × xM) :=
(xck M a0 7).bind fun _ =>
(F_X7_atWord a0 15 M).bind fun t2 =>
if t2.1 = 0 then (
(xck t2.2 a0 7).bind fun _ =>
(F_X7_atWord a0 12 t2.2).bind fun t4 =>
if t4.1 = 0 then (
(xgI t4.2 a0 7 10).bind fun t5 =>
if t5 = 0 then (
some ((-1 : Int32), t4.2))
else (
(xck t4.2 a0 7).bind fun _ =>
(F_X7_atWord a0 16 t4.2).bind fun t7 =>
if t7.1 = 0 then (
(xck t7.2 a0 7).bind fun _ =>
(F_X7_atWord a0 17 t7.2).bind fun t9 =>
if t9.1 = 0 then (
(xck t9.2 a0 7).bind fun _ =>
(F_X7_atWord a0 18 t9.2).bind fun t11 =>
if t11.1 = 0 then (
(xck t11.2 a0 7).bind fun _ =>
(F_X7_atWord a0 19 t11.2).bind fun t13 =>
if t13.1 = 0 then (
some ((-1 : Int32), t13.2))
else (
some ((5 : Int32), t13.2)))
else (
some ((4 : Int32), t11.2)))
else (
some ((3 : Int32), t9.2)))
else (
some ((2 : Int32), t7.2))))
else (
some ((1 : Int32), t4.2)))
else (
some ((0 : Int32), t2.2))
set_option maxRecDepth 100000 in
set_option maxHeartbeats 4000000 in
theorem T_X7_nameHere (l : Launch) (κ : xQ) (a0 : Nat) (M : xM) (ro : Int32) (mo : xM) (h : F_X7_nameHere a0 M = some (ro, mo)) : xC l yX7_nameHere cX7_nameHere 1 (some .int) 7 0 0 κ [.ref (κ.1 + a0)] M (some (.int ro)) mo := by
  refine xC_of rfl (Nat.le_of_ble_eq_true rfl) fun p e s m args below meth c X hr hlk hnm H locs ls O hl => ?_
  have X : xX p s m args c cX7_nameHere 1 RX7 κ := X
  have hl : lv_has ls 1 [(0, .ref (κ.1 + a0))] := hl
  have hx := X.1
  have hb := X.2.1
  obtain ⟨x, hx0⟩ : ∃ x, (ro, mo) = x := ⟨_, rfl⟩
  rw [hx0] at h
  have hK : x = (ro, mo) := hx0.symm
  unfold F_X7_nameHere at h
  refine lv_aload_n hx hb dX7_nameHere_0 rfl (lv_at hl 0 rfl) ?_
  refine xr_ldcwS hx hb X.2.2.2.1 (X.2.2.2.2.2.2.1 15 _ rfl).1 dX7_nameHere_1 ?_
  obtain ⟨_, hut1, h⟩ := Option.bind_eq_some_iff.mp h
  obtain ⟨t2, ht2, h⟩ := Option.bind_eq_some_iff.mp h
  refine xr_callV (rest := []) X O (T_X7_atWord l κ a0 15 M _ _ ht2) lk_X7_99 hut1 (Nat.le_of_ble_eq_true rfl) rfl hl.1 rfl (Nat.le_of_ble_eq_true rfl) dX7_nameHere_4 ⟨Nat.le_of_ble_eq_true rfl, Nat.le_of_ble_eq_true rfl⟩ (fun H locs O => ?_)
  refine W.eq (g2 := F0 m 7 ls [.int t2.1]) rfl ?_
  refine lv_if_eq (tgt := 12) hx hb dX7_nameHere_7 (by decide) (fun hc7 => ?_) (fun hc7 => ?_)
  · rw [if_pos hc7] at h
    refine lv_aload_n hx hb dX7_nameHere_12 rfl (lv_at hl 0 rfl) ?_
    refine va_ldcS hx hb X.2.2.2.1 (X.2.2.2.2.2.2.1 12 _ rfl).1 dX7_nameHere_13 ?_
    obtain ⟨_, hut3, h⟩ := Option.bind_eq_some_iff.mp h
    obtain ⟨t4, ht4, h⟩ := Option.bind_eq_some_iff.mp h
    refine xr_callV (rest := []) X O (T_X7_atWord l κ a0 12 t2.2 _ _ ht4) lk_X7_99 hut3 (Nat.le_of_ble_eq_true rfl) rfl hl.1 rfl (Nat.le_of_ble_eq_true rfl) dX7_nameHere_15 ⟨Nat.le_of_ble_eq_true rfl, Nat.le_of_ble_eq_true rfl⟩ (fun H locs O => ?_)
    refine W.eq (g2 := F0 m 18 ls [.int t4.1]) rfl ?_
    refine lv_if_eq (tgt := 23) hx hb dX7_nameHere_18 (by decide) (fun hc18 => ?_) (fun hc18 => ?_)
    · rw [if_pos hc18] at h
      refine lv_aload_n hx hb dX7_nameHere_23 rfl (lv_at hl 0 rfl) ?_
      obtain ⟨t5, ht5, h⟩ := Option.bind_eq_some_iff.mp h
      refine xr_getI X O ht5 fl_X7_219 (Or.inr rfl) dX7_nameHere_24 ?_
      refine lv_if_ne (tgt := 32) hx hb dX7_nameHere_27 (by decide) (fun hc27 => ?_) (fun hc27 => ?_)
      · rw [if_neg hc27] at h
        refine lv_aload_n hx hb dX7_nameHere_32 rfl (lv_at hl 0 rfl) ?_
        refine xr_ldcwS hx hb X.2.2.2.1 (X.2.2.2.2.2.2.1 16 _ rfl).1 dX7_nameHere_33 ?_
        obtain ⟨_, hut6, h⟩ := Option.bind_eq_some_iff.mp h
        obtain ⟨t7, ht7, h⟩ := Option.bind_eq_some_iff.mp h
        refine xr_callV (rest := []) X O (T_X7_atWord l κ a0 16 t4.2 _ _ ht7) lk_X7_99 hut6 (Nat.le_of_ble_eq_true rfl) rfl hl.1 rfl (Nat.le_of_ble_eq_true rfl) dX7_nameHere_36 ⟨Nat.le_of_ble_eq_true rfl, Nat.le_of_ble_eq_true rfl⟩ (fun H locs O => ?_)
        refine W.eq (g2 := F0 m 39 ls [.int t7.1]) rfl ?_
        refine lv_if_eq (tgt := 44) hx hb dX7_nameHere_39 (by decide) (fun hc39 => ?_) (fun hc39 => ?_)
        · rw [if_pos hc39] at h
          refine lv_aload_n hx hb dX7_nameHere_44 rfl (lv_at hl 0 rfl) ?_
          refine xr_ldcwS hx hb X.2.2.2.1 (X.2.2.2.2.2.2.1 17 _ rfl).1 dX7_nameHere_45 ?_
          obtain ⟨_, hut8, h⟩ := Option.bind_eq_some_iff.mp h
          obtain ⟨t9, ht9, h⟩ := Option.bind_eq_some_iff.mp h
          refine xr_callV (rest := []) X O (T_X7_atWord l κ a0 17 t7.2 _ _ ht9) lk_X7_99 hut8 (Nat.le_of_ble_eq_true rfl) rfl hl.1 rfl (Nat.le_of_ble_eq_true rfl) dX7_nameHere_48 ⟨Nat.le_of_ble_eq_true rfl, Nat.le_of_ble_eq_true rfl⟩ (fun H locs O => ?_)
          refine W.eq (g2 := F0 m 51 ls [.int t9.1]) rfl ?_
          refine lv_if_eq (tgt := 56) hx hb dX7_nameHere_51 (by decide) (fun hc51 => ?_) (fun hc51 => ?_)
          · rw [if_pos hc51] at h
            refine lv_aload_n hx hb dX7_nameHere_56 rfl (lv_at hl 0 rfl) ?_
            refine xr_ldcwS hx hb X.2.2.2.1 (X.2.2.2.2.2.2.1 18 _ rfl).1 dX7_nameHere_57 ?_
            obtain ⟨_, hut10, h⟩ := Option.bind_eq_some_iff.mp h
            obtain ⟨t11, ht11, h⟩ := Option.bind_eq_some_iff.mp h
            refine xr_callV (rest := []) X O (T_X7_atWord l κ a0 18 t9.2 _ _ ht11) lk_X7_99 hut10 (Nat.le_of_ble_eq_true rfl) rfl hl.1 rfl (Nat.le_of_ble_eq_true rfl) dX7_nameHere_60 ⟨Nat.le_of_ble_eq_true rfl, Nat.le_of_ble_eq_true rfl⟩ (fun H locs O => ?_)
            refine W.eq (g2 := F0 m 63 ls [.int t11.1]) rfl ?_
            refine lv_if_eq (tgt := 68) hx hb dX7_nameHere_63 (by decide) (fun hc63 => ?_) (fun hc63 => ?_)
            · rw [if_pos hc63] at h
              refine lv_aload_n hx hb dX7_nameHere_68 rfl (lv_at hl 0 rfl) ?_
              refine xr_ldcwS hx hb X.2.2.2.1 (X.2.2.2.2.2.2.1 19 _ rfl).1 dX7_nameHere_69 ?_
              obtain ⟨_, hut12, h⟩ := Option.bind_eq_some_iff.mp h
              obtain ⟨t13, ht13, h⟩ := Option.bind_eq_some_iff.mp h
              refine xr_callV (rest := []) X O (T_X7_atWord l κ a0 19 t11.2 _ _ ht13) lk_X7_99 hut12 (Nat.le_of_ble_eq_true rfl) rfl hl.1 rfl (Nat.le_of_ble_eq_true rfl) dX7_nameHere_72 ⟨Nat.le_of_ble_eq_true rfl, Nat.le_of_ble_eq_true rfl⟩ (fun H locs O => ?_)
              refine W.eq (g2 := F0 m 75 ls [.int t13.1]) rfl ?_
              refine lv_if_eq (tgt := 82) hx hb dX7_nameHere_75 (by decide) (fun hc75 => ?_) (fun hc75 => ?_)
              · rw [if_pos hc75] at h
                refine lv_iconst (v := (-1 : Int32)) hx hb dX7_nameHere_82 (by decide) ?_
                rw [← Option.some.inj h] at hK
                have hK : ((-1 : Int32), t13.2) = (ro, mo) := hK
                obtain ⟨hK1, hK2⟩ := Prod.mk.inj hK
                rw [hK2] at O
                refine xr_top (w := .int ro) (by rw [hK1]) ?_
                exact xr_iret X hr hlk O dX7_nameHere_83
              rw [if_neg hc75] at h
              refine lv_iconst (v := (5 : Int32)) hx hb dX7_nameHere_78 (by decide) ?_
              refine lv_goto (tgt := 83) hx hb dX7_nameHere_79 (by decide) ?_
              rw [← Option.some.inj h] at hK
              have hK : ((5 : Int32), t13.2) = (ro, mo) := hK
              obtain ⟨hK1, hK2⟩ := Prod.mk.inj hK
              rw [hK2] at O
              refine xr_top (w := .int ro) (by rw [hK1]) ?_
              exact xr_iret X hr hlk O dX7_nameHere_83
            rw [if_neg hc63] at h
            refine lv_iconst (v := (4 : Int32)) hx hb dX7_nameHere_66 (by decide) ?_
            rw [← Option.some.inj h] at hK
            have hK : ((4 : Int32), t11.2) = (ro, mo) := hK
            obtain ⟨hK1, hK2⟩ := Prod.mk.inj hK
            rw [hK2] at O
            refine xr_top (w := .int ro) (by rw [hK1]) ?_
            exact xr_iret X hr hlk O dX7_nameHere_67
          rw [if_neg hc51] at h
          refine lv_iconst (v := (3 : Int32)) hx hb dX7_nameHere_54 (by decide) ?_
          rw [← Option.some.inj h] at hK
          have hK : ((3 : Int32), t9.2) = (ro, mo) := hK
          obtain ⟨hK1, hK2⟩ := Prod.mk.inj hK
          rw [hK2] at O
          refine xr_top (w := .int ro) (by rw [hK1]) ?_
          exact xr_iret X hr hlk O dX7_nameHere_55
        rw [if_neg hc39] at h
        refine lv_iconst (v := (2 : Int32)) hx hb dX7_nameHere_42 (by decide) ?_
        rw [← Option.some.inj h] at hK
        have hK : ((2 : Int32), t7.2) = (ro, mo) := hK
        obtain ⟨hK1, hK2⟩ := Prod.mk.inj hK
        rw [hK2] at O
        refine xr_top (w := .int ro) (by rw [hK1]) ?_
        exact xr_iret X hr hlk O dX7_nameHere_43
      rw [if_pos hc27] at h
      refine lv_iconst (v := (-1 : Int32)) hx hb dX7_nameHere_30 (by decide) ?_
      rw [← Option.some.inj h] at hK
      have hK : ((-1 : Int32), t4.2) = (ro, mo) := hK
      obtain ⟨hK1, hK2⟩ := Prod.mk.inj hK
      rw [hK2] at O
      refine xr_top (w := .int ro) (by rw [hK1]) ?_
      exact xr_iret X hr hlk O dX7_nameHere_31
    rw [if_neg hc18] at h
    refine lv_iconst (v := (1 : Int32)) hx hb dX7_nameHere_21 (by decide) ?_
    rw [← Option.some.inj h] at hK
    have hK : ((1 : Int32), t4.2) = (ro, mo) := hK
    obtain ⟨hK1, hK2⟩ := Prod.mk.inj hK
    rw [hK2] at O
    refine xr_top (w := .int ro) (by rw [hK1]) ?_
    exact xr_iret X hr hlk O dX7_nameHere_22
  rw [if_neg hc7] at h
  refine lv_iconst (v := (0 : Int32)) hx hb dX7_nameHere_10 (by decide) ?_
  rw [← Option.some.inj h] at hK
  have hK : ((0 : Int32), t2.2) = (ro, mo) := hK
  obtain ⟨hK1, hK2⟩ := Prod.mk.inj hK
  rw [hK2] at O
  refine xr_top (w := .int ro) (by rw [hK1]) ?_
  exact xr_iret X hr hlk O dX7_nameHere_11
def F_X7_goesDeeper (a0 : Nat) (a1 : Int32) (M : xM) : Option (Int32 × xM) :=
if a1 < (6 : Int32) then (
(xck M a0 7).bind fun _ =>
(F_X7_step a0 M).bind fun t2 =>
(xz (1 : Int32)).bind fun t3 =>
some (t3, t2))
else (
(xck M a0 7).bind fun _ =>
(F_X7_fail a0 (4 : Int32) M).bind fun t5 =>
(xz (0 : Int32)).bind fun t6 =>
some (t6, t5))
set_option maxRecDepth 100000 in
set_option maxHeartbeats 4000000 in
theorem T_X7_goesDeeper (l : Launch) (κ : xQ) (a0 : Nat) (a1 : Int32) (M : xM) (ro : Int32) (mo : xM) (h : F_X7_goesDeeper a0 a1 M = some (ro, mo)) : xC l yX7_goesDeeper cX7_goesDeeper 2 (some .boolean) 7 0 0 κ [.ref (κ.1 + a0), .int a1] M (some (.int ro)) mo := by
  refine xC_of rfl (Nat.le_of_ble_eq_true rfl) fun p e s m args below meth c X hr hlk hnm H locs ls O hl => ?_
  have X : xX p s m args c cX7_goesDeeper 2 RX7 κ := X
  have hl : lv_has ls 2 [(0, .ref (κ.1 + a0)), (1, .int a1)] := hl
  have hx := X.1
  have hb := X.2.1
  obtain ⟨x, hx0⟩ : ∃ x, (ro, mo) = x := ⟨_, rfl⟩
  rw [hx0] at h
  have hK : x = (ro, mo) := hx0.symm
  unfold F_X7_goesDeeper at h
  refine lv_iload_n hx hb dX7_goesDeeper_0 rfl (lv_at hl 1 rfl) ?_
  refine lv_bipush (v := (6 : Int32)) hx hb dX7_goesDeeper_1 (by decide) ?_
  refine lv_icmp_lt (tgt := 13) hx hb dX7_goesDeeper_3 (by decide) (fun hc3 => ?_) (fun hc3 => ?_)
  · rw [if_pos hc3] at h
    refine lv_aload_n hx hb dX7_goesDeeper_13 rfl (lv_at hl 0 rfl) ?_
    obtain ⟨_, hut1, h⟩ := Option.bind_eq_some_iff.mp h
    obtain ⟨t2, ht2, h⟩ := Option.bind_eq_some_iff.mp h
    refine xr_callV (rest := []) X O (T_X7_step l κ a0 M _ ht2) lk_X7_58 hut1 (Nat.le_of_ble_eq_true rfl) rfl hl.1 rfl (Nat.le_of_ble_eq_true rfl) dX7_goesDeeper_14 ⟨Nat.le_of_ble_eq_true rfl, Nat.le_of_ble_eq_true rfl⟩ (fun H locs O => ?_)
    refine W.eq (g2 := F0 m 17 ls []) rfl ?_
    refine lv_iconst (v := (1 : Int32)) hx hb dX7_goesDeeper_17 (by decide) ?_
    obtain ⟨t3, ht3, h⟩ := Option.bind_eq_some_iff.mp h
    rw [← Option.some.inj h] at hK
    have hK : (t3, t2) = (ro, mo) := hK
    obtain ⟨hK1, hK2⟩ := Prod.mk.inj hK
    rw [hK1] at ht3
    rw [hK2] at O
    exact xr_zret X hr hlk O ht3 dX7_goesDeeper_18
  rw [if_neg hc3] at h
  refine lv_aload_n hx hb dX7_goesDeeper_6 rfl (lv_at hl 0 rfl) ?_
  refine lv_iconst (v := (4 : Int32)) hx hb dX7_goesDeeper_7 (by decide) ?_
  obtain ⟨_, hut4, h⟩ := Option.bind_eq_some_iff.mp h
  obtain ⟨t5, ht5, h⟩ := Option.bind_eq_some_iff.mp h
  refine xr_callV (rest := []) X O (T_X7_fail l κ a0 (4 : Int32) M _ ht5) lk_X7_103 hut4 (Nat.le_of_ble_eq_true rfl) rfl hl.1 rfl (Nat.le_of_ble_eq_true rfl) dX7_goesDeeper_8 ⟨Nat.le_of_ble_eq_true rfl, Nat.le_of_ble_eq_true rfl⟩ (fun H locs O => ?_)
  refine W.eq (g2 := F0 m 11 ls []) rfl ?_
  refine lv_iconst (v := (0 : Int32)) hx hb dX7_goesDeeper_11 (by decide) ?_
  obtain ⟨t6, ht6, h⟩ := Option.bind_eq_some_iff.mp h
  rw [← Option.some.inj h] at hK
  have hK : (t6, t5) = (ro, mo) := hK
  obtain ⟨hK1, hK2⟩ := Prod.mk.inj hK
  rw [hK1] at ht6
  rw [hK2] at O
  exact xr_zret X hr hlk O ht6 dX7_goesDeeper_12
end G
