section G
variable {p : Program} {l : Launch} {e : Env} {s : State} {m : MethodId} {args : Array Value} {below : List Frame} {meth : Method} {c : Code} {κ : xQ}
def F_X0_init (a0 : Nat) (M : xM) : Option (xM) :=
(some (xnw M (20, 25))).bind fun t1 =>
(xpP t1 a0 0 0 M.1.length).bind fun t2 =>
(some (xnw t2 (20, 6))).bind fun t3 =>
(xpP t3 a0 0 1 t2.1.length).bind fun t4 =>
(some (xnw t4 (20, 6))).bind fun t5 =>
(xpP t5 a0 0 2 t4.1.length).bind fun t6 =>
some t6
set_option maxRecDepth 100000 in
set_option maxHeartbeats 4000000 in
theorem T_X0_init (l : Launch) (κ : xQ) (a0 : Nat) (M : xM) (mo : xM) (h : F_X0_init a0 M = some mo) : xC l yX0_init cX0_init 1 none 2 3 37 κ [.ref (κ.1 + a0)] M none mo := by
  refine xC_of rfl (Nat.le_of_ble_eq_true rfl) fun p e s m args below meth c X hr hlk hnm H locs ls O hl => ?_
  have X : xX p s m args c cX0_init 1 RX0 κ := X
  have hl : lv_has ls 1 [(0, .ref (κ.1 + a0))] := hl
  have hx := X.1
  have hb := X.2.1
  obtain ⟨x, hx0⟩ : ∃ x, mo = x := ⟨_, rfl⟩
  rw [hx0] at h
  have hK : x = mo := hx0.symm
  unfold F_X0_init at h
  refine lv_aload_n hx hb dX0_init_0 rfl (lv_at hl 0 rfl) ?_
  refine xr_objI X lo_X0_3.1 lo_X0_3.2.1 lo_X0_3.2.2 hl.1 (by decide) dX0_init_1 ?_
  refine W.eq (g2 := F0 m 4 ls []) rfl ?_
  refine lv_aload_n hx hb dX0_init_4 rfl (lv_at hl 0 rfl) ?_
  refine lv_bipush (v := (25 : Int32)) hx hb dX0_init_5 (by decide) ?_
  obtain ⟨t1, ht1, h⟩ := Option.bind_eq_some_iff.mp h
  refine xr_newI (N := 25) X O (xw_t1 133 (by decide +kernel) rfl) (by decide) (by decide) (by decide) (Nat.le_of_ble_eq_true rfl) (Nat.le_of_ble_eq_true rfl) dX0_init_7 (fun H locs O => ?_)
  rw [Option.some.inj ht1] at O
  refine W.eq (g2 := F0 m 9 ls [.ref (κ.1 + M.1.length), .ref (κ.1 + a0)]) rfl ?_
  obtain ⟨t2, ht2, h⟩ := Option.bind_eq_some_iff.mp h
  refine xr_putP X O ht2 fl_X0_9 (fun _ => ⟨hnm, rfl⟩) dX0_init_9 (fun H locs O => ?_)
  refine lv_aload_n hx hb dX0_init_12 rfl (lv_at hl 0 rfl) ?_
  refine lv_bipush (v := (6 : Int32)) hx hb dX0_init_13 (by decide) ?_
  obtain ⟨t3, ht3, h⟩ := Option.bind_eq_some_iff.mp h
  refine xr_newI (N := 6) X O (xw_t1 133 (by decide +kernel) rfl) (by decide) (by decide) (by decide) (Nat.le_of_ble_eq_true rfl) (Nat.le_of_ble_eq_true rfl) dX0_init_15 (fun H locs O => ?_)
  rw [Option.some.inj ht3] at O
  refine W.eq (g2 := F0 m 17 ls [.ref (κ.1 + t2.1.length), .ref (κ.1 + a0)]) rfl ?_
  obtain ⟨t4, ht4, h⟩ := Option.bind_eq_some_iff.mp h
  refine xr_putP X O ht4 fl_X0_15 (fun _ => ⟨hnm, rfl⟩) dX0_init_17 (fun H locs O => ?_)
  refine lv_aload_n hx hb dX0_init_20 rfl (lv_at hl 0 rfl) ?_
  refine lv_bipush (v := (6 : Int32)) hx hb dX0_init_21 (by decide) ?_
  obtain ⟨t5, ht5, h⟩ := Option.bind_eq_some_iff.mp h
  refine xr_newI (N := 6) X O (xw_t1 133 (by decide +kernel) rfl) (by decide) (by decide) (by decide) (Nat.le_of_ble_eq_true rfl) (Nat.le_of_ble_eq_true rfl) dX0_init_23 (fun H locs O => ?_)
  rw [Option.some.inj ht5] at O
  refine W.eq (g2 := F0 m 25 ls [.ref (κ.1 + t4.1.length), .ref (κ.1 + a0)]) rfl ?_
  obtain ⟨t6, ht6, h⟩ := Option.bind_eq_some_iff.mp h
  refine xr_putP X O ht6 fl_X0_18 (fun _ => ⟨hnm, rfl⟩) dX0_init_25 (fun H locs O => ?_)
  rw [← Option.some.inj h] at hK
  have hK : t6 = mo := hK
  rw [hK] at O
  exact xr_vret X hr hlk O dX0_init_28
def F_X0_take (a0 : Nat) (a1 : Nat) (M : xM) : Option (xM) :=
(xgP M a1 0 0).bind fun t1 =>
(xgP M a0 0 0).bind fun t2 =>
(xcp M t1 (0 : Int32) t2 (0 : Int32) (25 : Int32)).bind fun t3 =>
(xgP t3 a1 0 1).bind fun t4 =>
(xgP t3 a0 0 1).bind fun t5 =>
(xcp t3 t4 (0 : Int32) t5 (0 : Int32) (6 : Int32)).bind fun t6 =>
(xgP t6 a1 0 2).bind fun t7 =>
(xgP t6 a0 0 2).bind fun t8 =>
(xcp t6 t7 (0 : Int32) t8 (0 : Int32) (6 : Int32)).bind fun t9 =>
(xgI t9 a1 0 3).bind fun t10 =>
(xpI t9 a0 0 3 t10).bind fun t11 =>
(xgI t11 a1 0 4).bind fun t12 =>
(xpI t11 a0 0 4 t12).bind fun t13 =>
(xgI t13 a1 0 5).bind fun t14 =>
(xpI t13 a0 0 5 t14).bind fun t15 =>
(xgI t15 a1 0 6).bind fun t16 =>
(xpI t15 a0 0 6 t16).bind fun t17 =>
some t17
set_option maxRecDepth 100000 in
set_option maxHeartbeats 4000000 in
theorem T_X0_take (l : Launch) (κ : xQ) (a0 : Nat) (a1 : Nat) (M : xM) (mo : xM) (h : F_X0_take a0 a1 M = some mo) : xC l yX0_take cX0_take 2 none 2 0 0 κ [.ref (κ.1 + a0), .ref (κ.1 + a1)] M none mo := by
  refine xC_of rfl (Nat.le_of_ble_eq_true rfl) fun p e s m args below meth c X hr hlk hnm H locs ls O hl => ?_
  have X : xX p s m args c cX0_take 2 RX0 κ := X
  have hl : lv_has ls 2 [(0, .ref (κ.1 + a0)), (1, .ref (κ.1 + a1))] := hl
  have hx := X.1
  have hb := X.2.1
  obtain ⟨x, hx0⟩ : ∃ x, mo = x := ⟨_, rfl⟩
  rw [hx0] at h
  have hK : x = mo := hx0.symm
  unfold F_X0_take at h
  refine lv_aload_n hx hb dX0_take_0 rfl (lv_at hl 1 rfl) ?_
  obtain ⟨t1, ht1, h⟩ := Option.bind_eq_some_iff.mp h
  refine xr_getP X O ht1 fl_X0_9 dX0_take_1 ?_
  refine lv_iconst (v := (0 : Int32)) hx hb dX0_take_4 (by decide) ?_
  refine lv_aload_n hx hb dX0_take_5 rfl (lv_at hl 0 rfl) ?_
  obtain ⟨t2, ht2, h⟩ := Option.bind_eq_some_iff.mp h
  refine xr_getP X O ht2 fl_X0_9 dX0_take_6 ?_
  refine lv_iconst (v := (0 : Int32)) hx hb dX0_take_9 (by decide) ?_
  refine lv_bipush (v := (25 : Int32)) hx hb dX0_take_10 (by decide) ?_
  obtain ⟨t3, ht3, h⟩ := Option.bind_eq_some_iff.mp h
  refine xr_acp X O ht3 la_X0_21 hl.1 (by decide) (Nat.le_of_ble_eq_true rfl) dX0_take_12 (fun H locs O => ?_)
  refine lv_aload_n hx hb dX0_take_15 rfl (lv_at hl 1 rfl) ?_
  obtain ⟨t4, ht4, h⟩ := Option.bind_eq_some_iff.mp h
  refine xr_getP X O ht4 fl_X0_15 dX0_take_16 ?_
  refine lv_iconst (v := (0 : Int32)) hx hb dX0_take_19 (by decide) ?_
  refine lv_aload_n hx hb dX0_take_20 rfl (lv_at hl 0 rfl) ?_
  obtain ⟨t5, ht5, h⟩ := Option.bind_eq_some_iff.mp h
  refine xr_getP X O ht5 fl_X0_15 dX0_take_21 ?_
  refine lv_iconst (v := (0 : Int32)) hx hb dX0_take_24 (by decide) ?_
  refine lv_bipush (v := (6 : Int32)) hx hb dX0_take_25 (by decide) ?_
  obtain ⟨t6, ht6, h⟩ := Option.bind_eq_some_iff.mp h
  refine xr_acp X O ht6 la_X0_21 hl.1 (by decide) (Nat.le_of_ble_eq_true rfl) dX0_take_27 (fun H locs O => ?_)
  refine lv_aload_n hx hb dX0_take_30 rfl (lv_at hl 1 rfl) ?_
  obtain ⟨t7, ht7, h⟩ := Option.bind_eq_some_iff.mp h
  refine xr_getP X O ht7 fl_X0_18 dX0_take_31 ?_
  refine lv_iconst (v := (0 : Int32)) hx hb dX0_take_34 (by decide) ?_
  refine lv_aload_n hx hb dX0_take_35 rfl (lv_at hl 0 rfl) ?_
  obtain ⟨t8, ht8, h⟩ := Option.bind_eq_some_iff.mp h
  refine xr_getP X O ht8 fl_X0_18 dX0_take_36 ?_
  refine lv_iconst (v := (0 : Int32)) hx hb dX0_take_39 (by decide) ?_
  refine lv_bipush (v := (6 : Int32)) hx hb dX0_take_40 (by decide) ?_
  obtain ⟨t9, ht9, h⟩ := Option.bind_eq_some_iff.mp h
  refine xr_acp X O ht9 la_X0_21 hl.1 (by decide) (Nat.le_of_ble_eq_true rfl) dX0_take_42 (fun H locs O => ?_)
  refine lv_aload_n hx hb dX0_take_45 rfl (lv_at hl 0 rfl) ?_
  refine lv_aload_n hx hb dX0_take_46 rfl (lv_at hl 1 rfl) ?_
  obtain ⟨t10, ht10, h⟩ := Option.bind_eq_some_iff.mp h
  refine xr_getI X O ht10 fl_X0_27 (Or.inl rfl) dX0_take_47 ?_
  obtain ⟨t11, ht11, h⟩ := Option.bind_eq_some_iff.mp h
  refine xr_putI X O ht11 fl_X0_27 dX0_take_50 (fun H locs O => ?_)
  refine lv_aload_n hx hb dX0_take_53 rfl (lv_at hl 0 rfl) ?_
  refine lv_aload_n hx hb dX0_take_54 rfl (lv_at hl 1 rfl) ?_
  obtain ⟨t12, ht12, h⟩ := Option.bind_eq_some_iff.mp h
  refine xr_getI X O ht12 fl_X0_31 (Or.inl rfl) dX0_take_55 ?_
  obtain ⟨t13, ht13, h⟩ := Option.bind_eq_some_iff.mp h
  refine xr_putI X O ht13 fl_X0_31 dX0_take_58 (fun H locs O => ?_)
  refine lv_aload_n hx hb dX0_take_61 rfl (lv_at hl 0 rfl) ?_
  refine lv_aload_n hx hb dX0_take_62 rfl (lv_at hl 1 rfl) ?_
  obtain ⟨t14, ht14, h⟩ := Option.bind_eq_some_iff.mp h
  refine xr_getI X O ht14 fl_X0_34 (Or.inl rfl) dX0_take_63 ?_
  obtain ⟨t15, ht15, h⟩ := Option.bind_eq_some_iff.mp h
  refine xr_putI X O ht15 fl_X0_34 dX0_take_66 (fun H locs O => ?_)
  refine lv_aload_n hx hb dX0_take_69 rfl (lv_at hl 0 rfl) ?_
  refine lv_aload_n hx hb dX0_take_70 rfl (lv_at hl 1 rfl) ?_
  obtain ⟨t16, ht16, h⟩ := Option.bind_eq_some_iff.mp h
  refine xr_getI X O ht16 fl_X0_37 (Or.inl rfl) dX0_take_71 ?_
  obtain ⟨t17, ht17, h⟩ := Option.bind_eq_some_iff.mp h
  refine xr_putI X O ht17 fl_X0_37 dX0_take_74 (fun H locs O => ?_)
  rw [← Option.some.inj h] at hK
  have hK : t17 = mo := hK
  rw [hK] at O
  exact xr_vret X hr hlk O dX0_take_77
def F_J7_fill_53178_20 (M : xM) : Option (xM) :=
some M
def F_J7_fill_53178_5b (v0 : Nat) (v1 : Int32) (v3 : Int32) : (Int32 × xM) → Option ((Int32 × xM) ⊕ (xM)) := fun ⟨v2, M⟩ =>
if v3 ≤ v2 then (
(F_J7_fill_53178_20 M).map Sum.inr)
else (
(xsI M v0 v2 v1).bind fun t2 =>
some (.inl ((v2 + 1), t2)))
def F_J7_fill_53178_5 (v0 : Nat) (v1 : Int32) (v2 : Int32) (v3 : Int32) (M : xM) : Option (xM) := xit (F_J7_fill_53178_5b v0 v1 v3) xFU (v2, M)
def F_J7_fill_53178 (a0 : Nat) (a1 : Int32) (M : xM) : Option (xM) :=
(xal M 20 a0).bind fun t1 =>
F_J7_fill_53178_5 a0 a1 (0 : Int32) t1 M
set_option maxRecDepth 100000 in
set_option maxHeartbeats 4000000 in
theorem F_J7_fill_53178_20_ok (X : xX p s m args c cJ7_fill_53178 4 RJ7 κ) (hr : meth.sig.returnType = none) (hlk : meth.locks = false) {mo : xM} (M : xM) (x : xM) (h : F_J7_fill_53178_20 M = some x) (hK : (fun o => o = mo) x) (H : Heap) (locs : List Loc) (ls : Array Slot) (O : xO κ s M H locs) (hl : lv_has ls 4 []) : W p l e (xRm 2 0 0) s m args below meth c H locs 0 0 (xQf below args s 0 0 κ none mo) (F0 m 20 ls []) := by
  unfold F_J7_fill_53178_20 at h
  have hx := X.1
  have hb := X.2.1
  rw [← Option.some.inj h] at hK
  have hK : M = mo := hK
  rw [hK] at O
  exact xr_vret X hr hlk O dJ7_fill_53178_20
set_option maxRecDepth 100000 in
set_option maxHeartbeats 4000000 in
theorem F_J7_fill_53178_5_bok (X : xX p s m args c cJ7_fill_53178 4 RJ7 κ) (hr : meth.sig.returnType = none) (hlk : meth.locks = false) {mo : xM} (v0 : Nat) (v1 : Int32) (v2 : Int32) (v3 : Int32) {W5 : Int32 × xM → Prop} (hW5 : ∀ (v2 : Int32) (M : xM), W5 (v2, M) → ∀ (H : Heap) (locs : List Loc) (ls : Array Slot), xO κ s M H locs → lv_has ls 4 [(0, .ref (κ.1 + v0)), (1, .int v1), (2, .int v2), (3, .int v3)] → W p l e (xRm 2 0 0) s m args below meth c H locs 0 0 (xQf below args s 0 0 κ none mo) (F0 m 5 ls [])) (M : xM) (x : (Int32 × xM) ⊕ (xM)) (h : F_J7_fill_53178_5b v0 v1 v3 (v2, M) = some x) (hK : (xKl W5 (fun o => o = mo)) x) (H : Heap) (locs : List Loc) (ls : Array Slot) (O : xO κ s M H locs) (hl : lv_has ls 4 [(0, .ref (κ.1 + v0)), (1, .int v1), (2, .int v2), (3, .int v3)]) : W p l e (xRm 2 0 0) s m args below meth c H locs 0 0 (xQf below args s 0 0 κ none mo) (F0 m 5 ls []) := by
  unfold F_J7_fill_53178_5b at h
  dsimp only at h
  have hx := X.1
  have hb := X.2.1
  refine lv_iload_n hx hb dJ7_fill_53178_5 rfl (lv_at hl 2 rfl) ?_
  refine lv_iload_n hx hb dJ7_fill_53178_6 rfl (lv_at hl 3 rfl) ?_
  refine lv_icmp_ge (tgt := 20) hx hb dJ7_fill_53178_7 (by decide) (fun hc7 => ?_) (fun hc7 => ?_)
  · rw [if_pos hc7] at h
    obtain ⟨_, hw0, ew0⟩ := Option.map_eq_some_iff.mp h
    rw [← ew0] at hK
    have h := hw0
    exact F_J7_fill_53178_20_ok X hr hlk  M _ h hK H locs ls O (lv_sub hl [] rfl)
  rw [if_neg hc7] at h
  refine lv_aload_n hx hb dJ7_fill_53178_10 rfl (lv_at hl 0 rfl) ?_
  refine lv_iload_n hx hb dJ7_fill_53178_11 rfl (lv_at hl 2 rfl) ?_
  refine lv_iload_n hx hb dJ7_fill_53178_12 rfl (lv_at hl 1 rfl) ?_
  obtain ⟨t2, ht2, h⟩ := Option.bind_eq_some_iff.mp h
  refine xr_stI X O ht2 dJ7_fill_53178_13 (fun H locs O => ?_)
  refine lv_iinc (v := (v2 + 1)) (lv' := [(2, .int (v2 + 1)), (0, .ref (κ.1 + v0)), (1, .int v1), (3, .int v3)]) hx hb dJ7_fill_53178_14 hl (k := 2) rfl rfl (by decide) rfl (fun ls hl => ?_)
  refine lv_goto (tgt := 5) hx hb dJ7_fill_53178_17 (by decide) ?_
  rw [← Option.some.inj h] at hK
  exact hW5 (v2 + 1) t2 hK H locs ls O (lv_sub hl [1, 2, 0, 3] rfl)
set_option maxRecDepth 100000 in
set_option maxHeartbeats 4000000 in
theorem F_J7_fill_53178_5_ok (X : xX p s m args c cJ7_fill_53178 4 RJ7 κ) (hr : meth.sig.returnType = none) (hlk : meth.locks = false) {mo : xM} (v0 : Nat) (v1 : Int32) (v2 : Int32) (v3 : Int32) (M : xM) (x : xM) (h : F_J7_fill_53178_5 v0 v1 v2 v3 M = some x) (hK : (fun o => o = mo) x) (H : Heap) (locs : List Loc) (ls : Array Slot) (O : xO κ s M H locs) (hl : lv_has ls 4 [(0, .ref (κ.1 + v0)), (1, .int v1), (2, .int v2), (3, .int v3)]) : W p l e (xRm 2 0 0) s m args below meth c H locs 0 0 (xQf below args s 0 0 κ none mo) (F0 m 5 ls []) := by
  refine xit_K (Wh := fun x => ∀ (H : Heap) (locs : List Loc) (ls : Array Slot), xO κ s x.2 H locs → lv_has ls 4 [(0, .ref (κ.1 + v0)), (1, .int v1), (2, .int x.1), (3, .int v3)] → W p l e (xRm 2 0 0) s m args below meth c H locs 0 0 (xQf below args s 0 0 κ none mo) (F0 m 5 ls [])) (Kp := (fun o => o = mo)) ?_ xFU (v2, M) x h hK H locs ls O hl
  intro y x h hK H locs ls O hl
  exact F_J7_fill_53178_5_bok X hr hlk v0 v1 y.1 v3 (fun _ _ hw => hw) y.2 x h hK H locs ls O hl
set_option maxRecDepth 100000 in
set_option maxHeartbeats 4000000 in
theorem T_J7_fill_53178 (l : Launch) (κ : xQ) (a0 : Nat) (a1 : Int32) (M : xM) (mo : xM) (h : F_J7_fill_53178 a0 a1 M = some mo) : xC l yJ7_fill_53178 cJ7_fill_53178 4 none 2 0 0 κ [.ref (κ.1 + a0), .int a1] M none mo := by
  refine xC_ofF (by decide +kernel) (Nat.le_of_ble_eq_true rfl) fun p e s m args below meth c X hr hlk hnm H locs ls O hl => ?_
  have X : xX p s m args c cJ7_fill_53178 4 RJ7 κ := X
  have hl : lv_has ls 4 [(0, .ref (κ.1 + a0)), (1, .int a1)] := hl
  have hx := X.1
  have hb := X.2.1
  obtain ⟨x, hx0⟩ : ∃ x, mo = x := ⟨_, rfl⟩
  rw [hx0] at h
  have hK : x = mo := hx0.symm
  unfold F_J7_fill_53178 at h
  refine lv_iconst (v := (0 : Int32)) hx hb dJ7_fill_53178_0 (by decide) ?_
  refine lv_istore_n (lv' := [(2, .int (0 : Int32)), (0, .ref (κ.1 + a0)), (1, .int a1)]) hx hb dJ7_fill_53178_1 rfl hl (by decide) rfl (fun ls hl => ?_)
  refine lv_aload_n hx hb dJ7_fill_53178_2 rfl (lv_at hl 1 rfl) ?_
  obtain ⟨t1, ht1, h⟩ := Option.bind_eq_some_iff.mp h
  refine xr_aldLen X O ht1 (by decide) dJ7_fill_53178_3 ?_
  refine lv_istore_n (lv' := [(3, .int t1), (2, .int (0 : Int32)), (0, .ref (κ.1 + a0)), (1, .int a1)]) hx hb dJ7_fill_53178_4 rfl hl (by decide) rfl (fun ls hl => ?_)
  exact F_J7_fill_53178_5_ok X hr hlk a0 a1 (0 : Int32) t1 M _ h hK H locs ls O (lv_sub hl [2, 3, 1, 0] rfl)
def F_X0_clear (a0 : Nat) (M : xM) : Option (xM) :=
(xgP M a0 0 0).bind fun t1 =>
(F_J7_fill_53178 t1 (0 : Int32) M).bind fun t2 =>
(xpI t2 a0 0 3 (0 : Int32)).bind fun t3 =>
(xpI t3 a0 0 4 (0 : Int32)).bind fun t4 =>
(xpI t4 a0 0 5 (0 : Int32)).bind fun t5 =>
(xpI t5 a0 0 6 (0 : Int32)).bind fun t6 =>
some t6
set_option maxRecDepth 100000 in
set_option maxHeartbeats 4000000 in
theorem T_X0_clear (l : Launch) (κ : xQ) (a0 : Nat) (M : xM) (mo : xM) (h : F_X0_clear a0 M = some mo) : xC l yX0_clear cX0_clear 1 none 3 0 0 κ [.ref (κ.1 + a0)] M none mo := by
  refine xC_of rfl (Nat.le_of_ble_eq_true rfl) fun p e s m args below meth c X hr hlk hnm H locs ls O hl => ?_
  have X : xX p s m args c cX0_clear 1 RX0 κ := X
  have hl : lv_has ls 1 [(0, .ref (κ.1 + a0))] := hl
  have hx := X.1
  have hb := X.2.1
  obtain ⟨x, hx0⟩ : ∃ x, mo = x := ⟨_, rfl⟩
  rw [hx0] at h
  have hK : x = mo := hx0.symm
  unfold F_X0_clear at h
  refine lv_aload_n hx hb dX0_clear_0 rfl (lv_at hl 0 rfl) ?_
  obtain ⟨t1, ht1, h⟩ := Option.bind_eq_some_iff.mp h
  refine xr_getP X O ht1 fl_X0_9 dX0_clear_1 ?_
  refine lv_iconst (v := (0 : Int32)) hx hb dX0_clear_4 (by decide) ?_
  obtain ⟨t2, ht2, h⟩ := Option.bind_eq_some_iff.mp h
  refine xr_callS (rest := []) X O (T_J7_fill_53178 l κ t1 (0 : Int32) M _ ht2) lk_X0_40 (Nat.le_of_ble_eq_true rfl) rfl hl.1 rfl (Nat.le_of_ble_eq_true rfl) dX0_clear_5 ⟨Nat.le_of_ble_eq_true rfl, Nat.le_of_ble_eq_true rfl⟩ (fun H locs O => ?_)
  refine W.eq (g2 := F0 m 8 ls []) rfl ?_
  refine lv_aload_n hx hb dX0_clear_8 rfl (lv_at hl 0 rfl) ?_
  refine lv_iconst (v := (0 : Int32)) hx hb dX0_clear_9 (by decide) ?_
  obtain ⟨t3, ht3, h⟩ := Option.bind_eq_some_iff.mp h
  refine xr_putI X O ht3 fl_X0_27 dX0_clear_10 (fun H locs O => ?_)
  refine lv_aload_n hx hb dX0_clear_13 rfl (lv_at hl 0 rfl) ?_
  refine lv_iconst (v := (0 : Int32)) hx hb dX0_clear_14 (by decide) ?_
  obtain ⟨t4, ht4, h⟩ := Option.bind_eq_some_iff.mp h
  refine xr_putI X O ht4 fl_X0_31 dX0_clear_15 (fun H locs O => ?_)
  refine lv_aload_n hx hb dX0_clear_18 rfl (lv_at hl 0 rfl) ?_
  refine lv_iconst (v := (0 : Int32)) hx hb dX0_clear_19 (by decide) ?_
  obtain ⟨t5, ht5, h⟩ := Option.bind_eq_some_iff.mp h
  refine xr_putI X O ht5 fl_X0_34 dX0_clear_20 (fun H locs O => ?_)
  refine lv_aload_n hx hb dX0_clear_23 rfl (lv_at hl 0 rfl) ?_
  refine lv_iconst (v := (0 : Int32)) hx hb dX0_clear_24 (by decide) ?_
  obtain ⟨t6, ht6, h⟩ := Option.bind_eq_some_iff.mp h
  refine xr_putI X O ht6 fl_X0_37 dX0_clear_25 (fun H locs O => ?_)
  rw [← Option.some.inj h] at hK
  have hK : t6 = mo := hK
  rw [hK] at O
  exact xr_vret X hr hlk O dX0_clear_28
def F_X0_heap (a0 : Nat) (a1 : Int32) (a2 : Int32) (M : xM) : Option (Int32 × xM) :=
if a1 < 0 then (
some ((1 : Int32), M))
else (
if a2 ≤ a1 then (
some ((1 : Int32), M))
else (
if a1 < (25 : Int32) then (
(xgP M a0 0 0).bind fun t1 =>
(xaI M 20 t1 a1).bind fun t2 =>
if t2 < (9 : Int32) then (
(xgP M a0 0 0).bind fun t3 =>
(xaI M 20 t3 a1).bind fun t4 =>
(xsI M t3 a1 (t4 + (1 : Int32))).bind fun t5 =>
some ((0 : Int32), t5))
else (
some ((2 : Int32), M)))
else (
some ((1 : Int32), M))))
set_option maxRecDepth 100000 in
set_option maxHeartbeats 4000000 in
theorem T_X0_heap (l : Launch) (κ : xQ) (a0 : Nat) (a1 : Int32) (a2 : Int32) (M : xM) (ro : Int32) (mo : xM) (h : F_X0_heap a0 a1 a2 M = some (ro, mo)) : xC l yX0_heap cX0_heap 3 (some .int) 2 0 0 κ [.ref (κ.1 + a0), .int a1, .int a2] M (some (.int ro)) mo := by
  refine xC_of rfl (Nat.le_of_ble_eq_true rfl) fun p e s m args below meth c X hr hlk hnm H locs ls O hl => ?_
  have X : xX p s m args c cX0_heap 3 RX0 κ := X
  have hl : lv_has ls 3 [(0, .ref (κ.1 + a0)), (1, .int a1), (2, .int a2)] := hl
  have hx := X.1
  have hb := X.2.1
  obtain ⟨x, hx0⟩ : ∃ x, (ro, mo) = x := ⟨_, rfl⟩
  rw [hx0] at h
  have hK : x = (ro, mo) := hx0.symm
  unfold F_X0_heap at h
  refine lv_iload_n hx hb dX0_heap_0 rfl (lv_at hl 1 rfl) ?_
  refine lv_if_lt (tgt := 15) hx hb dX0_heap_1 (by decide) (fun hc1 => ?_) (fun hc1 => ?_)
  · rw [if_pos hc1] at h
    refine lv_iconst (v := (1 : Int32)) hx hb dX0_heap_15 (by decide) ?_
    rw [← Option.some.inj h] at hK
    have hK : ((1 : Int32), M) = (ro, mo) := hK
    obtain ⟨hK1, hK2⟩ := Prod.mk.inj hK
    rw [hK2] at O
    refine xr_top (w := .int ro) (by rw [hK1]) ?_
    exact xr_iret X hr hlk O dX0_heap_16
  rw [if_neg hc1] at h
  refine lv_iload_n hx hb dX0_heap_4 rfl (lv_at hl 1 rfl) ?_
  refine lv_iload_n hx hb dX0_heap_5 rfl (lv_at hl 2 rfl) ?_
  refine lv_icmp_ge (tgt := 15) hx hb dX0_heap_6 (by decide) (fun hc6 => ?_) (fun hc6 => ?_)
  · rw [if_pos hc6] at h
    refine lv_iconst (v := (1 : Int32)) hx hb dX0_heap_15 (by decide) ?_
    rw [← Option.some.inj h] at hK
    have hK : ((1 : Int32), M) = (ro, mo) := hK
    obtain ⟨hK1, hK2⟩ := Prod.mk.inj hK
    rw [hK2] at O
    refine xr_top (w := .int ro) (by rw [hK1]) ?_
    exact xr_iret X hr hlk O dX0_heap_16
  rw [if_neg hc6] at h
  refine lv_iload_n hx hb dX0_heap_9 rfl (lv_at hl 1 rfl) ?_
  refine lv_bipush (v := (25 : Int32)) hx hb dX0_heap_10 (by decide) ?_
  refine lv_icmp_lt (tgt := 17) hx hb dX0_heap_12 (by decide) (fun hc12 => ?_) (fun hc12 => ?_)
  · rw [if_pos hc12] at h
    refine lv_aload_n hx hb dX0_heap_17 rfl (lv_at hl 0 rfl) ?_
    obtain ⟨t1, ht1, h⟩ := Option.bind_eq_some_iff.mp h
    refine xr_getP X O ht1 fl_X0_9 dX0_heap_18 ?_
    refine lv_iload_n hx hb dX0_heap_21 rfl (lv_at hl 1 rfl) ?_
    obtain ⟨t2, ht2, h⟩ := Option.bind_eq_some_iff.mp h
    refine xr_aldI X O ht2 dX0_heap_22 ?_
    refine lv_bipush (v := (9 : Int32)) hx hb dX0_heap_23 (by decide) ?_
    refine lv_icmp_lt (tgt := 30) hx hb dX0_heap_25 (by decide) (fun hc25 => ?_) (fun hc25 => ?_)
    · rw [if_pos hc25] at h
      refine lv_aload_n hx hb dX0_heap_30 rfl (lv_at hl 0 rfl) ?_
      obtain ⟨t3, ht3, h⟩ := Option.bind_eq_some_iff.mp h
      refine xr_getP X O ht3 fl_X0_9 dX0_heap_31 ?_
      refine lv_iload_n hx hb dX0_heap_34 rfl (lv_at hl 1 rfl) ?_
      refine lv_dup2_11 hx hb dX0_heap_35 rfl rfl ?_
      obtain ⟨t4, ht4, h⟩ := Option.bind_eq_some_iff.mp h
      refine xr_aldI X O ht4 dX0_heap_36 ?_
      refine lv_iconst (v := (1 : Int32)) hx hb dX0_heap_37 (by decide) ?_
      refine lv_iadd hx hb dX0_heap_38 ?_
      obtain ⟨t5, ht5, h⟩ := Option.bind_eq_some_iff.mp h
      refine xr_stI X O ht5 dX0_heap_39 (fun H locs O => ?_)
      refine lv_iconst (v := (0 : Int32)) hx hb dX0_heap_40 (by decide) ?_
      rw [← Option.some.inj h] at hK
      have hK : ((0 : Int32), t5) = (ro, mo) := hK
      obtain ⟨hK1, hK2⟩ := Prod.mk.inj hK
      rw [hK2] at O
      refine xr_top (w := .int ro) (by rw [hK1]) ?_
      exact xr_iret X hr hlk O dX0_heap_41
    rw [if_neg hc25] at h
    refine lv_iconst (v := (2 : Int32)) hx hb dX0_heap_28 (by decide) ?_
    rw [← Option.some.inj h] at hK
    have hK : ((2 : Int32), M) = (ro, mo) := hK
    obtain ⟨hK1, hK2⟩ := Prod.mk.inj hK
    rw [hK2] at O
    refine xr_top (w := .int ro) (by rw [hK1]) ?_
    exact xr_iret X hr hlk O dX0_heap_29
  rw [if_neg hc12] at h
  refine lv_iconst (v := (1 : Int32)) hx hb dX0_heap_15 (by decide) ?_
  rw [← Option.some.inj h] at hK
  have hK : ((1 : Int32), M) = (ro, mo) := hK
  obtain ⟨hK1, hK2⟩ := Prod.mk.inj hK
  rw [hK2] at O
  refine xr_top (w := .int ro) (by rw [hK1]) ?_
  exact xr_iret X hr hlk O dX0_heap_16
def F_X0_scoop (a0 : Nat) (a1 : Int32) (a2 : Int32) (M : xM) : Option (Int32 × xM) :=
if a1 < 0 then (
some ((1 : Int32), M))
else (
if a2 ≤ a1 then (
some ((1 : Int32), M))
else (
if a1 < (25 : Int32) then (
(xgP M a0 0 0).bind fun t1 =>
(xaI M 20 t1 a1).bind fun t2 =>
if 0 < t2 then (
(xgP M a0 0 0).bind fun t3 =>
(xaI M 20 t3 a1).bind fun t4 =>
(xsI M t3 a1 (t4 - (1 : Int32))).bind fun t5 =>
some ((0 : Int32), t5))
else (
some ((2 : Int32), M)))
else (
some ((1 : Int32), M))))
set_option maxRecDepth 100000 in
set_option maxHeartbeats 4000000 in
theorem T_X0_scoop (l : Launch) (κ : xQ) (a0 : Nat) (a1 : Int32) (a2 : Int32) (M : xM) (ro : Int32) (mo : xM) (h : F_X0_scoop a0 a1 a2 M = some (ro, mo)) : xC l yX0_scoop cX0_scoop 3 (some .int) 2 0 0 κ [.ref (κ.1 + a0), .int a1, .int a2] M (some (.int ro)) mo := by
  refine xC_of rfl (Nat.le_of_ble_eq_true rfl) fun p e s m args below meth c X hr hlk hnm H locs ls O hl => ?_
  have X : xX p s m args c cX0_scoop 3 RX0 κ := X
  have hl : lv_has ls 3 [(0, .ref (κ.1 + a0)), (1, .int a1), (2, .int a2)] := hl
  have hx := X.1
  have hb := X.2.1
  obtain ⟨x, hx0⟩ : ∃ x, (ro, mo) = x := ⟨_, rfl⟩
  rw [hx0] at h
  have hK : x = (ro, mo) := hx0.symm
  unfold F_X0_scoop at h
  refine lv_iload_n hx hb dX0_scoop_0 rfl (lv_at hl 1 rfl) ?_
  refine lv_if_lt (tgt := 15) hx hb dX0_scoop_1 (by decide) (fun hc1 => ?_) (fun hc1 => ?_)
  · rw [if_pos hc1] at h
    refine lv_iconst (v := (1 : Int32)) hx hb dX0_scoop_15 (by decide) ?_
    rw [← Option.some.inj h] at hK
    have hK : ((1 : Int32), M) = (ro, mo) := hK
    obtain ⟨hK1, hK2⟩ := Prod.mk.inj hK
    rw [hK2] at O
    refine xr_top (w := .int ro) (by rw [hK1]) ?_
    exact xr_iret X hr hlk O dX0_scoop_16
  rw [if_neg hc1] at h
  refine lv_iload_n hx hb dX0_scoop_4 rfl (lv_at hl 1 rfl) ?_
  refine lv_iload_n hx hb dX0_scoop_5 rfl (lv_at hl 2 rfl) ?_
  refine lv_icmp_ge (tgt := 15) hx hb dX0_scoop_6 (by decide) (fun hc6 => ?_) (fun hc6 => ?_)
  · rw [if_pos hc6] at h
    refine lv_iconst (v := (1 : Int32)) hx hb dX0_scoop_15 (by decide) ?_
    rw [← Option.some.inj h] at hK
    have hK : ((1 : Int32), M) = (ro, mo) := hK
    obtain ⟨hK1, hK2⟩ := Prod.mk.inj hK
    rw [hK2] at O
    refine xr_top (w := .int ro) (by rw [hK1]) ?_
    exact xr_iret X hr hlk O dX0_scoop_16
  rw [if_neg hc6] at h
  refine lv_iload_n hx hb dX0_scoop_9 rfl (lv_at hl 1 rfl) ?_
  refine lv_bipush (v := (25 : Int32)) hx hb dX0_scoop_10 (by decide) ?_
  refine lv_icmp_lt (tgt := 17) hx hb dX0_scoop_12 (by decide) (fun hc12 => ?_) (fun hc12 => ?_)
  · rw [if_pos hc12] at h
    refine lv_aload_n hx hb dX0_scoop_17 rfl (lv_at hl 0 rfl) ?_
    obtain ⟨t1, ht1, h⟩ := Option.bind_eq_some_iff.mp h
    refine xr_getP X O ht1 fl_X0_9 dX0_scoop_18 ?_
    refine lv_iload_n hx hb dX0_scoop_21 rfl (lv_at hl 1 rfl) ?_
    obtain ⟨t2, ht2, h⟩ := Option.bind_eq_some_iff.mp h
    refine xr_aldI X O ht2 dX0_scoop_22 ?_
    refine lv_if_gt (tgt := 28) hx hb dX0_scoop_23 (by decide) (fun hc23 => ?_) (fun hc23 => ?_)
    · rw [if_pos hc23] at h
      refine lv_aload_n hx hb dX0_scoop_28 rfl (lv_at hl 0 rfl) ?_
      obtain ⟨t3, ht3, h⟩ := Option.bind_eq_some_iff.mp h
      refine xr_getP X O ht3 fl_X0_9 dX0_scoop_29 ?_
      refine lv_iload_n hx hb dX0_scoop_32 rfl (lv_at hl 1 rfl) ?_
      refine lv_dup2_11 hx hb dX0_scoop_33 rfl rfl ?_
      obtain ⟨t4, ht4, h⟩ := Option.bind_eq_some_iff.mp h
      refine xr_aldI X O ht4 dX0_scoop_34 ?_
      refine lv_iconst (v := (1 : Int32)) hx hb dX0_scoop_35 (by decide) ?_
      refine lv_isub hx hb dX0_scoop_36 ?_
      obtain ⟨t5, ht5, h⟩ := Option.bind_eq_some_iff.mp h
      refine xr_stI X O ht5 dX0_scoop_37 (fun H locs O => ?_)
      refine lv_iconst (v := (0 : Int32)) hx hb dX0_scoop_38 (by decide) ?_
      rw [← Option.some.inj h] at hK
      have hK : ((0 : Int32), t5) = (ro, mo) := hK
      obtain ⟨hK1, hK2⟩ := Prod.mk.inj hK
      rw [hK2] at O
      refine xr_top (w := .int ro) (by rw [hK1]) ?_
      exact xr_iret X hr hlk O dX0_scoop_39
    rw [if_neg hc23] at h
    refine lv_iconst (v := (2 : Int32)) hx hb dX0_scoop_26 (by decide) ?_
    rw [← Option.some.inj h] at hK
    have hK : ((2 : Int32), M) = (ro, mo) := hK
    obtain ⟨hK1, hK2⟩ := Prod.mk.inj hK
    rw [hK2] at O
    refine xr_top (w := .int ro) (by rw [hK1]) ?_
    exact xr_iret X hr hlk O dX0_scoop_27
  rw [if_neg hc12] at h
  refine lv_iconst (v := (1 : Int32)) hx hb dX0_scoop_15 (by decide) ?_
  rw [← Option.some.inj h] at hK
  have hK : ((1 : Int32), M) = (ro, mo) := hK
  obtain ⟨hK1, hK2⟩ := Prod.mk.inj hK
  rw [hK2] at O
  refine xr_top (w := .int ro) (by rw [hK1]) ?_
  exact xr_iret X hr hlk O dX0_scoop_16
def F_X0_builtCells_34 (v0 : Nat) (v1 : Int32) (v2 : Int32) (M : xM) : Option ((Int32 × Int32 × xM) ⊕ (Int32 × xM)) :=
some (.inl (v1, (v2 + 1), M))
def F_X0_builtCells_40 (v1 : Int32) (M : xM) : Option (Int32 × xM) :=
some (v1, M)
def F_X0_builtCells_4b (v0 : Nat) : (Int32 × Int32 × xM) → Option ((Int32 × Int32 × xM) ⊕ (Int32 × xM)) := fun ⟨v1, v2, M⟩ =>
(xgI M v0 0 3).bind fun t1 =>
if t1 ≤ v2 then (
(F_X0_builtCells_40 v1 M).map Sum.inr)
else (
(xgI M v0 0 4).bind fun t2 =>
if ((t2 >>> (v2 &&& 31)) &&& (1 : Int32)) = 0 then (
F_X0_builtCells_34 v0 v1 v2 M)
else (
(xgP M v0 0 1).bind fun t3 =>
(xaI M 20 t3 v2).bind fun t4 =>
(some ((v1 ||| ((1 : Int32) <<< (t4 &&& 31))))).bind fun t5 =>
F_X0_builtCells_34 v0 t5 v2 M))
def F_X0_builtCells_4 (v0 : Nat) (v1 : Int32) (v2 : Int32) (M : xM) : Option (Int32 × xM) := xit (F_X0_builtCells_4b v0) xFU (v1, v2, M)
def F_X0_builtCells (a0 : Nat) (M : xM) : Option (Int32 × xM) :=
F_X0_builtCells_4 a0 (0 : Int32) (0 : Int32) M
set_option maxRecDepth 100000 in
set_option maxHeartbeats 4000000 in
theorem F_X0_builtCells_34_ok (X : xX p s m args c cX0_builtCells 3 RX0 κ) (hr : meth.sig.returnType = (some .int)) (hlk : meth.locks = false) {ro : Int32} {mo : xM} (v0 : Nat) (v1 : Int32) (v2 : Int32) {W4 : Int32 × Int32 × xM → Prop} (hW4 : ∀ (v1 : Int32) (v2 : Int32) (M : xM), W4 (v1, v2, M) → ∀ (H : Heap) (locs : List Loc) (ls : Array Slot), xO κ s M H locs → lv_has ls 3 [(0, .ref (κ.1 + v0)), (1, .int v1), (2, .int v2)] → W p l e (xRm 2 0 0) s m args below meth c H locs 0 0 (xQf below args s 0 0 κ (some (.int ro)) mo) (F0 m 4 ls [])) (M : xM) (x : (Int32 × Int32 × xM) ⊕ (Int32 × xM)) (h : F_X0_builtCells_34 v0 v1 v2 M = some x) (hK : (xKl W4 (fun o => o = (ro, mo))) x) (H : Heap) (locs : List Loc) (ls : Array Slot) (O : xO κ s M H locs) (hl : lv_has ls 3 [(0, .ref (κ.1 + v0)), (1, .int v1), (2, .int v2)]) : W p l e (xRm 2 0 0) s m args below meth c H locs 0 0 (xQf below args s 0 0 κ (some (.int ro)) mo) (F0 m 34 ls []) := by
  unfold F_X0_builtCells_34 at h
  have hx := X.1
  have hb := X.2.1
  refine lv_iinc (v := (v2 + 1)) (lv' := [(2, .int (v2 + 1)), (0, .ref (κ.1 + v0)), (1, .int v1)]) hx hb dX0_builtCells_34 hl (k := 2) rfl rfl (by decide) rfl (fun ls hl => ?_)
  refine lv_goto (tgt := 4) hx hb dX0_builtCells_37 (by decide) ?_
  rw [← Option.some.inj h] at hK
  exact hW4 v1 (v2 + 1) M hK H locs ls O (lv_sub hl [1, 2, 0] rfl)
set_option maxRecDepth 100000 in
set_option maxHeartbeats 4000000 in
theorem F_X0_builtCells_40_ok (X : xX p s m args c cX0_builtCells 3 RX0 κ) (hr : meth.sig.returnType = (some .int)) (hlk : meth.locks = false) {ro : Int32} {mo : xM} (v1 : Int32) (M : xM) (x : Int32 × xM) (h : F_X0_builtCells_40 v1 M = some x) (hK : (fun o => o = (ro, mo)) x) (H : Heap) (locs : List Loc) (ls : Array Slot) (O : xO κ s M H locs) (hl : lv_has ls 3 [(1, .int v1)]) : W p l e (xRm 2 0 0) s m args below meth c H locs 0 0 (xQf below args s 0 0 κ (some (.int ro)) mo) (F0 m 40 ls []) := by
  unfold F_X0_builtCells_40 at h
  have hx := X.1
  have hb := X.2.1
  refine lv_iload_n hx hb dX0_builtCells_40 rfl (lv_at hl 0 rfl) ?_
  rw [← Option.some.inj h] at hK
  have hK : (v1, M) = (ro, mo) := hK
  obtain ⟨hK1, hK2⟩ := Prod.mk.inj hK
  rw [hK2] at O
  refine xr_top (w := .int ro) (by rw [hK1]) ?_
  exact xr_iret X hr hlk O dX0_builtCells_41
set_option maxRecDepth 100000 in
set_option maxHeartbeats 4000000 in
theorem F_X0_builtCells_4_bok (X : xX p s m args c cX0_builtCells 3 RX0 κ) (hr : meth.sig.returnType = (some .int)) (hlk : meth.locks = false) {ro : Int32} {mo : xM} (v0 : Nat) (v1 : Int32) (v2 : Int32) {W4 : Int32 × Int32 × xM → Prop} (hW4 : ∀ (v1 : Int32) (v2 : Int32) (M : xM), W4 (v1, v2, M) → ∀ (H : Heap) (locs : List Loc) (ls : Array Slot), xO κ s M H locs → lv_has ls 3 [(0, .ref (κ.1 + v0)), (1, .int v1), (2, .int v2)] → W p l e (xRm 2 0 0) s m args below meth c H locs 0 0 (xQf below args s 0 0 κ (some (.int ro)) mo) (F0 m 4 ls [])) (M : xM) (x : (Int32 × Int32 × xM) ⊕ (Int32 × xM)) (h : F_X0_builtCells_4b v0 (v1, v2, M) = some x) (hK : (xKl W4 (fun o => o = (ro, mo))) x) (H : Heap) (locs : List Loc) (ls : Array Slot) (O : xO κ s M H locs) (hl : lv_has ls 3 [(0, .ref (κ.1 + v0)), (1, .int v1), (2, .int v2)]) : W p l e (xRm 2 0 0) s m args below meth c H locs 0 0 (xQf below args s 0 0 κ (some (.int ro)) mo) (F0 m 4 ls []) := by
  unfold F_X0_builtCells_4b at h
  dsimp only at h
  have hx := X.1
  have hb := X.2.1
  refine lv_iload_n hx hb dX0_builtCells_4 rfl (lv_at hl 2 rfl) ?_
  refine lv_aload_n hx hb dX0_builtCells_5 rfl (lv_at hl 0 rfl) ?_
  obtain ⟨t1, ht1, h⟩ := Option.bind_eq_some_iff.mp h
  refine xr_getI X O ht1 fl_X0_27 (Or.inl rfl) dX0_builtCells_6 ?_
  refine lv_icmp_ge (tgt := 40) hx hb dX0_builtCells_9 (by decide) (fun hc9 => ?_) (fun hc9 => ?_)
  · rw [if_pos hc9] at h
    obtain ⟨_, hw0, ew0⟩ := Option.map_eq_some_iff.mp h
    rw [← ew0] at hK
    have h := hw0
    exact F_X0_builtCells_40_ok X hr hlk v1 M _ h hK H locs ls O (lv_sub hl [1] rfl)
  rw [if_neg hc9] at h
  refine lv_aload_n hx hb dX0_builtCells_12 rfl (lv_at hl 0 rfl) ?_
  obtain ⟨t2, ht2, h⟩ := Option.bind_eq_some_iff.mp h
  refine xr_getI X O ht2 fl_X0_31 (Or.inl rfl) dX0_builtCells_13 ?_
  refine lv_iload_n hx hb dX0_builtCells_16 rfl (lv_at hl 2 rfl) ?_
  refine lv_ishr hx hb dX0_builtCells_17 ?_
  refine lv_iconst (v := (1 : Int32)) hx hb dX0_builtCells_18 (by decide) ?_
  refine lv_iand hx hb dX0_builtCells_19 ?_
  refine lv_if_eq (tgt := 34) hx hb dX0_builtCells_20 (by decide) (fun hc20 => ?_) (fun hc20 => ?_)
  · rw [if_pos hc20] at h
    exact F_X0_builtCells_34_ok X hr hlk v0 v1 v2 hW4 M _ h hK H locs ls O (lv_sub hl [0, 1, 2] rfl)
  rw [if_neg hc20] at h
  refine lv_iload_n hx hb dX0_builtCells_23 rfl (lv_at hl 1 rfl) ?_
  refine lv_iconst (v := (1 : Int32)) hx hb dX0_builtCells_24 (by decide) ?_
  refine lv_aload_n hx hb dX0_builtCells_25 rfl (lv_at hl 0 rfl) ?_
  obtain ⟨t3, ht3, h⟩ := Option.bind_eq_some_iff.mp h
  refine xr_getP X O ht3 fl_X0_15 dX0_builtCells_26 ?_
  refine lv_iload_n hx hb dX0_builtCells_29 rfl (lv_at hl 2 rfl) ?_
  obtain ⟨t4, ht4, h⟩ := Option.bind_eq_some_iff.mp h
  refine xr_aldI X O ht4 dX0_builtCells_30 ?_
  refine lv_ishl hx hb dX0_builtCells_31 ?_
  refine lv_ior hx hb dX0_builtCells_32 ?_
  obtain ⟨t5, ht5, h⟩ := Option.bind_eq_some_iff.mp h
  refine xr_top (w := .int t5) (by rw [Option.some.inj ht5]) ?_
  refine lv_istore_n (lv' := [(1, .int t5), (0, .ref (κ.1 + v0)), (2, .int v2)]) hx hb dX0_builtCells_33 rfl hl (by decide) rfl (fun ls hl => ?_)
  exact F_X0_builtCells_34_ok X hr hlk v0 t5 v2 hW4 M _ h hK H locs ls O (lv_sub hl [1, 0, 2] rfl)
set_option maxRecDepth 100000 in
set_option maxHeartbeats 4000000 in
theorem F_X0_builtCells_4_ok (X : xX p s m args c cX0_builtCells 3 RX0 κ) (hr : meth.sig.returnType = (some .int)) (hlk : meth.locks = false) {ro : Int32} {mo : xM} (v0 : Nat) (v1 : Int32) (v2 : Int32) (M : xM) (x : Int32 × xM) (h : F_X0_builtCells_4 v0 v1 v2 M = some x) (hK : (fun o => o = (ro, mo)) x) (H : Heap) (locs : List Loc) (ls : Array Slot) (O : xO κ s M H locs) (hl : lv_has ls 3 [(0, .ref (κ.1 + v0)), (1, .int v1), (2, .int v2)]) : W p l e (xRm 2 0 0) s m args below meth c H locs 0 0 (xQf below args s 0 0 κ (some (.int ro)) mo) (F0 m 4 ls []) := by
  refine xit_K (Wh := fun x => ∀ (H : Heap) (locs : List Loc) (ls : Array Slot), xO κ s x.2.2 H locs → lv_has ls 3 [(0, .ref (κ.1 + v0)), (1, .int x.1), (2, .int x.2.1)] → W p l e (xRm 2 0 0) s m args below meth c H locs 0 0 (xQf below args s 0 0 κ (some (.int ro)) mo) (F0 m 4 ls [])) (Kp := (fun o => o = (ro, mo))) ?_ xFU (v1, v2, M) x h hK H locs ls O hl
  intro y x h hK H locs ls O hl
  exact F_X0_builtCells_4_bok X hr hlk v0 y.1 y.2.1 (fun _ _ _ hw => hw) y.2.2 x h hK H locs ls O hl
set_option maxRecDepth 100000 in
set_option maxHeartbeats 4000000 in
theorem T_X0_builtCells (l : Launch) (κ : xQ) (a0 : Nat) (M : xM) (ro : Int32) (mo : xM) (h : F_X0_builtCells a0 M = some (ro, mo)) : xC l yX0_builtCells cX0_builtCells 3 (some .int) 2 0 0 κ [.ref (κ.1 + a0)] M (some (.int ro)) mo := by
  refine xC_of rfl (Nat.le_of_ble_eq_true rfl) fun p e s m args below meth c X hr hlk hnm H locs ls O hl => ?_
  have X : xX p s m args c cX0_builtCells 3 RX0 κ := X
  have hl : lv_has ls 3 [(0, .ref (κ.1 + a0))] := hl
  have hx := X.1
  have hb := X.2.1
  obtain ⟨x, hx0⟩ : ∃ x, (ro, mo) = x := ⟨_, rfl⟩
  rw [hx0] at h
  have hK : x = (ro, mo) := hx0.symm
  unfold F_X0_builtCells at h
  refine lv_iconst (v := (0 : Int32)) hx hb dX0_builtCells_0 (by decide) ?_
  refine lv_istore_n (lv' := [(1, .int (0 : Int32)), (0, .ref (κ.1 + a0))]) hx hb dX0_builtCells_1 rfl hl (by decide) rfl (fun ls hl => ?_)
  refine lv_iconst (v := (0 : Int32)) hx hb dX0_builtCells_2 (by decide) ?_
  refine lv_istore_n (lv' := [(2, .int (0 : Int32)), (1, .int (0 : Int32)), (0, .ref (κ.1 + a0))]) hx hb dX0_builtCells_3 rfl hl (by decide) rfl (fun ls hl => ?_)
  exact F_X0_builtCells_4_ok X hr hlk a0 (0 : Int32) (0 : Int32) M _ h hK H locs ls O (lv_sub hl [2, 1, 0] rfl)
def F_X0_settle (a0 : Nat) (a1 : Int32) (a2 : Int32) (a3 : Int32) (M : xM) : Option (Int32 × xM) :=
if a1 < 0 then (
some ((1 : Int32), M))
else (
if a3 ≤ a1 then (
some ((1 : Int32), M))
else (
if a2 < 0 then (
some ((1 : Int32), M))
else (
if a2 < (5 : Int32) then (
(xgI M a0 0 3).bind fun t1 =>
if t1 < (6 : Int32) then (
(xck M a0 0).bind fun _ =>
(F_X0_builtCells a0 M).bind fun t3 =>
if ((t3.1 >>> (a1 &&& 31)) &&& (1 : Int32)) = 0 then (
(xgP t3.2 a0 0 1).bind fun t4 =>
(xgI t3.2 a0 0 3).bind fun t5 =>
(xsI t3.2 t4 t5 a1).bind fun t6 =>
(xgP t6 a0 0 2).bind fun t7 =>
(xgI t6 a0 0 3).bind fun t8 =>
(xsI t6 t7 t8 a2).bind fun t9 =>
(xgI t9 a0 0 4).bind fun t10 =>
(xgI t9 a0 0 3).bind fun t11 =>
(xpI t9 a0 0 4 (t10 ||| ((1 : Int32) <<< (t11 &&& 31)))).bind fun t12 =>
(xgI t12 a0 0 3).bind fun t13 =>
(xpI t12 a0 0 3 (t13 + (1 : Int32))).bind fun t14 =>
some ((0 : Int32), t14))
else (
some ((3 : Int32), t3.2)))
else (
some ((2 : Int32), M)))
else (
some ((1 : Int32), M)))))
set_option maxRecDepth 100000 in
set_option maxHeartbeats 4000000 in
theorem T_X0_settle (l : Launch) (κ : xQ) (a0 : Nat) (a1 : Int32) (a2 : Int32) (a3 : Int32) (M : xM) (ro : Int32) (mo : xM) (h : F_X0_settle a0 a1 a2 a3 M = some (ro, mo)) : xC l yX0_settle cX0_settle 4 (some .int) 3 0 0 κ [.ref (κ.1 + a0), .int a1, .int a2, .int a3] M (some (.int ro)) mo := by
  refine xC_of rfl (Nat.le_of_ble_eq_true rfl) fun p e s m args below meth c X hr hlk hnm H locs ls O hl => ?_
  have X : xX p s m args c cX0_settle 4 RX0 κ := X
  have hl : lv_has ls 4 [(0, .ref (κ.1 + a0)), (1, .int a1), (2, .int a2), (3, .int a3)] := hl
  have hx := X.1
  have hb := X.2.1
  obtain ⟨x, hx0⟩ : ∃ x, (ro, mo) = x := ⟨_, rfl⟩
  rw [hx0] at h
  have hK : x = (ro, mo) := hx0.symm
  unfold F_X0_settle at h
  refine lv_iload_n hx hb dX0_settle_0 rfl (lv_at hl 1 rfl) ?_
  refine lv_if_lt (tgt := 18) hx hb dX0_settle_1 (by decide) (fun hc1 => ?_) (fun hc1 => ?_)
  · rw [if_pos hc1] at h
    refine lv_iconst (v := (1 : Int32)) hx hb dX0_settle_18 (by decide) ?_
    rw [← Option.some.inj h] at hK
    have hK : ((1 : Int32), M) = (ro, mo) := hK
    obtain ⟨hK1, hK2⟩ := Prod.mk.inj hK
    rw [hK2] at O
    refine xr_top (w := .int ro) (by rw [hK1]) ?_
    exact xr_iret X hr hlk O dX0_settle_19
  rw [if_neg hc1] at h
  refine lv_iload_n hx hb dX0_settle_4 rfl (lv_at hl 1 rfl) ?_
  refine lv_iload_n hx hb dX0_settle_5 rfl (lv_at hl 3 rfl) ?_
  refine lv_icmp_ge (tgt := 18) hx hb dX0_settle_6 (by decide) (fun hc6 => ?_) (fun hc6 => ?_)
  · rw [if_pos hc6] at h
    refine lv_iconst (v := (1 : Int32)) hx hb dX0_settle_18 (by decide) ?_
    rw [← Option.some.inj h] at hK
    have hK : ((1 : Int32), M) = (ro, mo) := hK
    obtain ⟨hK1, hK2⟩ := Prod.mk.inj hK
    rw [hK2] at O
    refine xr_top (w := .int ro) (by rw [hK1]) ?_
    exact xr_iret X hr hlk O dX0_settle_19
  rw [if_neg hc6] at h
  refine lv_iload_n hx hb dX0_settle_9 rfl (lv_at hl 2 rfl) ?_
  refine lv_if_lt (tgt := 18) hx hb dX0_settle_10 (by decide) (fun hc10 => ?_) (fun hc10 => ?_)
  · rw [if_pos hc10] at h
    refine lv_iconst (v := (1 : Int32)) hx hb dX0_settle_18 (by decide) ?_
    rw [← Option.some.inj h] at hK
    have hK : ((1 : Int32), M) = (ro, mo) := hK
    obtain ⟨hK1, hK2⟩ := Prod.mk.inj hK
    rw [hK2] at O
    refine xr_top (w := .int ro) (by rw [hK1]) ?_
    exact xr_iret X hr hlk O dX0_settle_19
  rw [if_neg hc10] at h
  refine lv_iload_n hx hb dX0_settle_13 rfl (lv_at hl 2 rfl) ?_
  refine lv_iconst (v := (5 : Int32)) hx hb dX0_settle_14 (by decide) ?_
  refine lv_icmp_lt (tgt := 20) hx hb dX0_settle_15 (by decide) (fun hc15 => ?_) (fun hc15 => ?_)
  · rw [if_pos hc15] at h
    refine lv_aload_n hx hb dX0_settle_20 rfl (lv_at hl 0 rfl) ?_
    obtain ⟨t1, ht1, h⟩ := Option.bind_eq_some_iff.mp h
    refine xr_getI X O ht1 fl_X0_27 (Or.inl rfl) dX0_settle_21 ?_
    refine lv_bipush (v := (6 : Int32)) hx hb dX0_settle_24 (by decide) ?_
    refine lv_icmp_lt (tgt := 31) hx hb dX0_settle_26 (by decide) (fun hc26 => ?_) (fun hc26 => ?_)
    · rw [if_pos hc26] at h
      refine lv_aload_n hx hb dX0_settle_31 rfl (lv_at hl 0 rfl) ?_
      obtain ⟨_, hut2, h⟩ := Option.bind_eq_some_iff.mp h
      obtain ⟨t3, ht3, h⟩ := Option.bind_eq_some_iff.mp h
      refine xr_callV (rest := []) X O (T_X0_builtCells l κ a0 M _ _ ht3) lk_X0_46 hut2 (Nat.le_of_ble_eq_true rfl) rfl hl.1 rfl (Nat.le_of_ble_eq_true rfl) dX0_settle_32 ⟨Nat.le_of_ble_eq_true rfl, Nat.le_of_ble_eq_true rfl⟩ (fun H locs O => ?_)
      refine W.eq (g2 := F0 m 35 ls [.int t3.1]) rfl ?_
      refine lv_iload_n hx hb dX0_settle_35 rfl (lv_at hl 1 rfl) ?_
      refine lv_ishr hx hb dX0_settle_36 ?_
      refine lv_iconst (v := (1 : Int32)) hx hb dX0_settle_37 (by decide) ?_
      refine lv_iand hx hb dX0_settle_38 ?_
      refine lv_if_eq (tgt := 44) hx hb dX0_settle_39 (by decide) (fun hc39 => ?_) (fun hc39 => ?_)
      · rw [if_pos hc39] at h
        refine lv_aload_n hx hb dX0_settle_44 rfl (lv_at hl 0 rfl) ?_
        obtain ⟨t4, ht4, h⟩ := Option.bind_eq_some_iff.mp h
        refine xr_getP X O ht4 fl_X0_15 dX0_settle_45 ?_
        refine lv_aload_n hx hb dX0_settle_48 rfl (lv_at hl 0 rfl) ?_
        obtain ⟨t5, ht5, h⟩ := Option.bind_eq_some_iff.mp h
        refine xr_getI X O ht5 fl_X0_27 (Or.inl rfl) dX0_settle_49 ?_
        refine lv_iload_n hx hb dX0_settle_52 rfl (lv_at hl 1 rfl) ?_
        obtain ⟨t6, ht6, h⟩ := Option.bind_eq_some_iff.mp h
        refine xr_stI X O ht6 dX0_settle_53 (fun H locs O => ?_)
        refine lv_aload_n hx hb dX0_settle_54 rfl (lv_at hl 0 rfl) ?_
        obtain ⟨t7, ht7, h⟩ := Option.bind_eq_some_iff.mp h
        refine xr_getP X O ht7 fl_X0_18 dX0_settle_55 ?_
        refine lv_aload_n hx hb dX0_settle_58 rfl (lv_at hl 0 rfl) ?_
        obtain ⟨t8, ht8, h⟩ := Option.bind_eq_some_iff.mp h
        refine xr_getI X O ht8 fl_X0_27 (Or.inl rfl) dX0_settle_59 ?_
        refine lv_iload_n hx hb dX0_settle_62 rfl (lv_at hl 2 rfl) ?_
        obtain ⟨t9, ht9, h⟩ := Option.bind_eq_some_iff.mp h
        refine xr_stI X O ht9 dX0_settle_63 (fun H locs O => ?_)
        refine lv_aload_n hx hb dX0_settle_64 rfl (lv_at hl 0 rfl) ?_
        refine lv_dup hx hb dX0_settle_65 rfl ?_
        obtain ⟨t10, ht10, h⟩ := Option.bind_eq_some_iff.mp h
        refine xr_getI X O ht10 fl_X0_31 (Or.inl rfl) dX0_settle_66 ?_
        refine lv_iconst (v := (1 : Int32)) hx hb dX0_settle_69 (by decide) ?_
        refine lv_aload_n hx hb dX0_settle_70 rfl (lv_at hl 0 rfl) ?_
        obtain ⟨t11, ht11, h⟩ := Option.bind_eq_some_iff.mp h
        refine xr_getI X O ht11 fl_X0_27 (Or.inl rfl) dX0_settle_71 ?_
        refine lv_ishl hx hb dX0_settle_74 ?_
        refine lv_ior hx hb dX0_settle_75 ?_
        obtain ⟨t12, ht12, h⟩ := Option.bind_eq_some_iff.mp h
        refine xr_putI X O ht12 fl_X0_31 dX0_settle_76 (fun H locs O => ?_)
        refine lv_aload_n hx hb dX0_settle_79 rfl (lv_at hl 0 rfl) ?_
        refine lv_dup hx hb dX0_settle_80 rfl ?_
        obtain ⟨t13, ht13, h⟩ := Option.bind_eq_some_iff.mp h
        refine xr_getI X O ht13 fl_X0_27 (Or.inl rfl) dX0_settle_81 ?_
        refine lv_iconst (v := (1 : Int32)) hx hb dX0_settle_84 (by decide) ?_
        refine lv_iadd hx hb dX0_settle_85 ?_
        obtain ⟨t14, ht14, h⟩ := Option.bind_eq_some_iff.mp h
        refine xr_putI X O ht14 fl_X0_27 dX0_settle_86 (fun H locs O => ?_)
        refine lv_iconst (v := (0 : Int32)) hx hb dX0_settle_89 (by decide) ?_
        rw [← Option.some.inj h] at hK
        have hK : ((0 : Int32), t14) = (ro, mo) := hK
        obtain ⟨hK1, hK2⟩ := Prod.mk.inj hK
        rw [hK2] at O
        refine xr_top (w := .int ro) (by rw [hK1]) ?_
        exact xr_iret X hr hlk O dX0_settle_90
      rw [if_neg hc39] at h
      refine lv_iconst (v := (3 : Int32)) hx hb dX0_settle_42 (by decide) ?_
      rw [← Option.some.inj h] at hK
      have hK : ((3 : Int32), t3.2) = (ro, mo) := hK
      obtain ⟨hK1, hK2⟩ := Prod.mk.inj hK
      rw [hK2] at O
      refine xr_top (w := .int ro) (by rw [hK1]) ?_
      exact xr_iret X hr hlk O dX0_settle_43
    rw [if_neg hc26] at h
    refine lv_iconst (v := (2 : Int32)) hx hb dX0_settle_29 (by decide) ?_
    rw [← Option.some.inj h] at hK
    have hK : ((2 : Int32), M) = (ro, mo) := hK
    obtain ⟨hK1, hK2⟩ := Prod.mk.inj hK
    rw [hK2] at O
    refine xr_top (w := .int ro) (by rw [hK1]) ?_
    exact xr_iret X hr hlk O dX0_settle_30
  rw [if_neg hc15] at h
  refine lv_iconst (v := (1 : Int32)) hx hb dX0_settle_18 (by decide) ?_
  rw [← Option.some.inj h] at hK
  have hK : ((1 : Int32), M) = (ro, mo) := hK
  obtain ⟨hK1, hK2⟩ := Prod.mk.inj hK
  rw [hK2] at O
  refine xr_top (w := .int ro) (by rw [hK1]) ?_
  exact xr_iret X hr hlk O dX0_settle_19
def F_X0_changeMoon (a0 : Nat) (a1 : Int32) (M : xM) : Option (Int32 × xM) :=
if a1 < 0 then (
some ((1 : Int32), M))
else (
if a1 < (10 : Int32) then (
(xpI M a0 0 5 a1).bind fun t1 =>
some ((0 : Int32), t1))
else (
some ((1 : Int32), M)))
set_option maxRecDepth 100000 in
set_option maxHeartbeats 4000000 in
theorem T_X0_changeMoon (l : Launch) (κ : xQ) (a0 : Nat) (a1 : Int32) (M : xM) (ro : Int32) (mo : xM) (h : F_X0_changeMoon a0 a1 M = some (ro, mo)) : xC l yX0_changeMoon cX0_changeMoon 2 (some .int) 2 0 0 κ [.ref (κ.1 + a0), .int a1] M (some (.int ro)) mo := by
  refine xC_of rfl (Nat.le_of_ble_eq_true rfl) fun p e s m args below meth c X hr hlk hnm H locs ls O hl => ?_
  have X : xX p s m args c cX0_changeMoon 2 RX0 κ := X
  have hl : lv_has ls 2 [(0, .ref (κ.1 + a0)), (1, .int a1)] := hl
  have hx := X.1
  have hb := X.2.1
  obtain ⟨x, hx0⟩ : ∃ x, (ro, mo) = x := ⟨_, rfl⟩
  rw [hx0] at h
  have hK : x = (ro, mo) := hx0.symm
  unfold F_X0_changeMoon at h
  refine lv_iload_n hx hb dX0_changeMoon_0 rfl (lv_at hl 1 rfl) ?_
  refine lv_if_lt (tgt := 10) hx hb dX0_changeMoon_1 (by decide) (fun hc1 => ?_) (fun hc1 => ?_)
  · rw [if_pos hc1] at h
    refine lv_iconst (v := (1 : Int32)) hx hb dX0_changeMoon_10 (by decide) ?_
    rw [← Option.some.inj h] at hK
    have hK : ((1 : Int32), M) = (ro, mo) := hK
    obtain ⟨hK1, hK2⟩ := Prod.mk.inj hK
    rw [hK2] at O
    refine xr_top (w := .int ro) (by rw [hK1]) ?_
    exact xr_iret X hr hlk O dX0_changeMoon_11
  rw [if_neg hc1] at h
  refine lv_iload_n hx hb dX0_changeMoon_4 rfl (lv_at hl 1 rfl) ?_
  refine lv_bipush (v := (10 : Int32)) hx hb dX0_changeMoon_5 (by decide) ?_
  refine lv_icmp_lt (tgt := 12) hx hb dX0_changeMoon_7 (by decide) (fun hc7 => ?_) (fun hc7 => ?_)
  · rw [if_pos hc7] at h
    refine lv_aload_n hx hb dX0_changeMoon_12 rfl (lv_at hl 0 rfl) ?_
    refine lv_iload_n hx hb dX0_changeMoon_13 rfl (lv_at hl 1 rfl) ?_
    obtain ⟨t1, ht1, h⟩ := Option.bind_eq_some_iff.mp h
    refine xr_putI X O ht1 fl_X0_34 dX0_changeMoon_14 (fun H locs O => ?_)
    refine lv_iconst (v := (0 : Int32)) hx hb dX0_changeMoon_17 (by decide) ?_
    rw [← Option.some.inj h] at hK
    have hK : ((0 : Int32), t1) = (ro, mo) := hK
    obtain ⟨hK1, hK2⟩ := Prod.mk.inj hK
    rw [hK2] at O
    refine xr_top (w := .int ro) (by rw [hK1]) ?_
    exact xr_iret X hr hlk O dX0_changeMoon_18
  rw [if_neg hc7] at h
  refine lv_iconst (v := (1 : Int32)) hx hb dX0_changeMoon_10 (by decide) ?_
  rw [← Option.some.inj h] at hK
  have hK : ((1 : Int32), M) = (ro, mo) := hK
  obtain ⟨hK1, hK2⟩ := Prod.mk.inj hK
  rw [hK2] at O
  refine xr_top (w := .int ro) (by rw [hK1]) ?_
  exact xr_iret X hr hlk O dX0_changeMoon_11
def F_X0_fell_37 (v0 : Nat) (v1 : Int32) (v2 : Int32) (M : xM) : Option ((Int32 × xM) ⊕ (xM)) :=
some (.inl ((v2 + 1), M))
def F_X0_fell_43 (M : xM) : Option (xM) :=
some M
def F_X0_fell_2b (v0 : Nat) (v1 : Int32) : (Int32 × xM) → Option ((Int32 × xM) ⊕ (xM)) := fun ⟨v2, M⟩ =>
(xgI M v0 0 3).bind fun t1 =>
if t1 ≤ v2 then (
(F_X0_fell_43 M).map Sum.inr)
else (
(xgP M v0 0 1).bind fun t2 =>
(xaI M 20 t2 v2).bind fun t3 =>
if ((v1 >>> (t3 &&& 31)) &&& (1 : Int32)) = 0 then (
F_X0_fell_37 v0 v1 v2 M)
else (
(xgI M v0 0 4).bind fun t4 =>
(xpI M v0 0 4 (t4 &&& (((1 : Int32) <<< (v2 &&& 31)) ^^^ (-1 : Int32)))).bind fun t5 =>
F_X0_fell_37 v0 v1 v2 t5))
def F_X0_fell_2 (v0 : Nat) (v1 : Int32) (v2 : Int32) (M : xM) : Option (xM) := xit (F_X0_fell_2b v0 v1) xFU (v2, M)
def F_X0_fell (a0 : Nat) (a1 : Int32) (M : xM) : Option (xM) :=
F_X0_fell_2 a0 a1 (0 : Int32) M
set_option maxRecDepth 100000 in
set_option maxHeartbeats 4000000 in
theorem F_X0_fell_37_ok (X : xX p s m args c cX0_fell 3 RX0 κ) (hr : meth.sig.returnType = none) (hlk : meth.locks = false) {mo : xM} (v0 : Nat) (v1 : Int32) (v2 : Int32) {W2 : Int32 × xM → Prop} (hW2 : ∀ (v2 : Int32) (M : xM), W2 (v2, M) → ∀ (H : Heap) (locs : List Loc) (ls : Array Slot), xO κ s M H locs → lv_has ls 3 [(0, .ref (κ.1 + v0)), (1, .int v1), (2, .int v2)] → W p l e (xRm 2 0 0) s m args below meth c H locs 0 0 (xQf below args s 0 0 κ none mo) (F0 m 2 ls [])) (M : xM) (x : (Int32 × xM) ⊕ (xM)) (h : F_X0_fell_37 v0 v1 v2 M = some x) (hK : (xKl W2 (fun o => o = mo)) x) (H : Heap) (locs : List Loc) (ls : Array Slot) (O : xO κ s M H locs) (hl : lv_has ls 3 [(0, .ref (κ.1 + v0)), (1, .int v1), (2, .int v2)]) : W p l e (xRm 2 0 0) s m args below meth c H locs 0 0 (xQf below args s 0 0 κ none mo) (F0 m 37 ls []) := by
  unfold F_X0_fell_37 at h
  have hx := X.1
  have hb := X.2.1
  refine lv_iinc (v := (v2 + 1)) (lv' := [(2, .int (v2 + 1)), (0, .ref (κ.1 + v0)), (1, .int v1)]) hx hb dX0_fell_37 hl (k := 2) rfl rfl (by decide) rfl (fun ls hl => ?_)
  refine lv_goto (tgt := 2) hx hb dX0_fell_40 (by decide) ?_
  rw [← Option.some.inj h] at hK
  exact hW2 (v2 + 1) M hK H locs ls O (lv_sub hl [1, 2, 0] rfl)
set_option maxRecDepth 100000 in
set_option maxHeartbeats 4000000 in
theorem F_X0_fell_43_ok (X : xX p s m args c cX0_fell 3 RX0 κ) (hr : meth.sig.returnType = none) (hlk : meth.locks = false) {mo : xM} (M : xM) (x : xM) (h : F_X0_fell_43 M = some x) (hK : (fun o => o = mo) x) (H : Heap) (locs : List Loc) (ls : Array Slot) (O : xO κ s M H locs) (hl : lv_has ls 3 []) : W p l e (xRm 2 0 0) s m args below meth c H locs 0 0 (xQf below args s 0 0 κ none mo) (F0 m 43 ls []) := by
  unfold F_X0_fell_43 at h
  have hx := X.1
  have hb := X.2.1
  rw [← Option.some.inj h] at hK
  have hK : M = mo := hK
  rw [hK] at O
  exact xr_vret X hr hlk O dX0_fell_43
set_option maxRecDepth 100000 in
set_option maxHeartbeats 4000000 in
theorem F_X0_fell_2_bok (X : xX p s m args c cX0_fell 3 RX0 κ) (hr : meth.sig.returnType = none) (hlk : meth.locks = false) {mo : xM} (v0 : Nat) (v1 : Int32) (v2 : Int32) {W2 : Int32 × xM → Prop} (hW2 : ∀ (v2 : Int32) (M : xM), W2 (v2, M) → ∀ (H : Heap) (locs : List Loc) (ls : Array Slot), xO κ s M H locs → lv_has ls 3 [(0, .ref (κ.1 + v0)), (1, .int v1), (2, .int v2)] → W p l e (xRm 2 0 0) s m args below meth c H locs 0 0 (xQf below args s 0 0 κ none mo) (F0 m 2 ls [])) (M : xM) (x : (Int32 × xM) ⊕ (xM)) (h : F_X0_fell_2b v0 v1 (v2, M) = some x) (hK : (xKl W2 (fun o => o = mo)) x) (H : Heap) (locs : List Loc) (ls : Array Slot) (O : xO κ s M H locs) (hl : lv_has ls 3 [(0, .ref (κ.1 + v0)), (1, .int v1), (2, .int v2)]) : W p l e (xRm 2 0 0) s m args below meth c H locs 0 0 (xQf below args s 0 0 κ none mo) (F0 m 2 ls []) := by
  unfold F_X0_fell_2b at h
  dsimp only at h
  have hx := X.1
  have hb := X.2.1
  refine lv_iload_n hx hb dX0_fell_2 rfl (lv_at hl 2 rfl) ?_
  refine lv_aload_n hx hb dX0_fell_3 rfl (lv_at hl 0 rfl) ?_
  obtain ⟨t1, ht1, h⟩ := Option.bind_eq_some_iff.mp h
  refine xr_getI X O ht1 fl_X0_27 (Or.inl rfl) dX0_fell_4 ?_
  refine lv_icmp_ge (tgt := 43) hx hb dX0_fell_7 (by decide) (fun hc7 => ?_) (fun hc7 => ?_)
  · rw [if_pos hc7] at h
    obtain ⟨_, hw0, ew0⟩ := Option.map_eq_some_iff.mp h
    rw [← ew0] at hK
    have h := hw0
    exact F_X0_fell_43_ok X hr hlk  M _ h hK H locs ls O (lv_sub hl [] rfl)
  rw [if_neg hc7] at h
  refine lv_iload_n hx hb dX0_fell_10 rfl (lv_at hl 1 rfl) ?_
  refine lv_aload_n hx hb dX0_fell_11 rfl (lv_at hl 0 rfl) ?_
  obtain ⟨t2, ht2, h⟩ := Option.bind_eq_some_iff.mp h
  refine xr_getP X O ht2 fl_X0_15 dX0_fell_12 ?_
  refine lv_iload_n hx hb dX0_fell_15 rfl (lv_at hl 2 rfl) ?_
  obtain ⟨t3, ht3, h⟩ := Option.bind_eq_some_iff.mp h
  refine xr_aldI X O ht3 dX0_fell_16 ?_
  refine lv_ishr hx hb dX0_fell_17 ?_
  refine lv_iconst (v := (1 : Int32)) hx hb dX0_fell_18 (by decide) ?_
  refine lv_iand hx hb dX0_fell_19 ?_
  refine lv_if_eq (tgt := 37) hx hb dX0_fell_20 (by decide) (fun hc20 => ?_) (fun hc20 => ?_)
  · rw [if_pos hc20] at h
    exact F_X0_fell_37_ok X hr hlk v0 v1 v2 hW2 M _ h hK H locs ls O (lv_sub hl [0, 1, 2] rfl)
  rw [if_neg hc20] at h
  refine lv_aload_n hx hb dX0_fell_23 rfl (lv_at hl 0 rfl) ?_
  refine lv_dup hx hb dX0_fell_24 rfl ?_
  obtain ⟨t4, ht4, h⟩ := Option.bind_eq_some_iff.mp h
  refine xr_getI X O ht4 fl_X0_31 (Or.inl rfl) dX0_fell_25 ?_
  refine lv_iconst (v := (1 : Int32)) hx hb dX0_fell_28 (by decide) ?_
  refine lv_iload_n hx hb dX0_fell_29 rfl (lv_at hl 2 rfl) ?_
  refine lv_ishl hx hb dX0_fell_30 ?_
  refine lv_iconst (v := (-1 : Int32)) hx hb dX0_fell_31 (by decide) ?_
  refine lv_ixor hx hb dX0_fell_32 ?_
  refine lv_iand hx hb dX0_fell_33 ?_
  obtain ⟨t5, ht5, h⟩ := Option.bind_eq_some_iff.mp h
  refine xr_putI X O ht5 fl_X0_31 dX0_fell_34 (fun H locs O => ?_)
  exact F_X0_fell_37_ok X hr hlk v0 v1 v2 hW2 t5 _ h hK H locs ls O (lv_sub hl [0, 1, 2] rfl)
set_option maxRecDepth 100000 in
set_option maxHeartbeats 4000000 in
theorem F_X0_fell_2_ok (X : xX p s m args c cX0_fell 3 RX0 κ) (hr : meth.sig.returnType = none) (hlk : meth.locks = false) {mo : xM} (v0 : Nat) (v1 : Int32) (v2 : Int32) (M : xM) (x : xM) (h : F_X0_fell_2 v0 v1 v2 M = some x) (hK : (fun o => o = mo) x) (H : Heap) (locs : List Loc) (ls : Array Slot) (O : xO κ s M H locs) (hl : lv_has ls 3 [(0, .ref (κ.1 + v0)), (1, .int v1), (2, .int v2)]) : W p l e (xRm 2 0 0) s m args below meth c H locs 0 0 (xQf below args s 0 0 κ none mo) (F0 m 2 ls []) := by
  refine xit_K (Wh := fun x => ∀ (H : Heap) (locs : List Loc) (ls : Array Slot), xO κ s x.2 H locs → lv_has ls 3 [(0, .ref (κ.1 + v0)), (1, .int v1), (2, .int x.1)] → W p l e (xRm 2 0 0) s m args below meth c H locs 0 0 (xQf below args s 0 0 κ none mo) (F0 m 2 ls [])) (Kp := (fun o => o = mo)) ?_ xFU (v2, M) x h hK H locs ls O hl
  intro y x h hK H locs ls O hl
  exact F_X0_fell_2_bok X hr hlk v0 v1 y.1 (fun _ _ hw => hw) y.2 x h hK H locs ls O hl
set_option maxRecDepth 100000 in
set_option maxHeartbeats 4000000 in
theorem T_X0_fell (l : Launch) (κ : xQ) (a0 : Nat) (a1 : Int32) (M : xM) (mo : xM) (h : F_X0_fell a0 a1 M = some mo) : xC l yX0_fell cX0_fell 3 none 2 0 0 κ [.ref (κ.1 + a0), .int a1] M none mo := by
  refine xC_of rfl (Nat.le_of_ble_eq_true rfl) fun p e s m args below meth c X hr hlk hnm H locs ls O hl => ?_
  have X : xX p s m args c cX0_fell 3 RX0 κ := X
  have hl : lv_has ls 3 [(0, .ref (κ.1 + a0)), (1, .int a1)] := hl
  have hx := X.1
  have hb := X.2.1
  obtain ⟨x, hx0⟩ : ∃ x, mo = x := ⟨_, rfl⟩
  rw [hx0] at h
  have hK : x = mo := hx0.symm
  unfold F_X0_fell at h
  refine lv_iconst (v := (0 : Int32)) hx hb dX0_fell_0 (by decide) ?_
  refine lv_istore_n (lv' := [(2, .int (0 : Int32)), (0, .ref (κ.1 + a0)), (1, .int a1)]) hx hb dX0_fell_1 rfl hl (by decide) rfl (fun ls hl => ?_)
  exact F_X0_fell_2_ok X hr hlk a0 a1 (0 : Int32) M _ h hK H locs ls O (lv_sub hl [1, 2, 0] rfl)
def F_X0_housesOf_33 (v0 : Nat) (v1 : Int32) (v2 : Int32) (v3 : Int32) (M : xM) : Option ((Int32 × Int32 × xM) ⊕ (Int32 × xM)) :=
some (.inl (v2, (v3 + 1), M))
def F_X0_housesOf_39 (v2 : Int32) (M : xM) : Option (Int32 × xM) :=
some (v2, M)
def F_X0_housesOf_4b (v0 : Nat) (v1 : Int32) : (Int32 × Int32 × xM) → Option ((Int32 × Int32 × xM) ⊕ (Int32 × xM)) := fun ⟨v2, v3, M⟩ =>
(xgI M v0 0 3).bind fun t1 =>
if t1 ≤ v3 then (
(F_X0_housesOf_39 v2 M).map Sum.inr)
else (
(xgP M v0 0 2).bind fun t2 =>
(xaI M 20 t2 v3).bind fun t3 =>
if t3 = v1 then (
(xgI M v0 0 4).bind fun t4 =>
(some ((v2 + ((t4 >>> (v3 &&& 31)) &&& (1 : Int32))))).bind fun t5 =>
F_X0_housesOf_33 v0 v1 t5 v3 M)
else (
F_X0_housesOf_33 v0 v1 v2 v3 M))
def F_X0_housesOf_4 (v0 : Nat) (v1 : Int32) (v2 : Int32) (v3 : Int32) (M : xM) : Option (Int32 × xM) := xit (F_X0_housesOf_4b v0 v1) xFU (v2, v3, M)
def F_X0_housesOf (a0 : Nat) (a1 : Int32) (M : xM) : Option (Int32 × xM) :=
F_X0_housesOf_4 a0 a1 (0 : Int32) (0 : Int32) M
set_option maxRecDepth 100000 in
set_option maxHeartbeats 4000000 in
theorem F_X0_housesOf_33_ok (X : xX p s m args c cX0_housesOf 4 RX0 κ) (hr : meth.sig.returnType = (some .int)) (hlk : meth.locks = false) {ro : Int32} {mo : xM} (v0 : Nat) (v1 : Int32) (v2 : Int32) (v3 : Int32) {W4 : Int32 × Int32 × xM → Prop} (hW4 : ∀ (v2 : Int32) (v3 : Int32) (M : xM), W4 (v2, v3, M) → ∀ (H : Heap) (locs : List Loc) (ls : Array Slot), xO κ s M H locs → lv_has ls 4 [(0, .ref (κ.1 + v0)), (1, .int v1), (2, .int v2), (3, .int v3)] → W p l e (xRm 2 0 0) s m args below meth c H locs 0 0 (xQf below args s 0 0 κ (some (.int ro)) mo) (F0 m 4 ls [])) (M : xM) (x : (Int32 × Int32 × xM) ⊕ (Int32 × xM)) (h : F_X0_housesOf_33 v0 v1 v2 v3 M = some x) (hK : (xKl W4 (fun o => o = (ro, mo))) x) (H : Heap) (locs : List Loc) (ls : Array Slot) (O : xO κ s M H locs) (hl : lv_has ls 4 [(0, .ref (κ.1 + v0)), (1, .int v1), (2, .int v2), (3, .int v3)]) : W p l e (xRm 2 0 0) s m args below meth c H locs 0 0 (xQf below args s 0 0 κ (some (.int ro)) mo) (F0 m 33 ls []) := by
  unfold F_X0_housesOf_33 at h
  have hx := X.1
  have hb := X.2.1
  refine lv_iinc (v := (v3 + 1)) (lv' := [(3, .int (v3 + 1)), (0, .ref (κ.1 + v0)), (1, .int v1), (2, .int v2)]) hx hb dX0_housesOf_33 hl (k := 3) rfl rfl (by decide) rfl (fun ls hl => ?_)
  refine lv_goto (tgt := 4) hx hb dX0_housesOf_36 (by decide) ?_
  rw [← Option.some.inj h] at hK
  exact hW4 v2 (v3 + 1) M hK H locs ls O (lv_sub hl [1, 2, 3, 0] rfl)
set_option maxRecDepth 100000 in
set_option maxHeartbeats 4000000 in
theorem F_X0_housesOf_39_ok (X : xX p s m args c cX0_housesOf 4 RX0 κ) (hr : meth.sig.returnType = (some .int)) (hlk : meth.locks = false) {ro : Int32} {mo : xM} (v2 : Int32) (M : xM) (x : Int32 × xM) (h : F_X0_housesOf_39 v2 M = some x) (hK : (fun o => o = (ro, mo)) x) (H : Heap) (locs : List Loc) (ls : Array Slot) (O : xO κ s M H locs) (hl : lv_has ls 4 [(2, .int v2)]) : W p l e (xRm 2 0 0) s m args below meth c H locs 0 0 (xQf below args s 0 0 κ (some (.int ro)) mo) (F0 m 39 ls []) := by
  unfold F_X0_housesOf_39 at h
  have hx := X.1
  have hb := X.2.1
  refine lv_iload_n hx hb dX0_housesOf_39 rfl (lv_at hl 0 rfl) ?_
  rw [← Option.some.inj h] at hK
  have hK : (v2, M) = (ro, mo) := hK
  obtain ⟨hK1, hK2⟩ := Prod.mk.inj hK
  rw [hK2] at O
  refine xr_top (w := .int ro) (by rw [hK1]) ?_
  exact xr_iret X hr hlk O dX0_housesOf_40
set_option maxRecDepth 100000 in
set_option maxHeartbeats 4000000 in
theorem F_X0_housesOf_4_bok (X : xX p s m args c cX0_housesOf 4 RX0 κ) (hr : meth.sig.returnType = (some .int)) (hlk : meth.locks = false) {ro : Int32} {mo : xM} (v0 : Nat) (v1 : Int32) (v2 : Int32) (v3 : Int32) {W4 : Int32 × Int32 × xM → Prop} (hW4 : ∀ (v2 : Int32) (v3 : Int32) (M : xM), W4 (v2, v3, M) → ∀ (H : Heap) (locs : List Loc) (ls : Array Slot), xO κ s M H locs → lv_has ls 4 [(0, .ref (κ.1 + v0)), (1, .int v1), (2, .int v2), (3, .int v3)] → W p l e (xRm 2 0 0) s m args below meth c H locs 0 0 (xQf below args s 0 0 κ (some (.int ro)) mo) (F0 m 4 ls [])) (M : xM) (x : (Int32 × Int32 × xM) ⊕ (Int32 × xM)) (h : F_X0_housesOf_4b v0 v1 (v2, v3, M) = some x) (hK : (xKl W4 (fun o => o = (ro, mo))) x) (H : Heap) (locs : List Loc) (ls : Array Slot) (O : xO κ s M H locs) (hl : lv_has ls 4 [(0, .ref (κ.1 + v0)), (1, .int v1), (2, .int v2), (3, .int v3)]) : W p l e (xRm 2 0 0) s m args below meth c H locs 0 0 (xQf below args s 0 0 κ (some (.int ro)) mo) (F0 m 4 ls []) := by
  unfold F_X0_housesOf_4b at h
  dsimp only at h
  have hx := X.1
  have hb := X.2.1
  refine lv_iload_n hx hb dX0_housesOf_4 rfl (lv_at hl 3 rfl) ?_
  refine lv_aload_n hx hb dX0_housesOf_5 rfl (lv_at hl 0 rfl) ?_
  obtain ⟨t1, ht1, h⟩ := Option.bind_eq_some_iff.mp h
  refine xr_getI X O ht1 fl_X0_27 (Or.inl rfl) dX0_housesOf_6 ?_
  refine lv_icmp_ge (tgt := 39) hx hb dX0_housesOf_9 (by decide) (fun hc9 => ?_) (fun hc9 => ?_)
  · rw [if_pos hc9] at h
    obtain ⟨_, hw0, ew0⟩ := Option.map_eq_some_iff.mp h
    rw [← ew0] at hK
    have h := hw0
    exact F_X0_housesOf_39_ok X hr hlk v2 M _ h hK H locs ls O (lv_sub hl [2] rfl)
  rw [if_neg hc9] at h
  refine lv_aload_n hx hb dX0_housesOf_12 rfl (lv_at hl 0 rfl) ?_
  obtain ⟨t2, ht2, h⟩ := Option.bind_eq_some_iff.mp h
  refine xr_getP X O ht2 fl_X0_18 dX0_housesOf_13 ?_
  refine lv_iload_n hx hb dX0_housesOf_16 rfl (lv_at hl 3 rfl) ?_
  obtain ⟨t3, ht3, h⟩ := Option.bind_eq_some_iff.mp h
  refine xr_aldI X O ht3 dX0_housesOf_17 ?_
  refine lv_iload_n hx hb dX0_housesOf_18 rfl (lv_at hl 1 rfl) ?_
  refine lv_icmp_ne (tgt := 33) hx hb dX0_housesOf_19 (by decide) (fun hc19 => ?_) (fun hc19 => ?_)
  · rw [if_neg hc19] at h
    exact F_X0_housesOf_33_ok X hr hlk v0 v1 v2 v3 hW4 M _ h hK H locs ls O (lv_sub hl [0, 1, 2, 3] rfl)
  rw [if_pos hc19] at h
  refine lv_iload_n hx hb dX0_housesOf_22 rfl (lv_at hl 2 rfl) ?_
  refine lv_aload_n hx hb dX0_housesOf_23 rfl (lv_at hl 0 rfl) ?_
  obtain ⟨t4, ht4, h⟩ := Option.bind_eq_some_iff.mp h
  refine xr_getI X O ht4 fl_X0_31 (Or.inl rfl) dX0_housesOf_24 ?_
  refine lv_iload_n hx hb dX0_housesOf_27 rfl (lv_at hl 3 rfl) ?_
  refine lv_ishr hx hb dX0_housesOf_28 ?_
  refine lv_iconst (v := (1 : Int32)) hx hb dX0_housesOf_29 (by decide) ?_
  refine lv_iand hx hb dX0_housesOf_30 ?_
  refine lv_iadd hx hb dX0_housesOf_31 ?_
  obtain ⟨t5, ht5, h⟩ := Option.bind_eq_some_iff.mp h
  refine xr_top (w := .int t5) (by rw [Option.some.inj ht5]) ?_
  refine lv_istore_n (lv' := [(2, .int t5), (0, .ref (κ.1 + v0)), (1, .int v1), (3, .int v3)]) hx hb dX0_housesOf_32 rfl hl (by decide) rfl (fun ls hl => ?_)
  exact F_X0_housesOf_33_ok X hr hlk v0 v1 t5 v3 hW4 M _ h hK H locs ls O (lv_sub hl [1, 2, 0, 3] rfl)
set_option maxRecDepth 100000 in
set_option maxHeartbeats 4000000 in
theorem F_X0_housesOf_4_ok (X : xX p s m args c cX0_housesOf 4 RX0 κ) (hr : meth.sig.returnType = (some .int)) (hlk : meth.locks = false) {ro : Int32} {mo : xM} (v0 : Nat) (v1 : Int32) (v2 : Int32) (v3 : Int32) (M : xM) (x : Int32 × xM) (h : F_X0_housesOf_4 v0 v1 v2 v3 M = some x) (hK : (fun o => o = (ro, mo)) x) (H : Heap) (locs : List Loc) (ls : Array Slot) (O : xO κ s M H locs) (hl : lv_has ls 4 [(0, .ref (κ.1 + v0)), (1, .int v1), (2, .int v2), (3, .int v3)]) : W p l e (xRm 2 0 0) s m args below meth c H locs 0 0 (xQf below args s 0 0 κ (some (.int ro)) mo) (F0 m 4 ls []) := by
  refine xit_K (Wh := fun x => ∀ (H : Heap) (locs : List Loc) (ls : Array Slot), xO κ s x.2.2 H locs → lv_has ls 4 [(0, .ref (κ.1 + v0)), (1, .int v1), (2, .int x.1), (3, .int x.2.1)] → W p l e (xRm 2 0 0) s m args below meth c H locs 0 0 (xQf below args s 0 0 κ (some (.int ro)) mo) (F0 m 4 ls [])) (Kp := (fun o => o = (ro, mo))) ?_ xFU (v2, v3, M) x h hK H locs ls O hl
  intro y x h hK H locs ls O hl
  exact F_X0_housesOf_4_bok X hr hlk v0 v1 y.1 y.2.1 (fun _ _ _ hw => hw) y.2.2 x h hK H locs ls O hl
set_option maxRecDepth 100000 in
set_option maxHeartbeats 4000000 in
theorem T_X0_housesOf (l : Launch) (κ : xQ) (a0 : Nat) (a1 : Int32) (M : xM) (ro : Int32) (mo : xM) (h : F_X0_housesOf a0 a1 M = some (ro, mo)) : xC l yX0_housesOf cX0_housesOf 4 (some .int) 2 0 0 κ [.ref (κ.1 + a0), .int a1] M (some (.int ro)) mo := by
  refine xC_of rfl (Nat.le_of_ble_eq_true rfl) fun p e s m args below meth c X hr hlk hnm H locs ls O hl => ?_
  have X : xX p s m args c cX0_housesOf 4 RX0 κ := X
  have hl : lv_has ls 4 [(0, .ref (κ.1 + a0)), (1, .int a1)] := hl
  have hx := X.1
  have hb := X.2.1
  obtain ⟨x, hx0⟩ : ∃ x, (ro, mo) = x := ⟨_, rfl⟩
  rw [hx0] at h
  have hK : x = (ro, mo) := hx0.symm
  unfold F_X0_housesOf at h
  refine lv_iconst (v := (0 : Int32)) hx hb dX0_housesOf_0 (by decide) ?_
  refine lv_istore_n (lv' := [(2, .int (0 : Int32)), (0, .ref (κ.1 + a0)), (1, .int a1)]) hx hb dX0_housesOf_1 rfl hl (by decide) rfl (fun ls hl => ?_)
  refine lv_iconst (v := (0 : Int32)) hx hb dX0_housesOf_2 (by decide) ?_
  refine lv_istore_n (lv' := [(3, .int (0 : Int32)), (2, .int (0 : Int32)), (0, .ref (κ.1 + a0)), (1, .int a1)]) hx hb dX0_housesOf_3 rfl hl (by decide) rfl (fun ls hl => ?_)
  exact F_X0_housesOf_4_ok X hr hlk a0 a1 (0 : Int32) (0 : Int32) M _ h hK H locs ls O (lv_sub hl [2, 3, 1, 0] rfl)
def F_X0_sandInAll_30 (v2 : Int32) (M : xM) : Option (Int32 × xM) :=
some (v2, M)
def F_X0_sandInAll_4b (v0 : Nat) (v1 : Int32) : (Int32 × Int32 × xM) → Option ((Int32 × Int32 × xM) ⊕ (Int32 × xM)) := fun ⟨v2, v3, M⟩ =>
if v1 ≤ v3 then (
(F_X0_sandInAll_30 v2 M).map Sum.inr)
else (
if (25 : Int32) ≤ v3 then (
(F_X0_sandInAll_30 v2 M).map Sum.inr)
else (
(xgP M v0 0 0).bind fun t1 =>
(xaI M 20 t1 v3).bind fun t2 =>
(some ((v2 + t2))).bind fun t3 =>
some (.inl (t3, (v3 + 1), M))))
def F_X0_sandInAll_4 (v0 : Nat) (v1 : Int32) (v2 : Int32) (v3 : Int32) (M : xM) : Option (Int32 × xM) := xit (F_X0_sandInAll_4b v0 v1) xFU (v2, v3, M)
def F_X0_sandInAll (a0 : Nat) (a1 : Int32) (M : xM) : Option (Int32 × xM) :=
F_X0_sandInAll_4 a0 a1 (0 : Int32) (0 : Int32) M
set_option maxRecDepth 100000 in
set_option maxHeartbeats 4000000 in
theorem F_X0_sandInAll_30_ok (X : xX p s m args c cX0_sandInAll 4 RX0 κ) (hr : meth.sig.returnType = (some .int)) (hlk : meth.locks = false) {ro : Int32} {mo : xM} (v2 : Int32) (M : xM) (x : Int32 × xM) (h : F_X0_sandInAll_30 v2 M = some x) (hK : (fun o => o = (ro, mo)) x) (H : Heap) (locs : List Loc) (ls : Array Slot) (O : xO κ s M H locs) (hl : lv_has ls 4 [(2, .int v2)]) : W p l e (xRm 2 0 0) s m args below meth c H locs 0 0 (xQf below args s 0 0 κ (some (.int ro)) mo) (F0 m 30 ls []) := by
  unfold F_X0_sandInAll_30 at h
  have hx := X.1
  have hb := X.2.1
  refine lv_iload_n hx hb dX0_sandInAll_30 rfl (lv_at hl 0 rfl) ?_
  rw [← Option.some.inj h] at hK
  have hK : (v2, M) = (ro, mo) := hK
  obtain ⟨hK1, hK2⟩ := Prod.mk.inj hK
  rw [hK2] at O
  refine xr_top (w := .int ro) (by rw [hK1]) ?_
  exact xr_iret X hr hlk O dX0_sandInAll_31
set_option maxRecDepth 100000 in
set_option maxHeartbeats 4000000 in
theorem F_X0_sandInAll_4_bok (X : xX p s m args c cX0_sandInAll 4 RX0 κ) (hr : meth.sig.returnType = (some .int)) (hlk : meth.locks = false) {ro : Int32} {mo : xM} (v0 : Nat) (v1 : Int32) (v2 : Int32) (v3 : Int32) {W4 : Int32 × Int32 × xM → Prop} (hW4 : ∀ (v2 : Int32) (v3 : Int32) (M : xM), W4 (v2, v3, M) → ∀ (H : Heap) (locs : List Loc) (ls : Array Slot), xO κ s M H locs → lv_has ls 4 [(0, .ref (κ.1 + v0)), (1, .int v1), (2, .int v2), (3, .int v3)] → W p l e (xRm 2 0 0) s m args below meth c H locs 0 0 (xQf below args s 0 0 κ (some (.int ro)) mo) (F0 m 4 ls [])) (M : xM) (x : (Int32 × Int32 × xM) ⊕ (Int32 × xM)) (h : F_X0_sandInAll_4b v0 v1 (v2, v3, M) = some x) (hK : (xKl W4 (fun o => o = (ro, mo))) x) (H : Heap) (locs : List Loc) (ls : Array Slot) (O : xO κ s M H locs) (hl : lv_has ls 4 [(0, .ref (κ.1 + v0)), (1, .int v1), (2, .int v2), (3, .int v3)]) : W p l e (xRm 2 0 0) s m args below meth c H locs 0 0 (xQf below args s 0 0 κ (some (.int ro)) mo) (F0 m 4 ls []) := by
  unfold F_X0_sandInAll_4b at h
  dsimp only at h
  have hx := X.1
  have hb := X.2.1
  refine lv_iload_n hx hb dX0_sandInAll_4 rfl (lv_at hl 3 rfl) ?_
  refine lv_iload_n hx hb dX0_sandInAll_5 rfl (lv_at hl 1 rfl) ?_
  refine lv_icmp_ge (tgt := 30) hx hb dX0_sandInAll_6 (by decide) (fun hc6 => ?_) (fun hc6 => ?_)
  · rw [if_pos hc6] at h
    obtain ⟨_, hw0, ew0⟩ := Option.map_eq_some_iff.mp h
    rw [← ew0] at hK
    have h := hw0
    exact F_X0_sandInAll_30_ok X hr hlk v2 M _ h hK H locs ls O (lv_sub hl [2] rfl)
  rw [if_neg hc6] at h
  refine lv_iload_n hx hb dX0_sandInAll_9 rfl (lv_at hl 3 rfl) ?_
  refine lv_bipush (v := (25 : Int32)) hx hb dX0_sandInAll_10 (by decide) ?_
  refine lv_icmp_ge (tgt := 30) hx hb dX0_sandInAll_12 (by decide) (fun hc12 => ?_) (fun hc12 => ?_)
  · rw [if_pos hc12] at h
    obtain ⟨_, hw0, ew0⟩ := Option.map_eq_some_iff.mp h
    rw [← ew0] at hK
    have h := hw0
    exact F_X0_sandInAll_30_ok X hr hlk v2 M _ h hK H locs ls O (lv_sub hl [2] rfl)
  rw [if_neg hc12] at h
  refine lv_iload_n hx hb dX0_sandInAll_15 rfl (lv_at hl 2 rfl) ?_
  refine lv_aload_n hx hb dX0_sandInAll_16 rfl (lv_at hl 0 rfl) ?_
  obtain ⟨t1, ht1, h⟩ := Option.bind_eq_some_iff.mp h
  refine xr_getP X O ht1 fl_X0_9 dX0_sandInAll_17 ?_
  refine lv_iload_n hx hb dX0_sandInAll_20 rfl (lv_at hl 3 rfl) ?_
  obtain ⟨t2, ht2, h⟩ := Option.bind_eq_some_iff.mp h
  refine xr_aldI X O ht2 dX0_sandInAll_21 ?_
  refine lv_iadd hx hb dX0_sandInAll_22 ?_
  obtain ⟨t3, ht3, h⟩ := Option.bind_eq_some_iff.mp h
  refine xr_top (w := .int t3) (by rw [Option.some.inj ht3]) ?_
  refine lv_istore_n (lv' := [(2, .int t3), (0, .ref (κ.1 + v0)), (1, .int v1), (3, .int v3)]) hx hb dX0_sandInAll_23 rfl hl (by decide) rfl (fun ls hl => ?_)
  refine lv_iinc (v := (v3 + 1)) (lv' := [(3, .int (v3 + 1)), (2, .int t3), (0, .ref (κ.1 + v0)), (1, .int v1)]) hx hb dX0_sandInAll_24 hl (k := 3) rfl rfl (by decide) rfl (fun ls hl => ?_)
  refine lv_goto (tgt := 4) hx hb dX0_sandInAll_27 (by decide) ?_
  rw [← Option.some.inj h] at hK
  exact hW4 t3 (v3 + 1) M hK H locs ls O (lv_sub hl [2, 3, 1, 0] rfl)
set_option maxRecDepth 100000 in
set_option maxHeartbeats 4000000 in
theorem F_X0_sandInAll_4_ok (X : xX p s m args c cX0_sandInAll 4 RX0 κ) (hr : meth.sig.returnType = (some .int)) (hlk : meth.locks = false) {ro : Int32} {mo : xM} (v0 : Nat) (v1 : Int32) (v2 : Int32) (v3 : Int32) (M : xM) (x : Int32 × xM) (h : F_X0_sandInAll_4 v0 v1 v2 v3 M = some x) (hK : (fun o => o = (ro, mo)) x) (H : Heap) (locs : List Loc) (ls : Array Slot) (O : xO κ s M H locs) (hl : lv_has ls 4 [(0, .ref (κ.1 + v0)), (1, .int v1), (2, .int v2), (3, .int v3)]) : W p l e (xRm 2 0 0) s m args below meth c H locs 0 0 (xQf below args s 0 0 κ (some (.int ro)) mo) (F0 m 4 ls []) := by
  refine xit_K (Wh := fun x => ∀ (H : Heap) (locs : List Loc) (ls : Array Slot), xO κ s x.2.2 H locs → lv_has ls 4 [(0, .ref (κ.1 + v0)), (1, .int v1), (2, .int x.1), (3, .int x.2.1)] → W p l e (xRm 2 0 0) s m args below meth c H locs 0 0 (xQf below args s 0 0 κ (some (.int ro)) mo) (F0 m 4 ls [])) (Kp := (fun o => o = (ro, mo))) ?_ xFU (v2, v3, M) x h hK H locs ls O hl
  intro y x h hK H locs ls O hl
  exact F_X0_sandInAll_4_bok X hr hlk v0 v1 y.1 y.2.1 (fun _ _ _ hw => hw) y.2.2 x h hK H locs ls O hl
set_option maxRecDepth 100000 in
set_option maxHeartbeats 4000000 in
theorem T_X0_sandInAll (l : Launch) (κ : xQ) (a0 : Nat) (a1 : Int32) (M : xM) (ro : Int32) (mo : xM) (h : F_X0_sandInAll a0 a1 M = some (ro, mo)) : xC l yX0_sandInAll cX0_sandInAll 4 (some .int) 2 0 0 κ [.ref (κ.1 + a0), .int a1] M (some (.int ro)) mo := by
  refine xC_of rfl (Nat.le_of_ble_eq_true rfl) fun p e s m args below meth c X hr hlk hnm H locs ls O hl => ?_
  have X : xX p s m args c cX0_sandInAll 4 RX0 κ := X
  have hl : lv_has ls 4 [(0, .ref (κ.1 + a0)), (1, .int a1)] := hl
  have hx := X.1
  have hb := X.2.1
  obtain ⟨x, hx0⟩ : ∃ x, (ro, mo) = x := ⟨_, rfl⟩
  rw [hx0] at h
  have hK : x = (ro, mo) := hx0.symm
  unfold F_X0_sandInAll at h
  refine lv_iconst (v := (0 : Int32)) hx hb dX0_sandInAll_0 (by decide) ?_
  refine lv_istore_n (lv' := [(2, .int (0 : Int32)), (0, .ref (κ.1 + a0)), (1, .int a1)]) hx hb dX0_sandInAll_1 rfl hl (by decide) rfl (fun ls hl => ?_)
  refine lv_iconst (v := (0 : Int32)) hx hb dX0_sandInAll_2 (by decide) ?_
  refine lv_istore_n (lv' := [(3, .int (0 : Int32)), (2, .int (0 : Int32)), (0, .ref (κ.1 + a0)), (1, .int a1)]) hx hb dX0_sandInAll_3 rfl hl (by decide) rfl (fun ls hl => ?_)
  exact F_X0_sandInAll_4_ok X hr hlk a0 a1 (0 : Int32) (0 : Int32) M _ h hK H locs ls O (lv_sub hl [2, 3, 1, 0] rfl)
def F_X1_init (a0 : Nat) (M : xM) : Option (xM) :=
(some (xnw M (20, 25))).bind fun t1 =>
(xpP t1 a0 1 0 M.1.length).bind fun t2 =>
(some (xnw t2 (20, 25))).bind fun t3 =>
(xpP t3 a0 1 1 t2.1.length).bind fun t4 =>
(some (xnw t4 (20, 625))).bind fun t5 =>
(xpP t5 a0 1 2 t4.1.length).bind fun t6 =>
(some (xnw t6 (20, 50))).bind fun t7 =>
(xpP t7 a0 1 3 t6.1.length).bind fun t8 =>
(some (xnw t8 (20, 50))).bind fun t9 =>
(xpP t9 a0 1 4 t8.1.length).bind fun t10 =>
some t10
set_option maxRecDepth 100000 in
set_option maxHeartbeats 4000000 in
theorem T_X1_init (l : Launch) (κ : xQ) (a0 : Nat) (M : xM) (mo : xM) (h : F_X1_init a0 M = some mo) : xC l yX1_init cX1_init 1 none 2 5 775 κ [.ref (κ.1 + a0)] M none mo := by
  refine xC_of rfl (Nat.le_of_ble_eq_true rfl) fun p e s m args below meth c X hr hlk hnm H locs ls O hl => ?_
  have X : xX p s m args c cX1_init 1 RX1 κ := X
  have hl : lv_has ls 1 [(0, .ref (κ.1 + a0))] := hl
  have hx := X.1
  have hb := X.2.1
  obtain ⟨x, hx0⟩ : ∃ x, mo = x := ⟨_, rfl⟩
  rw [hx0] at h
  have hK : x = mo := hx0.symm
  unfold F_X1_init at h
  refine lv_aload_n hx hb dX1_init_0 rfl (lv_at hl 0 rfl) ?_
  refine xr_objI X lo_X1_3.1 lo_X1_3.2.1 lo_X1_3.2.2 hl.1 (by decide) dX1_init_1 ?_
  refine W.eq (g2 := F0 m 4 ls []) rfl ?_
  refine lv_aload_n hx hb dX1_init_4 rfl (lv_at hl 0 rfl) ?_
  refine lv_bipush (v := (25 : Int32)) hx hb dX1_init_5 (by decide) ?_
  obtain ⟨t1, ht1, h⟩ := Option.bind_eq_some_iff.mp h
  refine xr_newI (N := 25) X O (xw_t1 133 (by decide +kernel) rfl) (by decide) (by decide) (by decide) (Nat.le_of_ble_eq_true rfl) (Nat.le_of_ble_eq_true rfl) dX1_init_7 (fun H locs O => ?_)
  rw [Option.some.inj ht1] at O
  refine W.eq (g2 := F0 m 9 ls [.ref (κ.1 + M.1.length), .ref (κ.1 + a0)]) rfl ?_
  obtain ⟨t2, ht2, h⟩ := Option.bind_eq_some_iff.mp h
  refine xr_putP X O ht2 fl_X1_9 (fun _ => ⟨hnm, rfl⟩) dX1_init_9 (fun H locs O => ?_)
  refine lv_aload_n hx hb dX1_init_12 rfl (lv_at hl 0 rfl) ?_
  refine lv_bipush (v := (25 : Int32)) hx hb dX1_init_13 (by decide) ?_
  obtain ⟨t3, ht3, h⟩ := Option.bind_eq_some_iff.mp h
  refine xr_newI (N := 25) X O (xw_t1 133 (by decide +kernel) rfl) (by decide) (by decide) (by decide) (Nat.le_of_ble_eq_true rfl) (Nat.le_of_ble_eq_true rfl) dX1_init_15 (fun H locs O => ?_)
  rw [Option.some.inj ht3] at O
  refine W.eq (g2 := F0 m 17 ls [.ref (κ.1 + t2.1.length), .ref (κ.1 + a0)]) rfl ?_
  obtain ⟨t4, ht4, h⟩ := Option.bind_eq_some_iff.mp h
  refine xr_putP X O ht4 fl_X1_15 (fun _ => ⟨hnm, rfl⟩) dX1_init_17 (fun H locs O => ?_)
  refine lv_aload_n hx hb dX1_init_20 rfl (lv_at hl 0 rfl) ?_
  refine lv_sipush (v := (625 : Int32)) hx hb dX1_init_21 (by decide) ?_
  obtain ⟨t5, ht5, h⟩ := Option.bind_eq_some_iff.mp h
  refine xr_newI (N := 625) X O (xw_t1 133 (by decide +kernel) rfl) (by decide) (by decide) (by decide) (Nat.le_of_ble_eq_true rfl) (Nat.le_of_ble_eq_true rfl) dX1_init_24 (fun H locs O => ?_)
  rw [Option.some.inj ht5] at O
  refine W.eq (g2 := F0 m 26 ls [.ref (κ.1 + t4.1.length), .ref (κ.1 + a0)]) rfl ?_
  obtain ⟨t6, ht6, h⟩ := Option.bind_eq_some_iff.mp h
  refine xr_putP X O ht6 fl_X1_18 (fun _ => ⟨hnm, rfl⟩) dX1_init_26 (fun H locs O => ?_)
  refine lv_aload_n hx hb dX1_init_29 rfl (lv_at hl 0 rfl) ?_
  refine lv_bipush (v := (50 : Int32)) hx hb dX1_init_30 (by decide) ?_
  obtain ⟨t7, ht7, h⟩ := Option.bind_eq_some_iff.mp h
  refine xr_newI (N := 50) X O (xw_t1 133 (by decide +kernel) rfl) (by decide) (by decide) (by decide) (Nat.le_of_ble_eq_true rfl) (Nat.le_of_ble_eq_true rfl) dX1_init_32 (fun H locs O => ?_)
  rw [Option.some.inj ht7] at O
  refine W.eq (g2 := F0 m 34 ls [.ref (κ.1 + t6.1.length), .ref (κ.1 + a0)]) rfl ?_
  obtain ⟨t8, ht8, h⟩ := Option.bind_eq_some_iff.mp h
  refine xr_putP X O ht8 fl_X1_21 (fun _ => ⟨hnm, rfl⟩) dX1_init_34 (fun H locs O => ?_)
  refine lv_aload_n hx hb dX1_init_37 rfl (lv_at hl 0 rfl) ?_
  refine lv_bipush (v := (50 : Int32)) hx hb dX1_init_38 (by decide) ?_
  obtain ⟨t9, ht9, h⟩ := Option.bind_eq_some_iff.mp h
  refine xr_newI (N := 50) X O (xw_t1 133 (by decide +kernel) rfl) (by decide) (by decide) (by decide) (Nat.le_of_ble_eq_true rfl) (Nat.le_of_ble_eq_true rfl) dX1_init_40 (fun H locs O => ?_)
  rw [Option.some.inj ht9] at O
  refine W.eq (g2 := F0 m 42 ls [.ref (κ.1 + t8.1.length), .ref (κ.1 + a0)]) rfl ?_
  obtain ⟨t10, ht10, h⟩ := Option.bind_eq_some_iff.mp h
  refine xr_putP X O ht10 fl_X1_24 (fun _ => ⟨hnm, rfl⟩) dX1_init_42 (fun H locs O => ?_)
  rw [← Option.some.inj h] at hK
  have hK : t10 = mo := hK
  rw [hK] at O
  exact xr_vret X hr hlk O dX1_init_45
def F_J9_max_7cf53 (a0 : Int32) (a1 : Int32) (M : xM) : Option (Int32 × xM) :=
if a0 < a1 then (
some (a1, M))
else (
some (a0, M))
set_option maxRecDepth 100000 in
set_option maxHeartbeats 4000000 in
theorem T_J9_max_7cf53 (l : Launch) (κ : xQ) (a0 : Int32) (a1 : Int32) (M : xM) (ro : Int32) (mo : xM) (h : F_J9_max_7cf53 a0 a1 M = some (ro, mo)) : xC l yJ9_max_7cf53 cJ9_max_7cf53 2 (some .int) 2 0 0 κ [.int a0, .int a1] M (some (.int ro)) mo := by
  refine xC_ofF (by decide +kernel) (Nat.le_of_ble_eq_true rfl) fun p e s m args below meth c X hr hlk hnm H locs ls O hl => ?_
  have X : xX p s m args c cJ9_max_7cf53 2 RJ9 κ := X
  have hl : lv_has ls 2 [(0, .int a0), (1, .int a1)] := hl
  have hx := X.1
  have hb := X.2.1
  obtain ⟨x, hx0⟩ : ∃ x, (ro, mo) = x := ⟨_, rfl⟩
  rw [hx0] at h
  have hK : x = (ro, mo) := hx0.symm
  unfold F_J9_max_7cf53 at h
  refine lv_iload_n hx hb dJ9_max_7cf53_0 rfl (lv_at hl 0 rfl) ?_
  refine lv_iload_n hx hb dJ9_max_7cf53_1 rfl (lv_at hl 1 rfl) ?_
  refine lv_icmp_lt (tgt := 9) hx hb dJ9_max_7cf53_2 (by decide) (fun hc2 => ?_) (fun hc2 => ?_)
  · rw [if_pos hc2] at h
    refine lv_iload_n hx hb dJ9_max_7cf53_9 rfl (lv_at hl 1 rfl) ?_
    rw [← Option.some.inj h] at hK
    have hK : (a1, M) = (ro, mo) := hK
    obtain ⟨hK1, hK2⟩ := Prod.mk.inj hK
    rw [hK2] at O
    refine xr_top (w := .int ro) (by rw [hK1]) ?_
    exact xr_iret X hr hlk O dJ9_max_7cf53_10
  rw [if_neg hc2] at h
  refine lv_iload_n hx hb dJ9_max_7cf53_5 rfl (lv_at hl 0 rfl) ?_
  refine lv_goto (tgt := 10) hx hb dJ9_max_7cf53_6 (by decide) ?_
  rw [← Option.some.inj h] at hK
  have hK : (a0, M) = (ro, mo) := hK
  obtain ⟨hK1, hK2⟩ := Prod.mk.inj hK
  rw [hK2] at O
  refine xr_top (w := .int ro) (by rw [hK1]) ?_
  exact xr_iret X hr hlk O dJ9_max_7cf53_10
def F_X1_enqueue (a0 : Nat) (a1 : Int32) (a2 : Int32) (M : xM) : Option (xM) :=
(xgP M a0 1 3).bind fun t1 =>
(xaI M 20 t1 a1).bind fun t2 =>
if t2 = (-1 : Int32) then (
(xgI M a0 1 5).bind fun t3 =>
if (50 : Int32) ≤ t3 then (
some M)
else (
(xgP M a0 1 3).bind fun t4 =>
(xsI M t4 a1 a2).bind fun t5 =>
(xgP t5 a0 1 4).bind fun t6 =>
(xgI t5 a0 1 5).bind fun t7 =>
(xsI t5 t6 t7 a1).bind fun t8 =>
(xgI t8 a0 1 5).bind fun t9 =>
(xpI t8 a0 1 5 (t9 + (1 : Int32))).bind fun t10 =>
some t10))
else (
some M)
set_option maxRecDepth 100000 in
set_option maxHeartbeats 4000000 in
theorem T_X1_enqueue (l : Launch) (κ : xQ) (a0 : Nat) (a1 : Int32) (a2 : Int32) (M : xM) (mo : xM) (h : F_X1_enqueue a0 a1 a2 M = some mo) : xC l yX1_enqueue cX1_enqueue 3 none 2 0 0 κ [.ref (κ.1 + a0), .int a1, .int a2] M none mo := by
  refine xC_of rfl (Nat.le_of_ble_eq_true rfl) fun p e s m args below meth c X hr hlk hnm H locs ls O hl => ?_
  have X : xX p s m args c cX1_enqueue 3 RX1 κ := X
  have hl : lv_has ls 3 [(0, .ref (κ.1 + a0)), (1, .int a1), (2, .int a2)] := hl
  have hx := X.1
  have hb := X.2.1
  obtain ⟨x, hx0⟩ : ∃ x, mo = x := ⟨_, rfl⟩
  rw [hx0] at h
  have hK : x = mo := hx0.symm
  unfold F_X1_enqueue at h
  refine lv_aload_n hx hb dX1_enqueue_0 rfl (lv_at hl 0 rfl) ?_
  obtain ⟨t1, ht1, h⟩ := Option.bind_eq_some_iff.mp h
  refine xr_getP X O ht1 fl_X1_21 dX1_enqueue_1 ?_
  refine lv_iload_n hx hb dX1_enqueue_4 rfl (lv_at hl 1 rfl) ?_
  obtain ⟨t2, ht2, h⟩ := Option.bind_eq_some_iff.mp h
  refine xr_aldI X O ht2 dX1_enqueue_5 ?_
  refine lv_iconst (v := (-1 : Int32)) hx hb dX1_enqueue_6 (by decide) ?_
  refine lv_icmp_ne (tgt := 46) hx hb dX1_enqueue_7 (by decide) (fun hc7 => ?_) (fun hc7 => ?_)
  · rw [if_neg hc7] at h
    rw [← Option.some.inj h] at hK
    have hK : M = mo := hK
    rw [hK] at O
    exact xr_vret X hr hlk O dX1_enqueue_46
  rw [if_pos hc7] at h
  refine lv_aload_n hx hb dX1_enqueue_10 rfl (lv_at hl 0 rfl) ?_
  obtain ⟨t3, ht3, h⟩ := Option.bind_eq_some_iff.mp h
  refine xr_getI X O ht3 fl_X1_47 (Or.inl rfl) dX1_enqueue_11 ?_
  refine lv_bipush (v := (50 : Int32)) hx hb dX1_enqueue_14 (by decide) ?_
  refine lv_icmp_ge (tgt := 46) hx hb dX1_enqueue_16 (by decide) (fun hc16 => ?_) (fun hc16 => ?_)
  · rw [if_pos hc16] at h
    rw [← Option.some.inj h] at hK
    have hK : M = mo := hK
    rw [hK] at O
    exact xr_vret X hr hlk O dX1_enqueue_46
  rw [if_neg hc16] at h
  refine lv_aload_n hx hb dX1_enqueue_19 rfl (lv_at hl 0 rfl) ?_
  obtain ⟨t4, ht4, h⟩ := Option.bind_eq_some_iff.mp h
  refine xr_getP X O ht4 fl_X1_21 dX1_enqueue_20 ?_
  refine lv_iload_n hx hb dX1_enqueue_23 rfl (lv_at hl 1 rfl) ?_
  refine lv_iload_n hx hb dX1_enqueue_24 rfl (lv_at hl 2 rfl) ?_
  obtain ⟨t5, ht5, h⟩ := Option.bind_eq_some_iff.mp h
  refine xr_stI X O ht5 dX1_enqueue_25 (fun H locs O => ?_)
  refine lv_aload_n hx hb dX1_enqueue_26 rfl (lv_at hl 0 rfl) ?_
  obtain ⟨t6, ht6, h⟩ := Option.bind_eq_some_iff.mp h
  refine xr_getP X O ht6 fl_X1_24 dX1_enqueue_27 ?_
  refine lv_aload_n hx hb dX1_enqueue_30 rfl (lv_at hl 0 rfl) ?_
  obtain ⟨t7, ht7, h⟩ := Option.bind_eq_some_iff.mp h
  refine xr_getI X O ht7 fl_X1_47 (Or.inl rfl) dX1_enqueue_31 ?_
  refine lv_iload_n hx hb dX1_enqueue_34 rfl (lv_at hl 1 rfl) ?_
  obtain ⟨t8, ht8, h⟩ := Option.bind_eq_some_iff.mp h
  refine xr_stI X O ht8 dX1_enqueue_35 (fun H locs O => ?_)
  refine lv_aload_n hx hb dX1_enqueue_36 rfl (lv_at hl 0 rfl) ?_
  refine lv_dup hx hb dX1_enqueue_37 rfl ?_
  obtain ⟨t9, ht9, h⟩ := Option.bind_eq_some_iff.mp h
  refine xr_getI X O ht9 fl_X1_47 (Or.inl rfl) dX1_enqueue_38 ?_
  refine lv_iconst (v := (1 : Int32)) hx hb dX1_enqueue_41 (by decide) ?_
  refine lv_iadd hx hb dX1_enqueue_42 ?_
  obtain ⟨t10, ht10, h⟩ := Option.bind_eq_some_iff.mp h
  refine xr_putI X O ht10 fl_X1_47 dX1_enqueue_43 (fun H locs O => ?_)
  rw [← Option.some.inj h] at hK
  have hK : t10 = mo := hK
  rw [hK] at O
  exact xr_vret X hr hlk O dX1_enqueue_46
def F_X8_besides (a0 : Nat) (a1 : Int32) (M : xM) : Option (Int32 × xM) :=
(xgI M a0 3 2).bind fun t1 =>
(xgI M a0 3 1).bind fun t2 =>
(some ((t1 <<< ((t2 - (1 : Int32)) &&& 31)))).bind fun t3 =>
(xgI M a0 3 1).bind fun t4 =>
(xgI M a0 3 1).bind fun t5 =>
(xgI M a0 3 2).bind fun t6 =>
some (((((a1 <<< (t4 &&& 31)) ||| (a1 >>> (t5 &&& 31))) ||| ((a1 &&& (t3 ^^^ (-1 : Int32))) <<< ((1 : Int32) &&& 31))) ||| ((a1 &&& (t6 ^^^ (-1 : Int32))) >>> ((1 : Int32) &&& 31))), M)
set_option maxRecDepth 100000 in
set_option maxHeartbeats 4000000 in
theorem T_X8_besides (l : Launch) (κ : xQ) (a0 : Nat) (a1 : Int32) (M : xM) (ro : Int32) (mo : xM) (h : F_X8_besides a0 a1 M = some (ro, mo)) : xC l yX8_besides cX8_besides 3 (some .int) 2 0 0 κ [.ref (κ.1 + a0), .int a1] M (some (.int ro)) mo := by
  refine xC_of rfl (Nat.le_of_ble_eq_true rfl) fun p e s m args below meth c X hr hlk hnm H locs ls O hl => ?_
  have X : xX p s m args c cX8_besides 3 RX8 κ := X
  have hl : lv_has ls 3 [(0, .ref (κ.1 + a0)), (1, .int a1)] := hl
  have hx := X.1
  have hb := X.2.1
  obtain ⟨x, hx0⟩ : ∃ x, (ro, mo) = x := ⟨_, rfl⟩
  rw [hx0] at h
  have hK : x = (ro, mo) := hx0.symm
  unfold F_X8_besides at h
  refine lv_aload_n hx hb dX8_besides_0 rfl (lv_at hl 0 rfl) ?_
  obtain ⟨t1, ht1, h⟩ := Option.bind_eq_some_iff.mp h
  refine xr_getI X O ht1 fl_X8_67 (Or.inl rfl) dX8_besides_1 ?_
  refine lv_aload_n hx hb dX8_besides_4 rfl (lv_at hl 0 rfl) ?_
  obtain ⟨t2, ht2, h⟩ := Option.bind_eq_some_iff.mp h
  refine xr_getI X O ht2 fl_X8_60 (Or.inl rfl) dX8_besides_5 ?_
  refine lv_iconst (v := (1 : Int32)) hx hb dX8_besides_8 (by decide) ?_
  refine lv_isub hx hb dX8_besides_9 ?_
  refine lv_ishl hx hb dX8_besides_10 ?_
  obtain ⟨t3, ht3, h⟩ := Option.bind_eq_some_iff.mp h
  refine xr_top (w := .int t3) (by rw [Option.some.inj ht3]) ?_
  refine lv_istore_n (lv' := [(2, .int t3), (0, .ref (κ.1 + a0)), (1, .int a1)]) hx hb dX8_besides_11 rfl hl (by decide) rfl (fun ls hl => ?_)
  refine lv_iload_n hx hb dX8_besides_12 rfl (lv_at hl 2 rfl) ?_
  refine lv_aload_n hx hb dX8_besides_13 rfl (lv_at hl 1 rfl) ?_
  obtain ⟨t4, ht4, h⟩ := Option.bind_eq_some_iff.mp h
  refine xr_getI X O ht4 fl_X8_60 (Or.inl rfl) dX8_besides_14 ?_
  refine lv_ishl hx hb dX8_besides_17 ?_
  refine lv_iload_n hx hb dX8_besides_18 rfl (lv_at hl 2 rfl) ?_
  refine lv_aload_n hx hb dX8_besides_19 rfl (lv_at hl 1 rfl) ?_
  obtain ⟨t5, ht5, h⟩ := Option.bind_eq_some_iff.mp h
  refine xr_getI X O ht5 fl_X8_60 (Or.inl rfl) dX8_besides_20 ?_
  refine lv_ishr hx hb dX8_besides_23 ?_
  refine lv_ior hx hb dX8_besides_24 ?_
  refine lv_iload_n hx hb dX8_besides_25 rfl (lv_at hl 2 rfl) ?_
  refine lv_iload_n hx hb dX8_besides_26 rfl (lv_at hl 0 rfl) ?_
  refine lv_iconst (v := (-1 : Int32)) hx hb dX8_besides_27 (by decide) ?_
  refine lv_ixor hx hb dX8_besides_28 ?_
  refine lv_iand hx hb dX8_besides_29 ?_
  refine lv_iconst (v := (1 : Int32)) hx hb dX8_besides_30 (by decide) ?_
  refine lv_ishl hx hb dX8_besides_31 ?_
  refine lv_ior hx hb dX8_besides_32 ?_
  refine lv_iload_n hx hb dX8_besides_33 rfl (lv_at hl 2 rfl) ?_
  refine lv_aload_n hx hb dX8_besides_34 rfl (lv_at hl 1 rfl) ?_
  obtain ⟨t6, ht6, h⟩ := Option.bind_eq_some_iff.mp h
  refine xr_getI X O ht6 fl_X8_67 (Or.inl rfl) dX8_besides_35 ?_
  refine lv_iconst (v := (-1 : Int32)) hx hb dX8_besides_38 (by decide) ?_
  refine lv_ixor hx hb dX8_besides_39 ?_
  refine lv_iand hx hb dX8_besides_40 ?_
  refine lv_iconst (v := (1 : Int32)) hx hb dX8_besides_41 (by decide) ?_
  refine lv_ishr hx hb dX8_besides_42 ?_
  refine lv_ior hx hb dX8_besides_43 ?_
  rw [← Option.some.inj h] at hK
  have hK : (((((a1 <<< (t4 &&& 31)) ||| (a1 >>> (t5 &&& 31))) ||| ((a1 &&& (t3 ^^^ (-1 : Int32))) <<< ((1 : Int32) &&& 31))) ||| ((a1 &&& (t6 ^^^ (-1 : Int32))) >>> ((1 : Int32) &&& 31))), M) = (ro, mo) := hK
  obtain ⟨hK1, hK2⟩ := Prod.mk.inj hK
  rw [hK2] at O
  refine xr_top (w := .int ro) (by rw [hK1]) ?_
  exact xr_iret X hr hlk O dX8_besides_44
def F_X3_cells (a0 : Nat) (M : xM) : Option (Int32 × xM) :=
(xgI M a0 3 0).bind fun t1 =>
(xgI M a0 3 1).bind fun t2 =>
some ((t1 * t2), M)
set_option maxRecDepth 100000 in
set_option maxHeartbeats 4000000 in
theorem T_X3_cells (l : Launch) (κ : xQ) (a0 : Nat) (M : xM) (ro : Int32) (mo : xM) (h : F_X3_cells a0 M = some (ro, mo)) : xC l yX3_cells cX3_cells 1 (some .int) 2 0 0 κ [.ref (κ.1 + a0)] M (some (.int ro)) mo := by
  refine xC_of rfl (Nat.le_of_ble_eq_true rfl) fun p e s m args below meth c X hr hlk hnm H locs ls O hl => ?_
  have X : xX p s m args c cX3_cells 1 RX3 κ := X
  have hl : lv_has ls 1 [(0, .ref (κ.1 + a0))] := hl
  have hx := X.1
  have hb := X.2.1
  obtain ⟨x, hx0⟩ : ∃ x, (ro, mo) = x := ⟨_, rfl⟩
  rw [hx0] at h
  have hK : x = (ro, mo) := hx0.symm
  unfold F_X3_cells at h
  refine lv_aload_n hx hb dX3_cells_0 rfl (lv_at hl 0 rfl) ?_
  obtain ⟨t1, ht1, h⟩ := Option.bind_eq_some_iff.mp h
  refine xr_getI X O ht1 fl_X3_9 (Or.inl rfl) dX3_cells_1 ?_
  refine lv_aload_n hx hb dX3_cells_4 rfl (lv_at hl 0 rfl) ?_
  obtain ⟨t2, ht2, h⟩ := Option.bind_eq_some_iff.mp h
  refine xr_getI X O ht2 fl_X3_15 (Or.inl rfl) dX3_cells_5 ?_
  refine lv_imul hx hb dX3_cells_8 ?_
  rw [← Option.some.inj h] at hK
  have hK : ((t1 * t2), M) = (ro, mo) := hK
  obtain ⟨hK1, hK2⟩ := Prod.mk.inj hK
  rw [hK2] at O
  refine xr_top (w := .int ro) (by rw [hK1]) ?_
  exact xr_iret X hr hlk O dX3_cells_9
def F_X1_spreadIn_84 (v0 : Nat) (v1 : Nat) (v2 : Int32) (v3 : Int32) (v4 : Int32) (M : xM) : Option ((Int32 × xM) ⊕ (xM)) :=
some (.inl ((v4 + 1), M))
def F_X1_spreadIn_90 (M : xM) : Option (xM) :=
some M
def F_X1_spreadIn_38b (v0 : Nat) (v1 : Nat) (v2 : Int32) (v3 : Int32) : (Int32 × xM) → Option ((Int32 × xM) ⊕ (xM)) := fun ⟨v4, M⟩ =>
(xck M v1 3).bind fun _ =>
(F_X3_cells v1 M).bind fun t9 =>
if t9.1 ≤ v4 then (
(F_X1_spreadIn_90 t9.2).map Sum.inr)
else (
if ((v3 >>> (v4 &&& 31)) &&& (1 : Int32)) = 0 then (
F_X1_spreadIn_84 v0 v1 v2 v3 v4 t9.2)
else (
(xgP t9.2 v0 1 2).bind fun t10 =>
(xaI t9.2 20 t10 ((v4 * (25 : Int32)) + v2)).bind fun t11 =>
if t11 ≤ 0 then (
F_X1_spreadIn_84 v0 v1 v2 v3 v4 t9.2)
else (
(xck t9.2 v0 1).bind fun _ =>
(F_X1_enqueue v0 (((2 : Int32) * v4) + (1 : Int32)) ((2 : Int32) * v2) t9.2).bind fun t13 =>
F_X1_spreadIn_84 v0 v1 v2 v3 v4 t13)))
def F_X1_spreadIn_38 (v0 : Nat) (v1 : Nat) (v2 : Int32) (v3 : Int32) (v4 : Int32) (M : xM) : Option (xM) := xit (F_X1_spreadIn_38b v0 v1 v2 v3) xFU (v4, M)
def F_X1_spreadIn_27 (v0 : Nat) (v1 : Nat) (v2 : Int32) (M : xM) : Option (xM) :=
(F_X8_besides v1 ((1 : Int32) <<< (v2 &&& 31)) M).bind fun t7 =>
F_X1_spreadIn_38 v0 v1 v2 t7.1 (0 : Int32) t7.2
def F_X1_spreadIn (a0 : Nat) (a1 : Nat) (a2 : Int32) (M : xM) : Option (xM) :=
(xgP M a0 1 1).bind fun t1 =>
(xaI M 20 t1 a2).bind fun t2 =>
(xgP M a0 1 0).bind fun t3 =>
(xaI M 20 t3 a2).bind fun t4 =>
if t4 ≤ t2 then (
F_X1_spreadIn_27 a0 a1 a2 M)
else (
(xck M a0 1).bind fun _ =>
(F_X1_enqueue a0 (((2 : Int32) * a2) + (1 : Int32)) ((2 : Int32) * a2) M).bind fun t6 =>
F_X1_spreadIn_27 a0 a1 a2 t6)
set_option maxRecDepth 100000 in
set_option maxHeartbeats 4000000 in
theorem F_X1_spreadIn_84_ok (X : xX p s m args c cX1_spreadIn 5 RX1 κ) (hr : meth.sig.returnType = none) (hlk : meth.locks = false) {mo : xM} (v0 : Nat) (v1 : Nat) (v2 : Int32) (v3 : Int32) (v4 : Int32) {W38 : Int32 × xM → Prop} (hW38 : ∀ (v4 : Int32) (M : xM), W38 (v4, M) → ∀ (H : Heap) (locs : List Loc) (ls : Array Slot), xO κ s M H locs → lv_has ls 5 [(0, .ref (κ.1 + v0)), (1, .ref (κ.1 + v1)), (2, .int v2), (3, .int v3), (4, .int v4)] → W p l e (xRm 3 0 0) s m args below meth c H locs 0 0 (xQf below args s 0 0 κ none mo) (F0 m 38 ls [])) (M : xM) (x : (Int32 × xM) ⊕ (xM)) (h : F_X1_spreadIn_84 v0 v1 v2 v3 v4 M = some x) (hK : (xKl W38 (fun o => o = mo)) x) (H : Heap) (locs : List Loc) (ls : Array Slot) (O : xO κ s M H locs) (hl : lv_has ls 5 [(0, .ref (κ.1 + v0)), (1, .ref (κ.1 + v1)), (2, .int v2), (3, .int v3), (4, .int v4)]) : W p l e (xRm 3 0 0) s m args below meth c H locs 0 0 (xQf below args s 0 0 κ none mo) (F0 m 84 ls []) := by
  unfold F_X1_spreadIn_84 at h
  have hx := X.1
  have hb := X.2.1
  refine lv_iinc (v := (v4 + 1)) (lv' := [(4, .int (v4 + 1)), (0, .ref (κ.1 + v0)), (1, .ref (κ.1 + v1)), (2, .int v2), (3, .int v3)]) hx hb dX1_spreadIn_84 hl (k := 4) rfl rfl (by decide) rfl (fun ls hl => ?_)
  refine lv_goto (tgt := 38) hx hb dX1_spreadIn_87 (by decide) ?_
  rw [← Option.some.inj h] at hK
  exact hW38 (v4 + 1) M hK H locs ls O (lv_sub hl [1, 2, 3, 4, 0] rfl)
set_option maxRecDepth 100000 in
set_option maxHeartbeats 4000000 in
theorem F_X1_spreadIn_90_ok (X : xX p s m args c cX1_spreadIn 5 RX1 κ) (hr : meth.sig.returnType = none) (hlk : meth.locks = false) {mo : xM} (M : xM) (x : xM) (h : F_X1_spreadIn_90 M = some x) (hK : (fun o => o = mo) x) (H : Heap) (locs : List Loc) (ls : Array Slot) (O : xO κ s M H locs) (hl : lv_has ls 5 []) : W p l e (xRm 3 0 0) s m args below meth c H locs 0 0 (xQf below args s 0 0 κ none mo) (F0 m 90 ls []) := by
  unfold F_X1_spreadIn_90 at h
  have hx := X.1
  have hb := X.2.1
  rw [← Option.some.inj h] at hK
  have hK : M = mo := hK
  rw [hK] at O
  exact xr_vret X hr hlk O dX1_spreadIn_90
set_option maxRecDepth 100000 in
set_option maxHeartbeats 4000000 in
theorem F_X1_spreadIn_38_bok (X : xX p s m args c cX1_spreadIn 5 RX1 κ) (hr : meth.sig.returnType = none) (hlk : meth.locks = false) {mo : xM} (v0 : Nat) (v1 : Nat) (v2 : Int32) (v3 : Int32) (v4 : Int32) {W38 : Int32 × xM → Prop} (hW38 : ∀ (v4 : Int32) (M : xM), W38 (v4, M) → ∀ (H : Heap) (locs : List Loc) (ls : Array Slot), xO κ s M H locs → lv_has ls 5 [(0, .ref (κ.1 + v0)), (1, .ref (κ.1 + v1)), (2, .int v2), (3, .int v3), (4, .int v4)] → W p l e (xRm 3 0 0) s m args below meth c H locs 0 0 (xQf below args s 0 0 κ none mo) (F0 m 38 ls [])) (M : xM) (x : (Int32 × xM) ⊕ (xM)) (h : F_X1_spreadIn_38b v0 v1 v2 v3 (v4, M) = some x) (hK : (xKl W38 (fun o => o = mo)) x) (H : Heap) (locs : List Loc) (ls : Array Slot) (O : xO κ s M H locs) (hl : lv_has ls 5 [(0, .ref (κ.1 + v0)), (1, .ref (κ.1 + v1)), (2, .int v2), (3, .int v3), (4, .int v4)]) : W p l e (xRm 3 0 0) s m args below meth c H locs 0 0 (xQf below args s 0 0 κ none mo) (F0 m 38 ls []) := by
  unfold F_X1_spreadIn_38b at h
  dsimp only at h
  have hx := X.1
  have hb := X.2.1
  refine lv_iload hx hb dX1_spreadIn_38 (lv_at hl 4 rfl) ?_
  refine lv_aload_n hx hb dX1_spreadIn_40 rfl (lv_at hl 1 rfl) ?_
  obtain ⟨_, hut8, h⟩ := Option.bind_eq_some_iff.mp h
  obtain ⟨t9, ht9, h⟩ := Option.bind_eq_some_iff.mp h
  refine xr_callV (rest := [.int v4]) X O (T_X3_cells l κ v1 M _ _ ht9) lk_X1_73 hut8 (Nat.le_of_ble_eq_true rfl) rfl hl.1 rfl (Nat.le_of_ble_eq_true rfl) dX1_spreadIn_41 ⟨Nat.le_of_ble_eq_true rfl, Nat.le_of_ble_eq_true rfl⟩ (fun H locs O => ?_)
  refine W.eq (g2 := F0 m 44 ls [.int t9.1, .int v4]) rfl ?_
  refine lv_icmp_ge (tgt := 90) hx hb dX1_spreadIn_44 (by decide) (fun hc44 => ?_) (fun hc44 => ?_)
  · rw [if_pos hc44] at h
    obtain ⟨_, hw0, ew0⟩ := Option.map_eq_some_iff.mp h
    rw [← ew0] at hK
    have h := hw0
    exact F_X1_spreadIn_90_ok X hr hlk  t9.2 _ h hK H locs ls O (lv_sub hl [] rfl)
  rw [if_neg hc44] at h
  refine lv_iload_n hx hb dX1_spreadIn_47 rfl (lv_at hl 3 rfl) ?_
  refine lv_iload hx hb dX1_spreadIn_48 (lv_at hl 4 rfl) ?_
  refine lv_ishr hx hb dX1_spreadIn_50 ?_
  refine lv_iconst (v := (1 : Int32)) hx hb dX1_spreadIn_51 (by decide) ?_
  refine lv_iand hx hb dX1_spreadIn_52 ?_
  refine lv_if_eq (tgt := 84) hx hb dX1_spreadIn_53 (by decide) (fun hc53 => ?_) (fun hc53 => ?_)
  · rw [if_pos hc53] at h
    exact F_X1_spreadIn_84_ok X hr hlk v0 v1 v2 v3 v4 hW38 t9.2 _ h hK H locs ls O (lv_sub hl [0, 1, 2, 3, 4] rfl)
  rw [if_neg hc53] at h
  refine lv_aload_n hx hb dX1_spreadIn_56 rfl (lv_at hl 0 rfl) ?_
  obtain ⟨t10, ht10, h⟩ := Option.bind_eq_some_iff.mp h
  refine xr_getP X O ht10 fl_X1_18 dX1_spreadIn_57 ?_
  refine lv_iload hx hb dX1_spreadIn_60 (lv_at hl 4 rfl) ?_
  refine lv_bipush (v := (25 : Int32)) hx hb dX1_spreadIn_62 (by decide) ?_
  refine lv_imul hx hb dX1_spreadIn_64 ?_
  refine lv_iload_n hx hb dX1_spreadIn_65 rfl (lv_at hl 2 rfl) ?_
  refine lv_iadd hx hb dX1_spreadIn_66 ?_
  obtain ⟨t11, ht11, h⟩ := Option.bind_eq_some_iff.mp h
  refine xr_aldI X O ht11 dX1_spreadIn_67 ?_
  refine lv_if_le (tgt := 84) hx hb dX1_spreadIn_68 (by decide) (fun hc68 => ?_) (fun hc68 => ?_)
  · rw [if_pos hc68] at h
    exact F_X1_spreadIn_84_ok X hr hlk v0 v1 v2 v3 v4 hW38 t9.2 _ h hK H locs ls O (lv_sub hl [0, 1, 2, 3, 4] rfl)
  rw [if_neg hc68] at h
  refine lv_aload_n hx hb dX1_spreadIn_71 rfl (lv_at hl 0 rfl) ?_
  refine lv_iconst (v := (2 : Int32)) hx hb dX1_spreadIn_72 (by decide) ?_
  refine lv_iload hx hb dX1_spreadIn_73 (lv_at hl 4 rfl) ?_
  refine lv_imul hx hb dX1_spreadIn_75 ?_
  refine lv_iconst (v := (1 : Int32)) hx hb dX1_spreadIn_76 (by decide) ?_
  refine lv_iadd hx hb dX1_spreadIn_77 ?_
  refine lv_iconst (v := (2 : Int32)) hx hb dX1_spreadIn_78 (by decide) ?_
  refine lv_iload_n hx hb dX1_spreadIn_79 rfl (lv_at hl 2 rfl) ?_
  refine lv_imul hx hb dX1_spreadIn_80 ?_
  obtain ⟨_, hut12, h⟩ := Option.bind_eq_some_iff.mp h
  obtain ⟨t13, ht13, h⟩ := Option.bind_eq_some_iff.mp h
  refine xr_callV (rest := []) X O (T_X1_enqueue l κ v0 (((2 : Int32) * v4) + (1 : Int32)) ((2 : Int32) * v2) t9.2 _ ht13) lk_X1_56 hut12 (Nat.le_of_ble_eq_true rfl) rfl hl.1 rfl (Nat.le_of_ble_eq_true rfl) dX1_spreadIn_81 ⟨Nat.le_of_ble_eq_true rfl, Nat.le_of_ble_eq_true rfl⟩ (fun H locs O => ?_)
  refine W.eq (g2 := F0 m 84 ls []) rfl ?_
  exact F_X1_spreadIn_84_ok X hr hlk v0 v1 v2 v3 v4 hW38 t13 _ h hK H locs ls O (lv_sub hl [0, 1, 2, 3, 4] rfl)
set_option maxRecDepth 100000 in
set_option maxHeartbeats 4000000 in
theorem F_X1_spreadIn_38_ok (X : xX p s m args c cX1_spreadIn 5 RX1 κ) (hr : meth.sig.returnType = none) (hlk : meth.locks = false) {mo : xM} (v0 : Nat) (v1 : Nat) (v2 : Int32) (v3 : Int32) (v4 : Int32) (M : xM) (x : xM) (h : F_X1_spreadIn_38 v0 v1 v2 v3 v4 M = some x) (hK : (fun o => o = mo) x) (H : Heap) (locs : List Loc) (ls : Array Slot) (O : xO κ s M H locs) (hl : lv_has ls 5 [(0, .ref (κ.1 + v0)), (1, .ref (κ.1 + v1)), (2, .int v2), (3, .int v3), (4, .int v4)]) : W p l e (xRm 3 0 0) s m args below meth c H locs 0 0 (xQf below args s 0 0 κ none mo) (F0 m 38 ls []) := by
  refine xit_K (Wh := fun x => ∀ (H : Heap) (locs : List Loc) (ls : Array Slot), xO κ s x.2 H locs → lv_has ls 5 [(0, .ref (κ.1 + v0)), (1, .ref (κ.1 + v1)), (2, .int v2), (3, .int v3), (4, .int x.1)] → W p l e (xRm 3 0 0) s m args below meth c H locs 0 0 (xQf below args s 0 0 κ none mo) (F0 m 38 ls [])) (Kp := (fun o => o = mo)) ?_ xFU (v4, M) x h hK H locs ls O hl
  intro y x h hK H locs ls O hl
  exact F_X1_spreadIn_38_bok X hr hlk v0 v1 v2 v3 y.1 (fun _ _ hw => hw) y.2 x h hK H locs ls O hl
set_option maxRecDepth 100000 in
set_option maxHeartbeats 4000000 in
theorem F_X1_spreadIn_27_ok (X : xX p s m args c cX1_spreadIn 5 RX1 κ) (hr : meth.sig.returnType = none) (hlk : meth.locks = false) {mo : xM} (v0 : Nat) (v1 : Nat) (v2 : Int32) (M : xM) (x : xM) (h : F_X1_spreadIn_27 v0 v1 v2 M = some x) (hK : (fun o => o = mo) x) (H : Heap) (locs : List Loc) (ls : Array Slot) (O : xO κ s M H locs) (hl : lv_has ls 5 [(0, .ref (κ.1 + v0)), (1, .ref (κ.1 + v1)), (2, .int v2)]) : W p l e (xRm 3 0 0) s m args below meth c H locs 0 0 (xQf below args s 0 0 κ none mo) (F0 m 27 ls []) := by
  unfold F_X1_spreadIn_27 at h
  have hx := X.1
  have hb := X.2.1
  refine lv_aload_n hx hb dX1_spreadIn_27 rfl (lv_at hl 1 rfl) ?_
  refine lv_iconst (v := (1 : Int32)) hx hb dX1_spreadIn_28 (by decide) ?_
  refine lv_iload_n hx hb dX1_spreadIn_29 rfl (lv_at hl 2 rfl) ?_
  refine lv_ishl hx hb dX1_spreadIn_30 ?_
  obtain ⟨t7, ht7, h⟩ := Option.bind_eq_some_iff.mp h
  refine xr_callS (rest := []) X O (T_X8_besides l κ v1 ((1 : Int32) <<< (v2 &&& 31)) M _ _ ht7) lk_X1_67 (Nat.le_of_ble_eq_true rfl) rfl hl.1 rfl (Nat.le_of_ble_eq_true rfl) dX1_spreadIn_31 ⟨Nat.le_of_ble_eq_true rfl, Nat.le_of_ble_eq_true rfl⟩ (fun H locs O => ?_)
  refine W.eq (g2 := F0 m 34 ls [.int t7.1]) rfl ?_
  refine lv_istore_n (lv' := [(3, .int t7.1), (0, .ref (κ.1 + v0)), (1, .ref (κ.1 + v1)), (2, .int v2)]) hx hb dX1_spreadIn_34 rfl hl (by decide) rfl (fun ls hl => ?_)
  refine lv_iconst (v := (0 : Int32)) hx hb dX1_spreadIn_35 (by decide) ?_
  refine lv_istore (lv' := [(4, .int (0 : Int32)), (3, .int t7.1), (0, .ref (κ.1 + v0)), (1, .ref (κ.1 + v1)), (2, .int v2)]) hx hb dX1_spreadIn_36 hl (by decide) rfl (fun ls hl => ?_)
  exact F_X1_spreadIn_38_ok X hr hlk v0 v1 v2 t7.1 (0 : Int32) t7.2 _ h hK H locs ls O (lv_sub hl [2, 3, 4, 1, 0] rfl)
set_option maxRecDepth 100000 in
set_option maxHeartbeats 4000000 in
theorem T_X1_spreadIn (l : Launch) (κ : xQ) (a0 : Nat) (a1 : Nat) (a2 : Int32) (M : xM) (mo : xM) (h : F_X1_spreadIn a0 a1 a2 M = some mo) : xC l yX1_spreadIn cX1_spreadIn 5 none 3 0 0 κ [.ref (κ.1 + a0), .ref (κ.1 + a1), .int a2] M none mo := by
  refine xC_of rfl (Nat.le_of_ble_eq_true rfl) fun p e s m args below meth c X hr hlk hnm H locs ls O hl => ?_
  have X : xX p s m args c cX1_spreadIn 5 RX1 κ := X
  have hl : lv_has ls 5 [(0, .ref (κ.1 + a0)), (1, .ref (κ.1 + a1)), (2, .int a2)] := hl
  have hx := X.1
  have hb := X.2.1
  obtain ⟨x, hx0⟩ : ∃ x, mo = x := ⟨_, rfl⟩
  rw [hx0] at h
  have hK : x = mo := hx0.symm
  unfold F_X1_spreadIn at h
  refine lv_aload_n hx hb dX1_spreadIn_0 rfl (lv_at hl 0 rfl) ?_
  obtain ⟨t1, ht1, h⟩ := Option.bind_eq_some_iff.mp h
  refine xr_getP X O ht1 fl_X1_15 dX1_spreadIn_1 ?_
  refine lv_iload_n hx hb dX1_spreadIn_4 rfl (lv_at hl 2 rfl) ?_
  obtain ⟨t2, ht2, h⟩ := Option.bind_eq_some_iff.mp h
  refine xr_aldI X O ht2 dX1_spreadIn_5 ?_
  refine lv_aload_n hx hb dX1_spreadIn_6 rfl (lv_at hl 0 rfl) ?_
  obtain ⟨t3, ht3, h⟩ := Option.bind_eq_some_iff.mp h
  refine xr_getP X O ht3 fl_X1_9 dX1_spreadIn_7 ?_
  refine lv_iload_n hx hb dX1_spreadIn_10 rfl (lv_at hl 2 rfl) ?_
  obtain ⟨t4, ht4, h⟩ := Option.bind_eq_some_iff.mp h
  refine xr_aldI X O ht4 dX1_spreadIn_11 ?_
  refine lv_icmp_ge (tgt := 27) hx hb dX1_spreadIn_12 (by decide) (fun hc12 => ?_) (fun hc12 => ?_)
  · rw [if_pos hc12] at h
    exact F_X1_spreadIn_27_ok X hr hlk a0 a1 a2 M _ h hK H locs ls O (lv_sub hl [0, 1, 2] rfl)
  rw [if_neg hc12] at h
  refine lv_aload_n hx hb dX1_spreadIn_15 rfl (lv_at hl 0 rfl) ?_
  refine lv_iconst (v := (2 : Int32)) hx hb dX1_spreadIn_16 (by decide) ?_
  refine lv_iload_n hx hb dX1_spreadIn_17 rfl (lv_at hl 2 rfl) ?_
  refine lv_imul hx hb dX1_spreadIn_18 ?_
  refine lv_iconst (v := (1 : Int32)) hx hb dX1_spreadIn_19 (by decide) ?_
  refine lv_iadd hx hb dX1_spreadIn_20 ?_
  refine lv_iconst (v := (2 : Int32)) hx hb dX1_spreadIn_21 (by decide) ?_
  refine lv_iload_n hx hb dX1_spreadIn_22 rfl (lv_at hl 2 rfl) ?_
  refine lv_imul hx hb dX1_spreadIn_23 ?_
  obtain ⟨_, hut5, h⟩ := Option.bind_eq_some_iff.mp h
  obtain ⟨t6, ht6, h⟩ := Option.bind_eq_some_iff.mp h
  refine xr_callV (rest := []) X O (T_X1_enqueue l κ a0 (((2 : Int32) * a2) + (1 : Int32)) ((2 : Int32) * a2) M _ ht6) lk_X1_56 hut5 (Nat.le_of_ble_eq_true rfl) rfl hl.1 rfl (Nat.le_of_ble_eq_true rfl) dX1_spreadIn_24 ⟨Nat.le_of_ble_eq_true rfl, Nat.le_of_ble_eq_true rfl⟩ (fun H locs O => ?_)
  refine W.eq (g2 := F0 m 27 ls []) rfl ?_
  exact F_X1_spreadIn_27_ok X hr hlk a0 a1 a2 t6 _ h hK H locs ls O (lv_sub hl [0, 1, 2] rfl)
def F_X1_spreadOut_63 (v0 : Nat) (v1 : Nat) (v2 : Int32) (v3 : Int32) (v4 : Int32) (M : xM) : Option ((Int32 × xM) ⊕ (xM)) :=
some (.inl ((v4 + 1), M))
def F_X1_spreadOut_69 (M : xM) : Option (xM) :=
some M
def F_X1_spreadOut_32b (v0 : Nat) (v1 : Nat) (v2 : Int32) (v3 : Int32) : (Int32 × xM) → Option ((Int32 × xM) ⊕ (xM)) := fun ⟨v4, M⟩ =>
(xck M v1 3).bind fun _ =>
(F_X3_cells v1 M).bind fun t7 =>
if t7.1 ≤ v4 then (
(F_X1_spreadOut_69 t7.2).map Sum.inr)
else (
if ((v3 >>> (v4 &&& 31)) &&& (1 : Int32)) = 0 then (
F_X1_spreadOut_63 v0 v1 v2 v3 v4 t7.2)
else (
(xck t7.2 v0 1).bind fun _ =>
(F_X1_enqueue v0 ((2 : Int32) * v4) (((2 : Int32) * v2) + (1 : Int32)) t7.2).bind fun t9 =>
F_X1_spreadOut_63 v0 v1 v2 v3 v4 t9))
def F_X1_spreadOut_32 (v0 : Nat) (v1 : Nat) (v2 : Int32) (v3 : Int32) (v4 : Int32) (M : xM) : Option (xM) := xit (F_X1_spreadOut_32b v0 v1 v2 v3) xFU (v4, M)
def F_X1_spreadOut_21 (v0 : Nat) (v1 : Nat) (v2 : Int32) (M : xM) : Option (xM) :=
(F_X8_besides v1 ((1 : Int32) <<< (v2 &&& 31)) M).bind fun t5 =>
F_X1_spreadOut_32 v0 v1 v2 t5.1 (0 : Int32) t5.2
def F_X1_spreadOut (a0 : Nat) (a1 : Nat) (a2 : Int32) (M : xM) : Option (xM) :=
(xgP M a0 1 1).bind fun t1 =>
(xaI M 20 t1 a2).bind fun t2 =>
if t2 ≤ 0 then (
F_X1_spreadOut_21 a0 a1 a2 M)
else (
(xck M a0 1).bind fun _ =>
(F_X1_enqueue a0 ((2 : Int32) * a2) (((2 : Int32) * a2) + (1 : Int32)) M).bind fun t4 =>
F_X1_spreadOut_21 a0 a1 a2 t4)
set_option maxRecDepth 100000 in
set_option maxHeartbeats 4000000 in
theorem F_X1_spreadOut_63_ok (X : xX p s m args c cX1_spreadOut 5 RX1 κ) (hr : meth.sig.returnType = none) (hlk : meth.locks = false) {mo : xM} (v0 : Nat) (v1 : Nat) (v2 : Int32) (v3 : Int32) (v4 : Int32) {W32 : Int32 × xM → Prop} (hW32 : ∀ (v4 : Int32) (M : xM), W32 (v4, M) → ∀ (H : Heap) (locs : List Loc) (ls : Array Slot), xO κ s M H locs → lv_has ls 5 [(0, .ref (κ.1 + v0)), (1, .ref (κ.1 + v1)), (2, .int v2), (3, .int v3), (4, .int v4)] → W p l e (xRm 3 0 0) s m args below meth c H locs 0 0 (xQf below args s 0 0 κ none mo) (F0 m 32 ls [])) (M : xM) (x : (Int32 × xM) ⊕ (xM)) (h : F_X1_spreadOut_63 v0 v1 v2 v3 v4 M = some x) (hK : (xKl W32 (fun o => o = mo)) x) (H : Heap) (locs : List Loc) (ls : Array Slot) (O : xO κ s M H locs) (hl : lv_has ls 5 [(0, .ref (κ.1 + v0)), (1, .ref (κ.1 + v1)), (2, .int v2), (3, .int v3), (4, .int v4)]) : W p l e (xRm 3 0 0) s m args below meth c H locs 0 0 (xQf below args s 0 0 κ none mo) (F0 m 63 ls []) := by
  unfold F_X1_spreadOut_63 at h
  have hx := X.1
  have hb := X.2.1
  refine lv_iinc (v := (v4 + 1)) (lv' := [(4, .int (v4 + 1)), (0, .ref (κ.1 + v0)), (1, .ref (κ.1 + v1)), (2, .int v2), (3, .int v3)]) hx hb dX1_spreadOut_63 hl (k := 4) rfl rfl (by decide) rfl (fun ls hl => ?_)
  refine lv_goto (tgt := 32) hx hb dX1_spreadOut_66 (by decide) ?_
  rw [← Option.some.inj h] at hK
  exact hW32 (v4 + 1) M hK H locs ls O (lv_sub hl [1, 2, 3, 4, 0] rfl)
set_option maxRecDepth 100000 in
set_option maxHeartbeats 4000000 in
theorem F_X1_spreadOut_69_ok (X : xX p s m args c cX1_spreadOut 5 RX1 κ) (hr : meth.sig.returnType = none) (hlk : meth.locks = false) {mo : xM} (M : xM) (x : xM) (h : F_X1_spreadOut_69 M = some x) (hK : (fun o => o = mo) x) (H : Heap) (locs : List Loc) (ls : Array Slot) (O : xO κ s M H locs) (hl : lv_has ls 5 []) : W p l e (xRm 3 0 0) s m args below meth c H locs 0 0 (xQf below args s 0 0 κ none mo) (F0 m 69 ls []) := by
  unfold F_X1_spreadOut_69 at h
  have hx := X.1
  have hb := X.2.1
  rw [← Option.some.inj h] at hK
  have hK : M = mo := hK
  rw [hK] at O
  exact xr_vret X hr hlk O dX1_spreadOut_69
set_option maxRecDepth 100000 in
set_option maxHeartbeats 4000000 in
theorem F_X1_spreadOut_32_bok (X : xX p s m args c cX1_spreadOut 5 RX1 κ) (hr : meth.sig.returnType = none) (hlk : meth.locks = false) {mo : xM} (v0 : Nat) (v1 : Nat) (v2 : Int32) (v3 : Int32) (v4 : Int32) {W32 : Int32 × xM → Prop} (hW32 : ∀ (v4 : Int32) (M : xM), W32 (v4, M) → ∀ (H : Heap) (locs : List Loc) (ls : Array Slot), xO κ s M H locs → lv_has ls 5 [(0, .ref (κ.1 + v0)), (1, .ref (κ.1 + v1)), (2, .int v2), (3, .int v3), (4, .int v4)] → W p l e (xRm 3 0 0) s m args below meth c H locs 0 0 (xQf below args s 0 0 κ none mo) (F0 m 32 ls [])) (M : xM) (x : (Int32 × xM) ⊕ (xM)) (h : F_X1_spreadOut_32b v0 v1 v2 v3 (v4, M) = some x) (hK : (xKl W32 (fun o => o = mo)) x) (H : Heap) (locs : List Loc) (ls : Array Slot) (O : xO κ s M H locs) (hl : lv_has ls 5 [(0, .ref (κ.1 + v0)), (1, .ref (κ.1 + v1)), (2, .int v2), (3, .int v3), (4, .int v4)]) : W p l e (xRm 3 0 0) s m args below meth c H locs 0 0 (xQf below args s 0 0 κ none mo) (F0 m 32 ls []) := by
  unfold F_X1_spreadOut_32b at h
  dsimp only at h
  have hx := X.1
  have hb := X.2.1
  refine lv_iload hx hb dX1_spreadOut_32 (lv_at hl 4 rfl) ?_
  refine lv_aload_n hx hb dX1_spreadOut_34 rfl (lv_at hl 1 rfl) ?_
  obtain ⟨_, hut6, h⟩ := Option.bind_eq_some_iff.mp h
  obtain ⟨t7, ht7, h⟩ := Option.bind_eq_some_iff.mp h
  refine xr_callV (rest := [.int v4]) X O (T_X3_cells l κ v1 M _ _ ht7) lk_X1_73 hut6 (Nat.le_of_ble_eq_true rfl) rfl hl.1 rfl (Nat.le_of_ble_eq_true rfl) dX1_spreadOut_35 ⟨Nat.le_of_ble_eq_true rfl, Nat.le_of_ble_eq_true rfl⟩ (fun H locs O => ?_)
  refine W.eq (g2 := F0 m 38 ls [.int t7.1, .int v4]) rfl ?_
  refine lv_icmp_ge (tgt := 69) hx hb dX1_spreadOut_38 (by decide) (fun hc38 => ?_) (fun hc38 => ?_)
  · rw [if_pos hc38] at h
    obtain ⟨_, hw0, ew0⟩ := Option.map_eq_some_iff.mp h
    rw [← ew0] at hK
    have h := hw0
    exact F_X1_spreadOut_69_ok X hr hlk  t7.2 _ h hK H locs ls O (lv_sub hl [] rfl)
  rw [if_neg hc38] at h
  refine lv_iload_n hx hb dX1_spreadOut_41 rfl (lv_at hl 3 rfl) ?_
  refine lv_iload hx hb dX1_spreadOut_42 (lv_at hl 4 rfl) ?_
  refine lv_ishr hx hb dX1_spreadOut_44 ?_
  refine lv_iconst (v := (1 : Int32)) hx hb dX1_spreadOut_45 (by decide) ?_
  refine lv_iand hx hb dX1_spreadOut_46 ?_
  refine lv_if_eq (tgt := 63) hx hb dX1_spreadOut_47 (by decide) (fun hc47 => ?_) (fun hc47 => ?_)
  · rw [if_pos hc47] at h
    exact F_X1_spreadOut_63_ok X hr hlk v0 v1 v2 v3 v4 hW32 t7.2 _ h hK H locs ls O (lv_sub hl [0, 1, 2, 3, 4] rfl)
  rw [if_neg hc47] at h
  refine lv_aload_n hx hb dX1_spreadOut_50 rfl (lv_at hl 0 rfl) ?_
  refine lv_iconst (v := (2 : Int32)) hx hb dX1_spreadOut_51 (by decide) ?_
  refine lv_iload hx hb dX1_spreadOut_52 (lv_at hl 4 rfl) ?_
  refine lv_imul hx hb dX1_spreadOut_54 ?_
  refine lv_iconst (v := (2 : Int32)) hx hb dX1_spreadOut_55 (by decide) ?_
  refine lv_iload_n hx hb dX1_spreadOut_56 rfl (lv_at hl 2 rfl) ?_
  refine lv_imul hx hb dX1_spreadOut_57 ?_
  refine lv_iconst (v := (1 : Int32)) hx hb dX1_spreadOut_58 (by decide) ?_
  refine lv_iadd hx hb dX1_spreadOut_59 ?_
  obtain ⟨_, hut8, h⟩ := Option.bind_eq_some_iff.mp h
  obtain ⟨t9, ht9, h⟩ := Option.bind_eq_some_iff.mp h
  refine xr_callV (rest := []) X O (T_X1_enqueue l κ v0 ((2 : Int32) * v4) (((2 : Int32) * v2) + (1 : Int32)) t7.2 _ ht9) lk_X1_56 hut8 (Nat.le_of_ble_eq_true rfl) rfl hl.1 rfl (Nat.le_of_ble_eq_true rfl) dX1_spreadOut_60 ⟨Nat.le_of_ble_eq_true rfl, Nat.le_of_ble_eq_true rfl⟩ (fun H locs O => ?_)
  refine W.eq (g2 := F0 m 63 ls []) rfl ?_
  exact F_X1_spreadOut_63_ok X hr hlk v0 v1 v2 v3 v4 hW32 t9 _ h hK H locs ls O (lv_sub hl [0, 1, 2, 3, 4] rfl)
set_option maxRecDepth 100000 in
set_option maxHeartbeats 4000000 in
theorem F_X1_spreadOut_32_ok (X : xX p s m args c cX1_spreadOut 5 RX1 κ) (hr : meth.sig.returnType = none) (hlk : meth.locks = false) {mo : xM} (v0 : Nat) (v1 : Nat) (v2 : Int32) (v3 : Int32) (v4 : Int32) (M : xM) (x : xM) (h : F_X1_spreadOut_32 v0 v1 v2 v3 v4 M = some x) (hK : (fun o => o = mo) x) (H : Heap) (locs : List Loc) (ls : Array Slot) (O : xO κ s M H locs) (hl : lv_has ls 5 [(0, .ref (κ.1 + v0)), (1, .ref (κ.1 + v1)), (2, .int v2), (3, .int v3), (4, .int v4)]) : W p l e (xRm 3 0 0) s m args below meth c H locs 0 0 (xQf below args s 0 0 κ none mo) (F0 m 32 ls []) := by
  refine xit_K (Wh := fun x => ∀ (H : Heap) (locs : List Loc) (ls : Array Slot), xO κ s x.2 H locs → lv_has ls 5 [(0, .ref (κ.1 + v0)), (1, .ref (κ.1 + v1)), (2, .int v2), (3, .int v3), (4, .int x.1)] → W p l e (xRm 3 0 0) s m args below meth c H locs 0 0 (xQf below args s 0 0 κ none mo) (F0 m 32 ls [])) (Kp := (fun o => o = mo)) ?_ xFU (v4, M) x h hK H locs ls O hl
  intro y x h hK H locs ls O hl
  exact F_X1_spreadOut_32_bok X hr hlk v0 v1 v2 v3 y.1 (fun _ _ hw => hw) y.2 x h hK H locs ls O hl
set_option maxRecDepth 100000 in
set_option maxHeartbeats 4000000 in
theorem F_X1_spreadOut_21_ok (X : xX p s m args c cX1_spreadOut 5 RX1 κ) (hr : meth.sig.returnType = none) (hlk : meth.locks = false) {mo : xM} (v0 : Nat) (v1 : Nat) (v2 : Int32) (M : xM) (x : xM) (h : F_X1_spreadOut_21 v0 v1 v2 M = some x) (hK : (fun o => o = mo) x) (H : Heap) (locs : List Loc) (ls : Array Slot) (O : xO κ s M H locs) (hl : lv_has ls 5 [(0, .ref (κ.1 + v0)), (1, .ref (κ.1 + v1)), (2, .int v2)]) : W p l e (xRm 3 0 0) s m args below meth c H locs 0 0 (xQf below args s 0 0 κ none mo) (F0 m 21 ls []) := by
  unfold F_X1_spreadOut_21 at h
  have hx := X.1
  have hb := X.2.1
  refine lv_aload_n hx hb dX1_spreadOut_21 rfl (lv_at hl 1 rfl) ?_
  refine lv_iconst (v := (1 : Int32)) hx hb dX1_spreadOut_22 (by decide) ?_
  refine lv_iload_n hx hb dX1_spreadOut_23 rfl (lv_at hl 2 rfl) ?_
  refine lv_ishl hx hb dX1_spreadOut_24 ?_
  obtain ⟨t5, ht5, h⟩ := Option.bind_eq_some_iff.mp h
  refine xr_callS (rest := []) X O (T_X8_besides l κ v1 ((1 : Int32) <<< (v2 &&& 31)) M _ _ ht5) lk_X1_67 (Nat.le_of_ble_eq_true rfl) rfl hl.1 rfl (Nat.le_of_ble_eq_true rfl) dX1_spreadOut_25 ⟨Nat.le_of_ble_eq_true rfl, Nat.le_of_ble_eq_true rfl⟩ (fun H locs O => ?_)
  refine W.eq (g2 := F0 m 28 ls [.int t5.1]) rfl ?_
  refine lv_istore_n (lv' := [(3, .int t5.1), (0, .ref (κ.1 + v0)), (1, .ref (κ.1 + v1)), (2, .int v2)]) hx hb dX1_spreadOut_28 rfl hl (by decide) rfl (fun ls hl => ?_)
  refine lv_iconst (v := (0 : Int32)) hx hb dX1_spreadOut_29 (by decide) ?_
  refine lv_istore (lv' := [(4, .int (0 : Int32)), (3, .int t5.1), (0, .ref (κ.1 + v0)), (1, .ref (κ.1 + v1)), (2, .int v2)]) hx hb dX1_spreadOut_30 hl (by decide) rfl (fun ls hl => ?_)
  exact F_X1_spreadOut_32_ok X hr hlk v0 v1 v2 t5.1 (0 : Int32) t5.2 _ h hK H locs ls O (lv_sub hl [2, 3, 4, 1, 0] rfl)
set_option maxRecDepth 100000 in
set_option maxHeartbeats 4000000 in
theorem T_X1_spreadOut (l : Launch) (κ : xQ) (a0 : Nat) (a1 : Nat) (a2 : Int32) (M : xM) (mo : xM) (h : F_X1_spreadOut a0 a1 a2 M = some mo) : xC l yX1_spreadOut cX1_spreadOut 5 none 3 0 0 κ [.ref (κ.1 + a0), .ref (κ.1 + a1), .int a2] M none mo := by
  refine xC_of rfl (Nat.le_of_ble_eq_true rfl) fun p e s m args below meth c X hr hlk hnm H locs ls O hl => ?_
  have X : xX p s m args c cX1_spreadOut 5 RX1 κ := X
  have hl : lv_has ls 5 [(0, .ref (κ.1 + a0)), (1, .ref (κ.1 + a1)), (2, .int a2)] := hl
  have hx := X.1
  have hb := X.2.1
  obtain ⟨x, hx0⟩ : ∃ x, mo = x := ⟨_, rfl⟩
  rw [hx0] at h
  have hK : x = mo := hx0.symm
  unfold F_X1_spreadOut at h
  refine lv_aload_n hx hb dX1_spreadOut_0 rfl (lv_at hl 0 rfl) ?_
  obtain ⟨t1, ht1, h⟩ := Option.bind_eq_some_iff.mp h
  refine xr_getP X O ht1 fl_X1_15 dX1_spreadOut_1 ?_
  refine lv_iload_n hx hb dX1_spreadOut_4 rfl (lv_at hl 2 rfl) ?_
  obtain ⟨t2, ht2, h⟩ := Option.bind_eq_some_iff.mp h
  refine xr_aldI X O ht2 dX1_spreadOut_5 ?_
  refine lv_if_le (tgt := 21) hx hb dX1_spreadOut_6 (by decide) (fun hc6 => ?_) (fun hc6 => ?_)
  · rw [if_pos hc6] at h
    exact F_X1_spreadOut_21_ok X hr hlk a0 a1 a2 M _ h hK H locs ls O (lv_sub hl [0, 1, 2] rfl)
  rw [if_neg hc6] at h
  refine lv_aload_n hx hb dX1_spreadOut_9 rfl (lv_at hl 0 rfl) ?_
  refine lv_iconst (v := (2 : Int32)) hx hb dX1_spreadOut_10 (by decide) ?_
  refine lv_iload_n hx hb dX1_spreadOut_11 rfl (lv_at hl 2 rfl) ?_
  refine lv_imul hx hb dX1_spreadOut_12 ?_
  refine lv_iconst (v := (2 : Int32)) hx hb dX1_spreadOut_13 (by decide) ?_
  refine lv_iload_n hx hb dX1_spreadOut_14 rfl (lv_at hl 2 rfl) ?_
  refine lv_imul hx hb dX1_spreadOut_15 ?_
  refine lv_iconst (v := (1 : Int32)) hx hb dX1_spreadOut_16 (by decide) ?_
  refine lv_iadd hx hb dX1_spreadOut_17 ?_
  obtain ⟨_, hut3, h⟩ := Option.bind_eq_some_iff.mp h
  obtain ⟨t4, ht4, h⟩ := Option.bind_eq_some_iff.mp h
  refine xr_callV (rest := []) X O (T_X1_enqueue l κ a0 ((2 : Int32) * a2) (((2 : Int32) * a2) + (1 : Int32)) M _ ht4) lk_X1_56 hut3 (Nat.le_of_ble_eq_true rfl) rfl hl.1 rfl (Nat.le_of_ble_eq_true rfl) dX1_spreadOut_18 ⟨Nat.le_of_ble_eq_true rfl, Nat.le_of_ble_eq_true rfl⟩ (fun H locs O => ?_)
  refine W.eq (g2 := F0 m 21 ls []) rfl ?_
  exact F_X1_spreadOut_21_ok X hr hlk a0 a1 a2 t4 _ h hK H locs ls O (lv_sub hl [0, 1, 2] rfl)
def F_X1_reaches_95 (v0 : Nat) (v1 : Nat) (v2 : Int32) (v3 : Int32) (M : xM) : Option ((Int32 × xM) ⊕ (Int32 × xM)) :=
some (.inl ((v3 + 1), M))
def F_X1_reaches_101 (v0 : Nat) (v2 : Int32) (M : xM) : Option (Int32 × xM) :=
(xgP M v0 1 3).bind fun t18 =>
(xaI M 20 t18 (((2 : Int32) * v2) + (1 : Int32))).bind fun t19 =>
if t19 = (-1 : Int32) then (
(xz (0 : Int32)).bind fun t20 =>
some (t20, M))
else (
(xz (1 : Int32)).bind fun t21 =>
some (t21, M))
def F_X1_reaches_41b (v0 : Nat) (v1 : Nat) (v2 : Int32) : (Int32 × xM) → Option ((Int32 × xM) ⊕ (Int32 × xM)) := fun ⟨v3, M⟩ =>
if (50 : Int32) ≤ v3 then (
(F_X1_reaches_101 v0 v2 M).map Sum.inr)
else (
(xgI M v0 1 5).bind fun t7 =>
if t7 ≤ v3 then (
(F_X1_reaches_101 v0 v2 M).map Sum.inr)
else (
(xgP M v0 1 4).bind fun t8 =>
(xaI M 20 t8 v3).bind fun t9 =>
if (t9 - t9 / (2 : Int32) * (2 : Int32)) = 0 then (
(xgP M v0 1 4).bind fun t14 =>
(xaI M 20 t14 v3).bind fun t15 =>
(xck M v0 1).bind fun _ =>
(F_X1_spreadIn v0 v1 (t15 / (2 : Int32)) M).bind fun t17 =>
F_X1_reaches_95 v0 v1 v2 v3 t17)
else (
(xgP M v0 1 4).bind fun t10 =>
(xaI M 20 t10 v3).bind fun t11 =>
(xck M v0 1).bind fun _ =>
(F_X1_spreadOut v0 v1 (t11 / (2 : Int32)) M).bind fun t13 =>
F_X1_reaches_95 v0 v1 v2 v3 t13)))
def F_X1_reaches_41 (v0 : Nat) (v1 : Nat) (v2 : Int32) (v3 : Int32) (M : xM) : Option (Int32 × xM) := xit (F_X1_reaches_41b v0 v1 v2) xFU (v3, M)
def F_X1_reaches_39 (v0 : Nat) (v1 : Nat) (v2 : Int32) (M : xM) : Option (Int32 × xM) :=
F_X1_reaches_41 v0 v1 v2 (0 : Int32) M
def F_X1_reaches_15b (v0 : Nat) (v1 : Nat) (v2 : Int32) : (Int32 × xM) → Option ((Int32 × xM) ⊕ (Int32 × xM)) := fun ⟨v3, M⟩ =>
(xgI M v1 3 1).bind fun t4 =>
if t4 ≤ v3 then (
(F_X1_reaches_39 v0 v1 v2 M).map Sum.inr)
else (
(xck M v0 1).bind fun _ =>
(F_X1_enqueue v0 ((2 : Int32) * v3) ((2 : Int32) * v3) M).bind fun t6 =>
some (.inl ((v3 + 1), t6)))
def F_X1_reaches_15 (v0 : Nat) (v1 : Nat) (v2 : Int32) (v3 : Int32) (M : xM) : Option (Int32 × xM) := xit (F_X1_reaches_15b v0 v1 v2) xFU (v3, M)
def F_X1_reaches (a0 : Nat) (a1 : Nat) (a2 : Int32) (M : xM) : Option (Int32 × xM) :=
(xgP M a0 1 3).bind fun t1 =>
(F_J7_fill_53178 t1 (-1 : Int32) M).bind fun t2 =>
(xpI t2 a0 1 5 (0 : Int32)).bind fun t3 =>
F_X1_reaches_15 a0 a1 a2 (0 : Int32) t3
set_option maxRecDepth 100000 in
set_option maxHeartbeats 4000000 in
theorem F_X1_reaches_95_ok (X : xX p s m args c cX1_reaches 4 RX1 κ) (hr : meth.sig.returnType = (some .boolean)) (hlk : meth.locks = false) {ro : Int32} {mo : xM} (v0 : Nat) (v1 : Nat) (v2 : Int32) (v3 : Int32) {W41 : Int32 × xM → Prop} (hW41 : ∀ (v3 : Int32) (M : xM), W41 (v3, M) → ∀ (H : Heap) (locs : List Loc) (ls : Array Slot), xO κ s M H locs → lv_has ls 4 [(0, .ref (κ.1 + v0)), (1, .ref (κ.1 + v1)), (2, .int v2), (3, .int v3)] → W p l e (xRm 4 0 0) s m args below meth c H locs 0 0 (xQf below args s 0 0 κ (some (.int ro)) mo) (F0 m 41 ls [])) (M : xM) (x : (Int32 × xM) ⊕ (Int32 × xM)) (h : F_X1_reaches_95 v0 v1 v2 v3 M = some x) (hK : (xKl W41 (fun o => o = (ro, mo))) x) (H : Heap) (locs : List Loc) (ls : Array Slot) (O : xO κ s M H locs) (hl : lv_has ls 4 [(0, .ref (κ.1 + v0)), (1, .ref (κ.1 + v1)), (2, .int v2), (3, .int v3)]) : W p l e (xRm 4 0 0) s m args below meth c H locs 0 0 (xQf below args s 0 0 κ (some (.int ro)) mo) (F0 m 95 ls []) := by
  unfold F_X1_reaches_95 at h
  have hx := X.1
  have hb := X.2.1
  refine lv_iinc (v := (v3 + 1)) (lv' := [(3, .int (v3 + 1)), (0, .ref (κ.1 + v0)), (1, .ref (κ.1 + v1)), (2, .int v2)]) hx hb dX1_reaches_95 hl (k := 3) rfl rfl (by decide) rfl (fun ls hl => ?_)
  refine lv_goto (tgt := 41) hx hb dX1_reaches_98 (by decide) ?_
  rw [← Option.some.inj h] at hK
  exact hW41 (v3 + 1) M hK H locs ls O (lv_sub hl [1, 2, 3, 0] rfl)
set_option maxRecDepth 100000 in
set_option maxHeartbeats 4000000 in
theorem F_X1_reaches_101_ok (X : xX p s m args c cX1_reaches 4 RX1 κ) (hr : meth.sig.returnType = (some .boolean)) (hlk : meth.locks = false) {ro : Int32} {mo : xM} (v0 : Nat) (v2 : Int32) (M : xM) (x : Int32 × xM) (h : F_X1_reaches_101 v0 v2 M = some x) (hK : (fun o => o = (ro, mo)) x) (H : Heap) (locs : List Loc) (ls : Array Slot) (O : xO κ s M H locs) (hl : lv_has ls 4 [(0, .ref (κ.1 + v0)), (2, .int v2)]) : W p l e (xRm 4 0 0) s m args below meth c H locs 0 0 (xQf below args s 0 0 κ (some (.int ro)) mo) (F0 m 101 ls []) := by
  unfold F_X1_reaches_101 at h
  have hx := X.1
  have hb := X.2.1
  refine lv_aload_n hx hb dX1_reaches_101 rfl (lv_at hl 0 rfl) ?_
  obtain ⟨t18, ht18, h⟩ := Option.bind_eq_some_iff.mp h
  refine xr_getP X O ht18 fl_X1_21 dX1_reaches_102 ?_
  refine lv_iconst (v := (2 : Int32)) hx hb dX1_reaches_105 (by decide) ?_
  refine lv_iload_n hx hb dX1_reaches_106 rfl (lv_at hl 1 rfl) ?_
  refine lv_imul hx hb dX1_reaches_107 ?_
  refine lv_iconst (v := (1 : Int32)) hx hb dX1_reaches_108 (by decide) ?_
  refine lv_iadd hx hb dX1_reaches_109 ?_
  obtain ⟨t19, ht19, h⟩ := Option.bind_eq_some_iff.mp h
  refine xr_aldI X O ht19 dX1_reaches_110 ?_
  refine lv_iconst (v := (-1 : Int32)) hx hb dX1_reaches_111 (by decide) ?_
  refine lv_icmp_eq (tgt := 119) hx hb dX1_reaches_112 (by decide) (fun hc112 => ?_) (fun hc112 => ?_)
  · rw [if_pos hc112] at h
    refine lv_iconst (v := (0 : Int32)) hx hb dX1_reaches_119 (by decide) ?_
    obtain ⟨t20, ht20, h⟩ := Option.bind_eq_some_iff.mp h
    rw [← Option.some.inj h] at hK
    have hK : (t20, M) = (ro, mo) := hK
    obtain ⟨hK1, hK2⟩ := Prod.mk.inj hK
    rw [hK1] at ht20
    rw [hK2] at O
    exact xr_zret X hr hlk O ht20 dX1_reaches_120
  rw [if_neg hc112] at h
  refine lv_iconst (v := (1 : Int32)) hx hb dX1_reaches_115 (by decide) ?_
  refine lv_goto (tgt := 120) hx hb dX1_reaches_116 (by decide) ?_
  obtain ⟨t21, ht21, h⟩ := Option.bind_eq_some_iff.mp h
  rw [← Option.some.inj h] at hK
  have hK : (t21, M) = (ro, mo) := hK
  obtain ⟨hK1, hK2⟩ := Prod.mk.inj hK
  rw [hK1] at ht21
  rw [hK2] at O
  exact xr_zret X hr hlk O ht21 dX1_reaches_120
set_option maxRecDepth 100000 in
set_option maxHeartbeats 4000000 in
theorem F_X1_reaches_41_bok (X : xX p s m args c cX1_reaches 4 RX1 κ) (hr : meth.sig.returnType = (some .boolean)) (hlk : meth.locks = false) {ro : Int32} {mo : xM} (v0 : Nat) (v1 : Nat) (v2 : Int32) (v3 : Int32) {W41 : Int32 × xM → Prop} (hW41 : ∀ (v3 : Int32) (M : xM), W41 (v3, M) → ∀ (H : Heap) (locs : List Loc) (ls : Array Slot), xO κ s M H locs → lv_has ls 4 [(0, .ref (κ.1 + v0)), (1, .ref (κ.1 + v1)), (2, .int v2), (3, .int v3)] → W p l e (xRm 4 0 0) s m args below meth c H locs 0 0 (xQf below args s 0 0 κ (some (.int ro)) mo) (F0 m 41 ls [])) (M : xM) (x : (Int32 × xM) ⊕ (Int32 × xM)) (h : F_X1_reaches_41b v0 v1 v2 (v3, M) = some x) (hK : (xKl W41 (fun o => o = (ro, mo))) x) (H : Heap) (locs : List Loc) (ls : Array Slot) (O : xO κ s M H locs) (hl : lv_has ls 4 [(0, .ref (κ.1 + v0)), (1, .ref (κ.1 + v1)), (2, .int v2), (3, .int v3)]) : W p l e (xRm 4 0 0) s m args below meth c H locs 0 0 (xQf below args s 0 0 κ (some (.int ro)) mo) (F0 m 41 ls []) := by
  unfold F_X1_reaches_41b at h
  dsimp only at h
  have hx := X.1
  have hb := X.2.1
  refine lv_iload_n hx hb dX1_reaches_41 rfl (lv_at hl 3 rfl) ?_
  refine lv_bipush (v := (50 : Int32)) hx hb dX1_reaches_42 (by decide) ?_
  refine lv_icmp_ge (tgt := 101) hx hb dX1_reaches_44 (by decide) (fun hc44 => ?_) (fun hc44 => ?_)
  · rw [if_pos hc44] at h
    obtain ⟨_, hw0, ew0⟩ := Option.map_eq_some_iff.mp h
    rw [← ew0] at hK
    have h := hw0
    exact F_X1_reaches_101_ok X hr hlk v0 v2 M _ h hK H locs ls O (lv_sub hl [0, 2] rfl)
  rw [if_neg hc44] at h
  refine lv_iload_n hx hb dX1_reaches_47 rfl (lv_at hl 3 rfl) ?_
  refine lv_aload_n hx hb dX1_reaches_48 rfl (lv_at hl 0 rfl) ?_
  obtain ⟨t7, ht7, h⟩ := Option.bind_eq_some_iff.mp h
  refine xr_getI X O ht7 fl_X1_47 (Or.inl rfl) dX1_reaches_49 ?_
  refine lv_icmp_ge (tgt := 101) hx hb dX1_reaches_52 (by decide) (fun hc52 => ?_) (fun hc52 => ?_)
  · rw [if_pos hc52] at h
    obtain ⟨_, hw0, ew0⟩ := Option.map_eq_some_iff.mp h
    rw [← ew0] at hK
    have h := hw0
    exact F_X1_reaches_101_ok X hr hlk v0 v2 M _ h hK H locs ls O (lv_sub hl [0, 2] rfl)
  rw [if_neg hc52] at h
  refine lv_aload_n hx hb dX1_reaches_55 rfl (lv_at hl 0 rfl) ?_
  obtain ⟨t8, ht8, h⟩ := Option.bind_eq_some_iff.mp h
  refine xr_getP X O ht8 fl_X1_24 dX1_reaches_56 ?_
  refine lv_iload_n hx hb dX1_reaches_59 rfl (lv_at hl 3 rfl) ?_
  obtain ⟨t9, ht9, h⟩ := Option.bind_eq_some_iff.mp h
  refine xr_aldI X O ht9 dX1_reaches_60 ?_
  refine lv_iconst (v := (2 : Int32)) hx hb dX1_reaches_61 (by decide) ?_
  refine lv_irem hx hb dX1_reaches_62 (by decide) ?_
  refine lv_if_ne (tgt := 82) hx hb dX1_reaches_63 (by decide) (fun hc63 => ?_) (fun hc63 => ?_)
  · rw [if_neg hc63] at h
    refine lv_aload_n hx hb dX1_reaches_82 rfl (lv_at hl 0 rfl) ?_
    refine lv_aload_n hx hb dX1_reaches_83 rfl (lv_at hl 1 rfl) ?_
    refine lv_aload_n hx hb dX1_reaches_84 rfl (lv_at hl 0 rfl) ?_
    obtain ⟨t10, ht10, h⟩ := Option.bind_eq_some_iff.mp h
    refine xr_getP X O ht10 fl_X1_24 dX1_reaches_85 ?_
    refine lv_iload_n hx hb dX1_reaches_88 rfl (lv_at hl 3 rfl) ?_
    obtain ⟨t11, ht11, h⟩ := Option.bind_eq_some_iff.mp h
    refine xr_aldI X O ht11 dX1_reaches_89 ?_
    refine lv_iconst (v := (2 : Int32)) hx hb dX1_reaches_90 (by decide) ?_
    refine lv_idiv hx hb dX1_reaches_91 (by decide) ?_
    obtain ⟨_, hut12, h⟩ := Option.bind_eq_some_iff.mp h
    obtain ⟨t13, ht13, h⟩ := Option.bind_eq_some_iff.mp h
    refine xr_callV (rest := []) X O (T_X1_spreadOut l κ v0 v1 (t11 / (2 : Int32)) M _ ht13) lk_X1_64 hut12 (Nat.le_of_ble_eq_true rfl) rfl hl.1 rfl (Nat.le_of_ble_eq_true rfl) dX1_reaches_92 ⟨Nat.le_of_ble_eq_true rfl, Nat.le_of_ble_eq_true rfl⟩ (fun H locs O => ?_)
    refine W.eq (g2 := F0 m 95 ls []) rfl ?_
    exact F_X1_reaches_95_ok X hr hlk v0 v1 v2 v3 hW41 t13 _ h hK H locs ls O (lv_sub hl [0, 1, 2, 3] rfl)
  rw [if_pos hc63] at h
  refine lv_aload_n hx hb dX1_reaches_66 rfl (lv_at hl 0 rfl) ?_
  refine lv_aload_n hx hb dX1_reaches_67 rfl (lv_at hl 1 rfl) ?_
  refine lv_aload_n hx hb dX1_reaches_68 rfl (lv_at hl 0 rfl) ?_
  obtain ⟨t14, ht14, h⟩ := Option.bind_eq_some_iff.mp h
  refine xr_getP X O ht14 fl_X1_24 dX1_reaches_69 ?_
  refine lv_iload_n hx hb dX1_reaches_72 rfl (lv_at hl 3 rfl) ?_
  obtain ⟨t15, ht15, h⟩ := Option.bind_eq_some_iff.mp h
  refine xr_aldI X O ht15 dX1_reaches_73 ?_
  refine lv_iconst (v := (2 : Int32)) hx hb dX1_reaches_74 (by decide) ?_
  refine lv_idiv hx hb dX1_reaches_75 (by decide) ?_
  obtain ⟨_, hut16, h⟩ := Option.bind_eq_some_iff.mp h
  obtain ⟨t17, ht17, h⟩ := Option.bind_eq_some_iff.mp h
  refine xr_callV (rest := []) X O (T_X1_spreadIn l κ v0 v1 (t15 / (2 : Int32)) M _ ht17) lk_X1_60 hut16 (Nat.le_of_ble_eq_true rfl) rfl hl.1 rfl (Nat.le_of_ble_eq_true rfl) dX1_reaches_76 ⟨Nat.le_of_ble_eq_true rfl, Nat.le_of_ble_eq_true rfl⟩ (fun H locs O => ?_)
  refine W.eq (g2 := F0 m 79 ls []) rfl ?_
  refine lv_goto (tgt := 95) hx hb dX1_reaches_79 (by decide) ?_
  exact F_X1_reaches_95_ok X hr hlk v0 v1 v2 v3 hW41 t17 _ h hK H locs ls O (lv_sub hl [0, 1, 2, 3] rfl)
set_option maxRecDepth 100000 in
set_option maxHeartbeats 4000000 in
theorem F_X1_reaches_41_ok (X : xX p s m args c cX1_reaches 4 RX1 κ) (hr : meth.sig.returnType = (some .boolean)) (hlk : meth.locks = false) {ro : Int32} {mo : xM} (v0 : Nat) (v1 : Nat) (v2 : Int32) (v3 : Int32) (M : xM) (x : Int32 × xM) (h : F_X1_reaches_41 v0 v1 v2 v3 M = some x) (hK : (fun o => o = (ro, mo)) x) (H : Heap) (locs : List Loc) (ls : Array Slot) (O : xO κ s M H locs) (hl : lv_has ls 4 [(0, .ref (κ.1 + v0)), (1, .ref (κ.1 + v1)), (2, .int v2), (3, .int v3)]) : W p l e (xRm 4 0 0) s m args below meth c H locs 0 0 (xQf below args s 0 0 κ (some (.int ro)) mo) (F0 m 41 ls []) := by
  refine xit_K (Wh := fun x => ∀ (H : Heap) (locs : List Loc) (ls : Array Slot), xO κ s x.2 H locs → lv_has ls 4 [(0, .ref (κ.1 + v0)), (1, .ref (κ.1 + v1)), (2, .int v2), (3, .int x.1)] → W p l e (xRm 4 0 0) s m args below meth c H locs 0 0 (xQf below args s 0 0 κ (some (.int ro)) mo) (F0 m 41 ls [])) (Kp := (fun o => o = (ro, mo))) ?_ xFU (v3, M) x h hK H locs ls O hl
  intro y x h hK H locs ls O hl
  exact F_X1_reaches_41_bok X hr hlk v0 v1 v2 y.1 (fun _ _ hw => hw) y.2 x h hK H locs ls O hl
set_option maxRecDepth 100000 in
set_option maxHeartbeats 4000000 in
theorem F_X1_reaches_39_ok (X : xX p s m args c cX1_reaches 4 RX1 κ) (hr : meth.sig.returnType = (some .boolean)) (hlk : meth.locks = false) {ro : Int32} {mo : xM} (v0 : Nat) (v1 : Nat) (v2 : Int32) (M : xM) (x : Int32 × xM) (h : F_X1_reaches_39 v0 v1 v2 M = some x) (hK : (fun o => o = (ro, mo)) x) (H : Heap) (locs : List Loc) (ls : Array Slot) (O : xO κ s M H locs) (hl : lv_has ls 4 [(0, .ref (κ.1 + v0)), (1, .ref (κ.1 + v1)), (2, .int v2)]) : W p l e (xRm 4 0 0) s m args below meth c H locs 0 0 (xQf below args s 0 0 κ (some (.int ro)) mo) (F0 m 39 ls []) := by
  unfold F_X1_reaches_39 at h
  have hx := X.1
  have hb := X.2.1
  refine lv_iconst (v := (0 : Int32)) hx hb dX1_reaches_39 (by decide) ?_
  refine lv_istore_n (lv' := [(3, .int (0 : Int32)), (0, .ref (κ.1 + v0)), (1, .ref (κ.1 + v1)), (2, .int v2)]) hx hb dX1_reaches_40 rfl hl (by decide) rfl (fun ls hl => ?_)
  exact F_X1_reaches_41_ok X hr hlk v0 v1 v2 (0 : Int32) M _ h hK H locs ls O (lv_sub hl [1, 2, 3, 0] rfl)
set_option maxRecDepth 100000 in
set_option maxHeartbeats 4000000 in
theorem F_X1_reaches_15_bok (X : xX p s m args c cX1_reaches 4 RX1 κ) (hr : meth.sig.returnType = (some .boolean)) (hlk : meth.locks = false) {ro : Int32} {mo : xM} (v0 : Nat) (v1 : Nat) (v2 : Int32) (v3 : Int32) {W15 : Int32 × xM → Prop} (hW15 : ∀ (v3 : Int32) (M : xM), W15 (v3, M) → ∀ (H : Heap) (locs : List Loc) (ls : Array Slot), xO κ s M H locs → lv_has ls 4 [(0, .ref (κ.1 + v0)), (1, .ref (κ.1 + v1)), (2, .int v2), (3, .int v3)] → W p l e (xRm 4 0 0) s m args below meth c H locs 0 0 (xQf below args s 0 0 κ (some (.int ro)) mo) (F0 m 15 ls [])) (M : xM) (x : (Int32 × xM) ⊕ (Int32 × xM)) (h : F_X1_reaches_15b v0 v1 v2 (v3, M) = some x) (hK : (xKl W15 (fun o => o = (ro, mo))) x) (H : Heap) (locs : List Loc) (ls : Array Slot) (O : xO κ s M H locs) (hl : lv_has ls 4 [(0, .ref (κ.1 + v0)), (1, .ref (κ.1 + v1)), (2, .int v2), (3, .int v3)]) : W p l e (xRm 4 0 0) s m args below meth c H locs 0 0 (xQf below args s 0 0 κ (some (.int ro)) mo) (F0 m 15 ls []) := by
  unfold F_X1_reaches_15b at h
  dsimp only at h
  have hx := X.1
  have hb := X.2.1
  refine lv_iload_n hx hb dX1_reaches_15 rfl (lv_at hl 3 rfl) ?_
  refine lv_aload_n hx hb dX1_reaches_16 rfl (lv_at hl 1 rfl) ?_
  obtain ⟨t4, ht4, h⟩ := Option.bind_eq_some_iff.mp h
  refine xr_getI X O ht4 fl_X1_51 (Or.inl rfl) dX1_reaches_17 ?_
  refine lv_icmp_ge (tgt := 39) hx hb dX1_reaches_20 (by decide) (fun hc20 => ?_) (fun hc20 => ?_)
  · rw [if_pos hc20] at h
    obtain ⟨_, hw0, ew0⟩ := Option.map_eq_some_iff.mp h
    rw [← ew0] at hK
    have h := hw0
    exact F_X1_reaches_39_ok X hr hlk v0 v1 v2 M _ h hK H locs ls O (lv_sub hl [0, 1, 2] rfl)
  rw [if_neg hc20] at h
  refine lv_aload_n hx hb dX1_reaches_23 rfl (lv_at hl 0 rfl) ?_
  refine lv_iconst (v := (2 : Int32)) hx hb dX1_reaches_24 (by decide) ?_
  refine lv_iload_n hx hb dX1_reaches_25 rfl (lv_at hl 3 rfl) ?_
  refine lv_imul hx hb dX1_reaches_26 ?_
  refine lv_iconst (v := (2 : Int32)) hx hb dX1_reaches_27 (by decide) ?_
  refine lv_iload_n hx hb dX1_reaches_28 rfl (lv_at hl 3 rfl) ?_
  refine lv_imul hx hb dX1_reaches_29 ?_
  obtain ⟨_, hut5, h⟩ := Option.bind_eq_some_iff.mp h
  obtain ⟨t6, ht6, h⟩ := Option.bind_eq_some_iff.mp h
  refine xr_callV (rest := []) X O (T_X1_enqueue l κ v0 ((2 : Int32) * v3) ((2 : Int32) * v3) M _ ht6) lk_X1_56 hut5 (Nat.le_of_ble_eq_true rfl) rfl hl.1 rfl (Nat.le_of_ble_eq_true rfl) dX1_reaches_30 ⟨Nat.le_of_ble_eq_true rfl, Nat.le_of_ble_eq_true rfl⟩ (fun H locs O => ?_)
  refine W.eq (g2 := F0 m 33 ls []) rfl ?_
  refine lv_iinc (v := (v3 + 1)) (lv' := [(3, .int (v3 + 1)), (0, .ref (κ.1 + v0)), (1, .ref (κ.1 + v1)), (2, .int v2)]) hx hb dX1_reaches_33 hl (k := 3) rfl rfl (by decide) rfl (fun ls hl => ?_)
  refine lv_goto (tgt := 15) hx hb dX1_reaches_36 (by decide) ?_
  rw [← Option.some.inj h] at hK
  exact hW15 (v3 + 1) t6 hK H locs ls O (lv_sub hl [1, 2, 3, 0] rfl)
set_option maxRecDepth 100000 in
set_option maxHeartbeats 4000000 in
theorem F_X1_reaches_15_ok (X : xX p s m args c cX1_reaches 4 RX1 κ) (hr : meth.sig.returnType = (some .boolean)) (hlk : meth.locks = false) {ro : Int32} {mo : xM} (v0 : Nat) (v1 : Nat) (v2 : Int32) (v3 : Int32) (M : xM) (x : Int32 × xM) (h : F_X1_reaches_15 v0 v1 v2 v3 M = some x) (hK : (fun o => o = (ro, mo)) x) (H : Heap) (locs : List Loc) (ls : Array Slot) (O : xO κ s M H locs) (hl : lv_has ls 4 [(0, .ref (κ.1 + v0)), (1, .ref (κ.1 + v1)), (2, .int v2), (3, .int v3)]) : W p l e (xRm 4 0 0) s m args below meth c H locs 0 0 (xQf below args s 0 0 κ (some (.int ro)) mo) (F0 m 15 ls []) := by
  refine xit_K (Wh := fun x => ∀ (H : Heap) (locs : List Loc) (ls : Array Slot), xO κ s x.2 H locs → lv_has ls 4 [(0, .ref (κ.1 + v0)), (1, .ref (κ.1 + v1)), (2, .int v2), (3, .int x.1)] → W p l e (xRm 4 0 0) s m args below meth c H locs 0 0 (xQf below args s 0 0 κ (some (.int ro)) mo) (F0 m 15 ls [])) (Kp := (fun o => o = (ro, mo))) ?_ xFU (v3, M) x h hK H locs ls O hl
  intro y x h hK H locs ls O hl
  exact F_X1_reaches_15_bok X hr hlk v0 v1 v2 y.1 (fun _ _ hw => hw) y.2 x h hK H locs ls O hl
set_option maxRecDepth 100000 in
set_option maxHeartbeats 4000000 in
theorem T_X1_reaches (l : Launch) (κ : xQ) (a0 : Nat) (a1 : Nat) (a2 : Int32) (M : xM) (ro : Int32) (mo : xM) (h : F_X1_reaches a0 a1 a2 M = some (ro, mo)) : xC l yX1_reaches cX1_reaches 4 (some .boolean) 4 0 0 κ [.ref (κ.1 + a0), .ref (κ.1 + a1), .int a2] M (some (.int ro)) mo := by
  refine xC_of rfl (Nat.le_of_ble_eq_true rfl) fun p e s m args below meth c X hr hlk hnm H locs ls O hl => ?_
  have X : xX p s m args c cX1_reaches 4 RX1 κ := X
  have hl : lv_has ls 4 [(0, .ref (κ.1 + a0)), (1, .ref (κ.1 + a1)), (2, .int a2)] := hl
  have hx := X.1
  have hb := X.2.1
  obtain ⟨x, hx0⟩ : ∃ x, (ro, mo) = x := ⟨_, rfl⟩
  rw [hx0] at h
  have hK : x = (ro, mo) := hx0.symm
  unfold F_X1_reaches at h
  refine lv_aload_n hx hb dX1_reaches_0 rfl (lv_at hl 0 rfl) ?_
  obtain ⟨t1, ht1, h⟩ := Option.bind_eq_some_iff.mp h
  refine xr_getP X O ht1 fl_X1_21 dX1_reaches_1 ?_
  refine lv_iconst (v := (-1 : Int32)) hx hb dX1_reaches_4 (by decide) ?_
  obtain ⟨t2, ht2, h⟩ := Option.bind_eq_some_iff.mp h
  refine xr_callS (rest := []) X O (T_J7_fill_53178 l κ t1 (-1 : Int32) M _ ht2) lk_X1_33 (Nat.le_of_ble_eq_true rfl) rfl hl.1 rfl (Nat.le_of_ble_eq_true rfl) dX1_reaches_5 ⟨Nat.le_of_ble_eq_true rfl, Nat.le_of_ble_eq_true rfl⟩ (fun H locs O => ?_)
  refine W.eq (g2 := F0 m 8 ls []) rfl ?_
  refine lv_aload_n hx hb dX1_reaches_8 rfl (lv_at hl 0 rfl) ?_
  refine lv_iconst (v := (0 : Int32)) hx hb dX1_reaches_9 (by decide) ?_
  obtain ⟨t3, ht3, h⟩ := Option.bind_eq_some_iff.mp h
  refine xr_putI X O ht3 fl_X1_47 dX1_reaches_10 (fun H locs O => ?_)
  refine lv_iconst (v := (0 : Int32)) hx hb dX1_reaches_13 (by decide) ?_
  refine lv_istore_n (lv' := [(3, .int (0 : Int32)), (0, .ref (κ.1 + a0)), (1, .ref (κ.1 + a1)), (2, .int a2)]) hx hb dX1_reaches_14 rfl hl (by decide) rfl (fun ls hl => ?_)
  exact F_X1_reaches_15_ok X hr hlk a0 a1 a2 (0 : Int32) t3 _ h hK H locs ls O (lv_sub hl [1, 2, 3, 0] rfl)
def F_X1_widen_126 (v0 : Nat) (v3 : Int32) (v4 : Int32) (M : xM) : Option ((Int32 × Int32 × xM) ⊕ (xM)) :=
some (.inl (v4, (v3 + 1), M))
def F_X1_widen_76 (v0 : Nat) (v3 : Int32) (v4 : Int32) (s0 : Int32) (s1 : Int32) (s2 : Int32) (s3 : Nat) (M : xM) : Option ((Int32 × Int32 × xM) ⊕ (xM)) :=
(xsI M s3 s2 (s1 + s0)).bind fun t17 =>
F_X1_widen_126 v0 v3 v4 t17
def F_X1_widen_135 (M : xM) : Option (xM) :=
some M
def F_X1_widen_4b (v0 : Nat) : (Int32 × Int32 × xM) → Option ((Int32 × Int32 × xM) ⊕ (xM)) := fun ⟨v2, v3, M⟩ =>
if (50 : Int32) ≤ v3 then (
(F_X1_widen_135 M).map Sum.inr)
else (
(xgP M v0 1 3).bind fun t1 =>
(xaI M 20 t1 v2).bind fun t2 =>
if t2 = v2 then (
(F_X1_widen_135 M).map Sum.inr)
else (
(xgP M v0 1 3).bind fun t3 =>
(xaI M 20 t3 v2).bind fun t4 =>
if t4 = (-1 : Int32) then (
(F_X1_widen_135 M).map Sum.inr)
else (
(xgP M v0 1 3).bind fun t5 =>
(xaI M 20 t5 v2).bind fun t6 =>
(some ((t6 / (2 : Int32)))).bind fun t7 =>
(some ((v2 / (2 : Int32)))).bind fun t8 =>
if t7 = t8 then (
(xgP M v0 1 1).bind fun t15 =>
(xaI M 20 t15 t7).bind fun t16 =>
if (t6 - t6 / (2 : Int32) * (2 : Int32)) = 0 then (
F_X1_widen_76 v0 v3 t6 (1 : Int32) t16 t7 t15 M)
else (
F_X1_widen_76 v0 v3 t6 (-1 : Int32) t16 t7 t15 M))
else (
if (t6 - t6 / (2 : Int32) * (2 : Int32)) = (1 : Int32) then (
(xgP M v0 1 2).bind fun t12 =>
(xaI M 20 t12 ((t7 * (25 : Int32)) + t8)).bind fun t13 =>
(xsI M t12 ((t7 * (25 : Int32)) + t8) (t13 + (1 : Int32))).bind fun t14 =>
F_X1_widen_126 v0 v3 t6 t14)
else (
(xgP M v0 1 2).bind fun t9 =>
(xaI M 20 t9 ((t8 * (25 : Int32)) + t7)).bind fun t10 =>
(xsI M t9 ((t8 * (25 : Int32)) + t7) (t10 - (1 : Int32))).bind fun t11 =>
F_X1_widen_126 v0 v3 t6 t11)))))
def F_X1_widen_4 (v0 : Nat) (v2 : Int32) (v3 : Int32) (M : xM) : Option (xM) := xit (F_X1_widen_4b v0) xFU (v2, v3, M)
def F_X1_widen (a0 : Nat) (a1 : Int32) (M : xM) : Option (xM) :=
F_X1_widen_4 a0 a1 (0 : Int32) M
set_option maxRecDepth 100000 in
set_option maxHeartbeats 4000000 in
theorem F_X1_widen_126_ok (X : xX p s m args c cX1_widen 7 RX1 κ) (hr : meth.sig.returnType = none) (hlk : meth.locks = false) {mo : xM} (v0 : Nat) (v3 : Int32) (v4 : Int32) {W4 : Int32 × Int32 × xM → Prop} (hW4 : ∀ (v2 : Int32) (v3 : Int32) (M : xM), W4 (v2, v3, M) → ∀ (H : Heap) (locs : List Loc) (ls : Array Slot), xO κ s M H locs → lv_has ls 7 [(0, .ref (κ.1 + v0)), (2, .int v2), (3, .int v3)] → W p l e (xRm 2 0 0) s m args below meth c H locs 0 0 (xQf below args s 0 0 κ none mo) (F0 m 4 ls [])) (M : xM) (x : (Int32 × Int32 × xM) ⊕ (xM)) (h : F_X1_widen_126 v0 v3 v4 M = some x) (hK : (xKl W4 (fun o => o = mo)) x) (H : Heap) (locs : List Loc) (ls : Array Slot) (O : xO κ s M H locs) (hl : lv_has ls 7 [(0, .ref (κ.1 + v0)), (3, .int v3), (4, .int v4)]) : W p l e (xRm 2 0 0) s m args below meth c H locs 0 0 (xQf below args s 0 0 κ none mo) (F0 m 126 ls []) := by
  unfold F_X1_widen_126 at h
  have hx := X.1
  have hb := X.2.1
  refine lv_iload hx hb dX1_widen_126 (lv_at hl 2 rfl) ?_
  refine lv_istore_n (lv' := [(2, .int v4), (0, .ref (κ.1 + v0)), (3, .int v3), (4, .int v4)]) hx hb dX1_widen_128 rfl hl (by decide) rfl (fun ls hl => ?_)
  refine lv_iinc (v := (v3 + 1)) (lv' := [(3, .int (v3 + 1)), (2, .int v4), (0, .ref (κ.1 + v0)), (4, .int v4)]) hx hb dX1_widen_129 hl (k := 2) rfl rfl (by decide) rfl (fun ls hl => ?_)
  refine lv_goto (tgt := 4) hx hb dX1_widen_132 (by decide) ?_
  rw [← Option.some.inj h] at hK
  exact hW4 v4 (v3 + 1) M hK H locs ls O (lv_sub hl [2, 1, 0] rfl)
set_option maxRecDepth 100000 in
set_option maxHeartbeats 4000000 in
theorem F_X1_widen_76_ok (X : xX p s m args c cX1_widen 7 RX1 κ) (hr : meth.sig.returnType = none) (hlk : meth.locks = false) {mo : xM} (v0 : Nat) (v3 : Int32) (v4 : Int32) (s0 : Int32) (s1 : Int32) (s2 : Int32) (s3 : Nat) {W4 : Int32 × Int32 × xM → Prop} (hW4 : ∀ (v2 : Int32) (v3 : Int32) (M : xM), W4 (v2, v3, M) → ∀ (H : Heap) (locs : List Loc) (ls : Array Slot), xO κ s M H locs → lv_has ls 7 [(0, .ref (κ.1 + v0)), (2, .int v2), (3, .int v3)] → W p l e (xRm 2 0 0) s m args below meth c H locs 0 0 (xQf below args s 0 0 κ none mo) (F0 m 4 ls [])) (M : xM) (x : (Int32 × Int32 × xM) ⊕ (xM)) (h : F_X1_widen_76 v0 v3 v4 s0 s1 s2 s3 M = some x) (hK : (xKl W4 (fun o => o = mo)) x) (H : Heap) (locs : List Loc) (ls : Array Slot) (O : xO κ s M H locs) (hl : lv_has ls 7 [(0, .ref (κ.1 + v0)), (3, .int v3), (4, .int v4)]) : W p l e (xRm 2 0 0) s m args below meth c H locs 0 0 (xQf below args s 0 0 κ none mo) (F0 m 76 ls [.int s0, .int s1, .int s2, .ref (κ.1 + s3)]) := by
  unfold F_X1_widen_76 at h
  have hx := X.1
  have hb := X.2.1
  refine lv_iadd hx hb dX1_widen_76 ?_
  obtain ⟨t17, ht17, h⟩ := Option.bind_eq_some_iff.mp h
  refine xr_stI X O ht17 dX1_widen_77 (fun H locs O => ?_)
  refine lv_goto (tgt := 126) hx hb dX1_widen_78 (by decide) ?_
  exact F_X1_widen_126_ok X hr hlk v0 v3 v4 hW4 t17 _ h hK H locs ls O (lv_sub hl [0, 1, 2] rfl)
set_option maxRecDepth 100000 in
set_option maxHeartbeats 4000000 in
theorem F_X1_widen_135_ok (X : xX p s m args c cX1_widen 7 RX1 κ) (hr : meth.sig.returnType = none) (hlk : meth.locks = false) {mo : xM} (M : xM) (x : xM) (h : F_X1_widen_135 M = some x) (hK : (fun o => o = mo) x) (H : Heap) (locs : List Loc) (ls : Array Slot) (O : xO κ s M H locs) (hl : lv_has ls 7 []) : W p l e (xRm 2 0 0) s m args below meth c H locs 0 0 (xQf below args s 0 0 κ none mo) (F0 m 135 ls []) := by
  unfold F_X1_widen_135 at h
  have hx := X.1
  have hb := X.2.1
  rw [← Option.some.inj h] at hK
  have hK : M = mo := hK
  rw [hK] at O
  exact xr_vret X hr hlk O dX1_widen_135
set_option maxRecDepth 100000 in
set_option maxHeartbeats 4000000 in
theorem F_X1_widen_4_bok (X : xX p s m args c cX1_widen 7 RX1 κ) (hr : meth.sig.returnType = none) (hlk : meth.locks = false) {mo : xM} (v0 : Nat) (v2 : Int32) (v3 : Int32) {W4 : Int32 × Int32 × xM → Prop} (hW4 : ∀ (v2 : Int32) (v3 : Int32) (M : xM), W4 (v2, v3, M) → ∀ (H : Heap) (locs : List Loc) (ls : Array Slot), xO κ s M H locs → lv_has ls 7 [(0, .ref (κ.1 + v0)), (2, .int v2), (3, .int v3)] → W p l e (xRm 2 0 0) s m args below meth c H locs 0 0 (xQf below args s 0 0 κ none mo) (F0 m 4 ls [])) (M : xM) (x : (Int32 × Int32 × xM) ⊕ (xM)) (h : F_X1_widen_4b v0 (v2, v3, M) = some x) (hK : (xKl W4 (fun o => o = mo)) x) (H : Heap) (locs : List Loc) (ls : Array Slot) (O : xO κ s M H locs) (hl : lv_has ls 7 [(0, .ref (κ.1 + v0)), (2, .int v2), (3, .int v3)]) : W p l e (xRm 2 0 0) s m args below meth c H locs 0 0 (xQf below args s 0 0 κ none mo) (F0 m 4 ls []) := by
  unfold F_X1_widen_4b at h
  dsimp only at h
  have hx := X.1
  have hb := X.2.1
  refine lv_iload_n hx hb dX1_widen_4 rfl (lv_at hl 2 rfl) ?_
  refine lv_bipush (v := (50 : Int32)) hx hb dX1_widen_5 (by decide) ?_
  refine lv_icmp_ge (tgt := 135) hx hb dX1_widen_7 (by decide) (fun hc7 => ?_) (fun hc7 => ?_)
  · rw [if_pos hc7] at h
    obtain ⟨_, hw0, ew0⟩ := Option.map_eq_some_iff.mp h
    rw [← ew0] at hK
    have h := hw0
    exact F_X1_widen_135_ok X hr hlk  M _ h hK H locs ls O (lv_sub hl [] rfl)
  rw [if_neg hc7] at h
  refine lv_aload_n hx hb dX1_widen_10 rfl (lv_at hl 0 rfl) ?_
  obtain ⟨t1, ht1, h⟩ := Option.bind_eq_some_iff.mp h
  refine xr_getP X O ht1 fl_X1_21 dX1_widen_11 ?_
  refine lv_iload_n hx hb dX1_widen_14 rfl (lv_at hl 1 rfl) ?_
  obtain ⟨t2, ht2, h⟩ := Option.bind_eq_some_iff.mp h
  refine xr_aldI X O ht2 dX1_widen_15 ?_
  refine lv_iload_n hx hb dX1_widen_16 rfl (lv_at hl 1 rfl) ?_
  refine lv_icmp_eq (tgt := 135) hx hb dX1_widen_17 (by decide) (fun hc17 => ?_) (fun hc17 => ?_)
  · rw [if_pos hc17] at h
    obtain ⟨_, hw0, ew0⟩ := Option.map_eq_some_iff.mp h
    rw [← ew0] at hK
    have h := hw0
    exact F_X1_widen_135_ok X hr hlk  M _ h hK H locs ls O (lv_sub hl [] rfl)
  rw [if_neg hc17] at h
  refine lv_aload_n hx hb dX1_widen_20 rfl (lv_at hl 0 rfl) ?_
  obtain ⟨t3, ht3, h⟩ := Option.bind_eq_some_iff.mp h
  refine xr_getP X O ht3 fl_X1_21 dX1_widen_21 ?_
  refine lv_iload_n hx hb dX1_widen_24 rfl (lv_at hl 1 rfl) ?_
  obtain ⟨t4, ht4, h⟩ := Option.bind_eq_some_iff.mp h
  refine xr_aldI X O ht4 dX1_widen_25 ?_
  refine lv_iconst (v := (-1 : Int32)) hx hb dX1_widen_26 (by decide) ?_
  refine lv_icmp_eq (tgt := 135) hx hb dX1_widen_27 (by decide) (fun hc27 => ?_) (fun hc27 => ?_)
  · rw [if_pos hc27] at h
    obtain ⟨_, hw0, ew0⟩ := Option.map_eq_some_iff.mp h
    rw [← ew0] at hK
    have h := hw0
    exact F_X1_widen_135_ok X hr hlk  M _ h hK H locs ls O (lv_sub hl [] rfl)
  rw [if_neg hc27] at h
  refine lv_aload_n hx hb dX1_widen_30 rfl (lv_at hl 0 rfl) ?_
  obtain ⟨t5, ht5, h⟩ := Option.bind_eq_some_iff.mp h
  refine xr_getP X O ht5 fl_X1_21 dX1_widen_31 ?_
  refine lv_iload_n hx hb dX1_widen_34 rfl (lv_at hl 1 rfl) ?_
  obtain ⟨t6, ht6, h⟩ := Option.bind_eq_some_iff.mp h
  refine xr_aldI X O ht6 dX1_widen_35 ?_
  refine lv_istore (lv' := [(4, .int t6), (0, .ref (κ.1 + v0)), (2, .int v2), (3, .int v3)]) hx hb dX1_widen_36 hl (by decide) rfl (fun ls hl => ?_)
  refine lv_iload hx hb dX1_widen_38 (lv_at hl 0 rfl) ?_
  refine lv_iconst (v := (2 : Int32)) hx hb dX1_widen_40 (by decide) ?_
  refine lv_idiv hx hb dX1_widen_41 (by decide) ?_
  obtain ⟨t7, ht7, h⟩ := Option.bind_eq_some_iff.mp h
  refine xr_top (w := .int t7) (by rw [Option.some.inj ht7]) ?_
  refine lv_istore (lv' := [(5, .int t7), (4, .int t6), (0, .ref (κ.1 + v0)), (2, .int v2), (3, .int v3)]) hx hb dX1_widen_42 hl (by decide) rfl (fun ls hl => ?_)
  refine lv_iload_n hx hb dX1_widen_44 rfl (lv_at hl 3 rfl) ?_
  refine lv_iconst (v := (2 : Int32)) hx hb dX1_widen_45 (by decide) ?_
  refine lv_idiv hx hb dX1_widen_46 (by decide) ?_
  obtain ⟨t8, ht8, h⟩ := Option.bind_eq_some_iff.mp h
  refine xr_top (w := .int t8) (by rw [Option.some.inj ht8]) ?_
  refine lv_istore (lv' := [(6, .int t8), (5, .int t7), (4, .int t6), (0, .ref (κ.1 + v0)), (2, .int v2), (3, .int v3)]) hx hb dX1_widen_47 hl (by decide) rfl (fun ls hl => ?_)
  refine lv_iload hx hb dX1_widen_49 (lv_at hl 1 rfl) ?_
  refine lv_iload hx hb dX1_widen_51 (lv_at hl 0 rfl) ?_
  refine lv_icmp_ne (tgt := 81) hx hb dX1_widen_53 (by decide) (fun hc53 => ?_) (fun hc53 => ?_)
  · rw [if_neg hc53] at h
    refine lv_iload hx hb dX1_widen_81 (lv_at hl 2 rfl) ?_
    refine lv_iconst (v := (2 : Int32)) hx hb dX1_widen_83 (by decide) ?_
    refine lv_irem hx hb dX1_widen_84 (by decide) ?_
    refine lv_iconst (v := (1 : Int32)) hx hb dX1_widen_85 (by decide) ?_
    refine lv_icmp_ne (tgt := 109) hx hb dX1_widen_86 (by decide) (fun hc86 => ?_) (fun hc86 => ?_)
    · rw [if_neg hc86] at h
      refine lv_aload_n hx hb dX1_widen_109 rfl (lv_at hl 3 rfl) ?_
      obtain ⟨t9, ht9, h⟩ := Option.bind_eq_some_iff.mp h
      refine xr_getP X O ht9 fl_X1_18 dX1_widen_110 ?_
      refine lv_iload hx hb dX1_widen_113 (lv_at hl 0 rfl) ?_
      refine lv_bipush (v := (25 : Int32)) hx hb dX1_widen_115 (by decide) ?_
      refine lv_imul hx hb dX1_widen_117 ?_
      refine lv_iload hx hb dX1_widen_118 (lv_at hl 1 rfl) ?_
      refine lv_iadd hx hb dX1_widen_120 ?_
      refine lv_dup2_11 hx hb dX1_widen_121 rfl rfl ?_
      obtain ⟨t10, ht10, h⟩ := Option.bind_eq_some_iff.mp h
      refine xr_aldI X O ht10 dX1_widen_122 ?_
      refine lv_iconst (v := (1 : Int32)) hx hb dX1_widen_123 (by decide) ?_
      refine lv_isub hx hb dX1_widen_124 ?_
      obtain ⟨t11, ht11, h⟩ := Option.bind_eq_some_iff.mp h
      refine xr_stI X O ht11 dX1_widen_125 (fun H locs O => ?_)
      exact F_X1_widen_126_ok X hr hlk v0 v3 t6 hW4 t11 _ h hK H locs ls O (lv_sub hl [3, 5, 2] rfl)
    rw [if_pos hc86] at h
    refine lv_aload_n hx hb dX1_widen_89 rfl (lv_at hl 3 rfl) ?_
    obtain ⟨t12, ht12, h⟩ := Option.bind_eq_some_iff.mp h
    refine xr_getP X O ht12 fl_X1_18 dX1_widen_90 ?_
    refine lv_iload hx hb dX1_widen_93 (lv_at hl 1 rfl) ?_
    refine lv_bipush (v := (25 : Int32)) hx hb dX1_widen_95 (by decide) ?_
    refine lv_imul hx hb dX1_widen_97 ?_
    refine lv_iload hx hb dX1_widen_98 (lv_at hl 0 rfl) ?_
    refine lv_iadd hx hb dX1_widen_100 ?_
    refine lv_dup2_11 hx hb dX1_widen_101 rfl rfl ?_
    obtain ⟨t13, ht13, h⟩ := Option.bind_eq_some_iff.mp h
    refine xr_aldI X O ht13 dX1_widen_102 ?_
    refine lv_iconst (v := (1 : Int32)) hx hb dX1_widen_103 (by decide) ?_
    refine lv_iadd hx hb dX1_widen_104 ?_
    obtain ⟨t14, ht14, h⟩ := Option.bind_eq_some_iff.mp h
    refine xr_stI X O ht14 dX1_widen_105 (fun H locs O => ?_)
    refine lv_goto (tgt := 126) hx hb dX1_widen_106 (by decide) ?_
    exact F_X1_widen_126_ok X hr hlk v0 v3 t6 hW4 t14 _ h hK H locs ls O (lv_sub hl [3, 5, 2] rfl)
  rw [if_pos hc53] at h
  refine lv_aload_n hx hb dX1_widen_56 rfl (lv_at hl 3 rfl) ?_
  obtain ⟨t15, ht15, h⟩ := Option.bind_eq_some_iff.mp h
  refine xr_getP X O ht15 fl_X1_15 dX1_widen_57 ?_
  refine lv_iload hx hb dX1_widen_60 (lv_at hl 1 rfl) ?_
  refine lv_dup2_11 hx hb dX1_widen_62 rfl rfl ?_
  obtain ⟨t16, ht16, h⟩ := Option.bind_eq_some_iff.mp h
  refine xr_aldI X O ht16 dX1_widen_63 ?_
  refine lv_iload hx hb dX1_widen_64 (lv_at hl 2 rfl) ?_
  refine lv_iconst (v := (2 : Int32)) hx hb dX1_widen_66 (by decide) ?_
  refine lv_irem hx hb dX1_widen_67 (by decide) ?_
  refine lv_if_ne (tgt := 75) hx hb dX1_widen_68 (by decide) (fun hc68 => ?_) (fun hc68 => ?_)
  · rw [if_neg hc68] at h
    refine lv_iconst (v := (-1 : Int32)) hx hb dX1_widen_75 (by decide) ?_
    exact F_X1_widen_76_ok X hr hlk v0 v3 t6 (-1 : Int32) t16 t7 t15 hW4 M _ h hK H locs ls O (lv_sub hl [3, 5, 2] rfl)
  rw [if_pos hc68] at h
  refine lv_iconst (v := (1 : Int32)) hx hb dX1_widen_71 (by decide) ?_
  refine lv_goto (tgt := 76) hx hb dX1_widen_72 (by decide) ?_
  exact F_X1_widen_76_ok X hr hlk v0 v3 t6 (1 : Int32) t16 t7 t15 hW4 M _ h hK H locs ls O (lv_sub hl [3, 5, 2] rfl)
set_option maxRecDepth 100000 in
set_option maxHeartbeats 4000000 in
theorem F_X1_widen_4_ok (X : xX p s m args c cX1_widen 7 RX1 κ) (hr : meth.sig.returnType = none) (hlk : meth.locks = false) {mo : xM} (v0 : Nat) (v2 : Int32) (v3 : Int32) (M : xM) (x : xM) (h : F_X1_widen_4 v0 v2 v3 M = some x) (hK : (fun o => o = mo) x) (H : Heap) (locs : List Loc) (ls : Array Slot) (O : xO κ s M H locs) (hl : lv_has ls 7 [(0, .ref (κ.1 + v0)), (2, .int v2), (3, .int v3)]) : W p l e (xRm 2 0 0) s m args below meth c H locs 0 0 (xQf below args s 0 0 κ none mo) (F0 m 4 ls []) := by
  refine xit_K (Wh := fun x => ∀ (H : Heap) (locs : List Loc) (ls : Array Slot), xO κ s x.2.2 H locs → lv_has ls 7 [(0, .ref (κ.1 + v0)), (2, .int x.1), (3, .int x.2.1)] → W p l e (xRm 2 0 0) s m args below meth c H locs 0 0 (xQf below args s 0 0 κ none mo) (F0 m 4 ls [])) (Kp := (fun o => o = mo)) ?_ xFU (v2, v3, M) x h hK H locs ls O hl
  intro y x h hK H locs ls O hl
  exact F_X1_widen_4_bok X hr hlk v0 y.1 y.2.1 (fun _ _ _ hw => hw) y.2.2 x h hK H locs ls O hl
set_option maxRecDepth 100000 in
set_option maxHeartbeats 4000000 in
theorem T_X1_widen (l : Launch) (κ : xQ) (a0 : Nat) (a1 : Int32) (M : xM) (mo : xM) (h : F_X1_widen a0 a1 M = some mo) : xC l yX1_widen cX1_widen 7 none 2 0 0 κ [.ref (κ.1 + a0), .int a1] M none mo := by
  refine xC_of rfl (Nat.le_of_ble_eq_true rfl) fun p e s m args below meth c X hr hlk hnm H locs ls O hl => ?_
  have X : xX p s m args c cX1_widen 7 RX1 κ := X
  have hl : lv_has ls 7 [(0, .ref (κ.1 + a0)), (1, .int a1)] := hl
  have hx := X.1
  have hb := X.2.1
  obtain ⟨x, hx0⟩ : ∃ x, mo = x := ⟨_, rfl⟩
  rw [hx0] at h
  have hK : x = mo := hx0.symm
  unfold F_X1_widen at h
  refine lv_iload_n hx hb dX1_widen_0 rfl (lv_at hl 1 rfl) ?_
  refine lv_istore_n (lv' := [(2, .int a1), (0, .ref (κ.1 + a0)), (1, .int a1)]) hx hb dX1_widen_1 rfl hl (by decide) rfl (fun ls hl => ?_)
  refine lv_iconst (v := (0 : Int32)) hx hb dX1_widen_2 (by decide) ?_
  refine lv_istore_n (lv' := [(3, .int (0 : Int32)), (2, .int a1), (0, .ref (κ.1 + a0)), (1, .int a1)]) hx hb dX1_widen_3 rfl hl (by decide) rfl (fun ls hl => ?_)
  exact F_X1_widen_4_ok X hr hlk a0 a1 (0 : Int32) M _ h hK H locs ls O (lv_sub hl [2, 1, 0] rfl)
def F_X1_leastRaising_103 (v5 : Int32) (M : xM) : Option (Int32 × xM) :=
some (v5, M)
def F_X1_leastRaising_72b (v0 : Nat) (v1 : Nat) (v3 : Int32) : (Int32 × xM) → Option ((Int32 × xM) ⊕ (Int32 × xM)) := fun ⟨v5, M⟩ =>
if (10 : Int32) ≤ v5 then (
(F_X1_leastRaising_103 v5 M).map Sum.inr)
else (
(xck M v0 1).bind fun _ =>
(F_X1_reaches v0 v1 v3 M).bind fun t11 =>
if t11.1 = 0 then (
(F_X1_leastRaising_103 v5 t11.2).map Sum.inr)
else (
(xck t11.2 v0 1).bind fun _ =>
(F_X1_widen v0 (((2 : Int32) * v3) + (1 : Int32)) t11.2).bind fun t13 =>
some (.inl ((v5 + 1), t13))))
def F_X1_leastRaising_72 (v0 : Nat) (v1 : Nat) (v3 : Int32) (v5 : Int32) (M : xM) : Option (Int32 × xM) := xit (F_X1_leastRaising_72b v0 v1 v3) xFU (v5, M)
def F_X1_leastRaising_53 (v0 : Nat) (v1 : Nat) (v3 : Int32) (M : xM) : Option (Int32 × xM) :=
(xgP M v0 1 1).bind fun t6 =>
(F_J7_fill_53178 t6 (0 : Int32) M).bind fun t7 =>
(xgP t7 v0 1 2).bind fun t8 =>
(F_J7_fill_53178 t8 (0 : Int32) t7).bind fun t9 =>
F_X1_leastRaising_72 v0 v1 v3 (0 : Int32) t9
def F_X1_leastRaising_15b (v0 : Nat) (v1 : Nat) (v2 : Nat) (v3 : Int32) (v4 : Int32) : (Int32 × xM) → Option ((Int32 × xM) ⊕ (Int32 × xM)) := fun ⟨v5, M⟩ =>
if (25 : Int32) ≤ v5 then (
(F_X1_leastRaising_53 v0 v1 v3 M).map Sum.inr)
else (
(xal M 20 v2).bind fun t1 =>
if t1 ≤ v5 then (
(F_X1_leastRaising_53 v0 v1 v3 M).map Sum.inr)
else (
(xgP M v0 1 0).bind fun t2 =>
(xaI M 20 v2 v5).bind fun t3 =>
(F_J9_max_7cf53 (0 : Int32) (v4 - t3) M).bind fun t4 =>
(xsI t4.2 t2 v5 t4.1).bind fun t5 =>
some (.inl ((v5 + 1), t5))))
def F_X1_leastRaising_15 (v0 : Nat) (v1 : Nat) (v2 : Nat) (v3 : Int32) (v4 : Int32) (v5 : Int32) (M : xM) : Option (Int32 × xM) := xit (F_X1_leastRaising_15b v0 v1 v2 v3 v4) xFU (v5, M)
def F_X1_leastRaising (a0 : Nat) (a1 : Nat) (a2 : Nat) (a3 : Int32) (a4 : Int32) (M : xM) : Option (Int32 × xM) :=
if a3 < 0 then (
some ((0 : Int32), M))
else (
if a3 < (25 : Int32) then (
F_X1_leastRaising_15 a0 a1 a2 a3 a4 (0 : Int32) M)
else (
some ((0 : Int32), M)))
set_option maxRecDepth 100000 in
set_option maxHeartbeats 4000000 in
theorem F_X1_leastRaising_103_ok (X : xX p s m args c cX1_leastRaising 6 RX1 κ) (hr : meth.sig.returnType = (some .int)) (hlk : meth.locks = false) {ro : Int32} {mo : xM} (v5 : Int32) (M : xM) (x : Int32 × xM) (h : F_X1_leastRaising_103 v5 M = some x) (hK : (fun o => o = (ro, mo)) x) (H : Heap) (locs : List Loc) (ls : Array Slot) (O : xO κ s M H locs) (hl : lv_has ls 6 [(5, .int v5)]) : W p l e (xRm 5 0 0) s m args below meth c H locs 0 0 (xQf below args s 0 0 κ (some (.int ro)) mo) (F0 m 103 ls []) := by
  unfold F_X1_leastRaising_103 at h
  have hx := X.1
  have hb := X.2.1
  refine lv_iload hx hb dX1_leastRaising_103 (lv_at hl 0 rfl) ?_
  rw [← Option.some.inj h] at hK
  have hK : (v5, M) = (ro, mo) := hK
  obtain ⟨hK1, hK2⟩ := Prod.mk.inj hK
  rw [hK2] at O
  refine xr_top (w := .int ro) (by rw [hK1]) ?_
  exact xr_iret X hr hlk O dX1_leastRaising_105
set_option maxRecDepth 100000 in
set_option maxHeartbeats 4000000 in
theorem F_X1_leastRaising_72_bok (X : xX p s m args c cX1_leastRaising 6 RX1 κ) (hr : meth.sig.returnType = (some .int)) (hlk : meth.locks = false) {ro : Int32} {mo : xM} (v0 : Nat) (v1 : Nat) (v3 : Int32) (v5 : Int32) {W72 : Int32 × xM → Prop} (hW72 : ∀ (v5 : Int32) (M : xM), W72 (v5, M) → ∀ (H : Heap) (locs : List Loc) (ls : Array Slot), xO κ s M H locs → lv_has ls 6 [(0, .ref (κ.1 + v0)), (1, .ref (κ.1 + v1)), (3, .int v3), (5, .int v5)] → W p l e (xRm 5 0 0) s m args below meth c H locs 0 0 (xQf below args s 0 0 κ (some (.int ro)) mo) (F0 m 72 ls [])) (M : xM) (x : (Int32 × xM) ⊕ (Int32 × xM)) (h : F_X1_leastRaising_72b v0 v1 v3 (v5, M) = some x) (hK : (xKl W72 (fun o => o = (ro, mo))) x) (H : Heap) (locs : List Loc) (ls : Array Slot) (O : xO κ s M H locs) (hl : lv_has ls 6 [(0, .ref (κ.1 + v0)), (1, .ref (κ.1 + v1)), (3, .int v3), (5, .int v5)]) : W p l e (xRm 5 0 0) s m args below meth c H locs 0 0 (xQf below args s 0 0 κ (some (.int ro)) mo) (F0 m 72 ls []) := by
  unfold F_X1_leastRaising_72b at h
  dsimp only at h
  have hx := X.1
  have hb := X.2.1
  refine lv_iload hx hb dX1_leastRaising_72 (lv_at hl 3 rfl) ?_
  refine lv_bipush (v := (10 : Int32)) hx hb dX1_leastRaising_74 (by decide) ?_
  refine lv_icmp_ge (tgt := 103) hx hb dX1_leastRaising_76 (by decide) (fun hc76 => ?_) (fun hc76 => ?_)
  · rw [if_pos hc76] at h
    obtain ⟨_, hw0, ew0⟩ := Option.map_eq_some_iff.mp h
    rw [← ew0] at hK
    have h := hw0
    exact F_X1_leastRaising_103_ok X hr hlk v5 M _ h hK H locs ls O (lv_sub hl [3] rfl)
  rw [if_neg hc76] at h
  refine lv_aload_n hx hb dX1_leastRaising_79 rfl (lv_at hl 0 rfl) ?_
  refine lv_aload_n hx hb dX1_leastRaising_80 rfl (lv_at hl 1 rfl) ?_
  refine lv_iload_n hx hb dX1_leastRaising_81 rfl (lv_at hl 2 rfl) ?_
  obtain ⟨_, hut10, h⟩ := Option.bind_eq_some_iff.mp h
  obtain ⟨t11, ht11, h⟩ := Option.bind_eq_some_iff.mp h
  refine xr_callV (rest := []) X O (T_X1_reaches l κ v0 v1 v3 M _ _ ht11) lk_X1_39 hut10 (Nat.le_of_ble_eq_true rfl) rfl hl.1 rfl (Nat.le_of_ble_eq_true rfl) dX1_leastRaising_82 ⟨Nat.le_of_ble_eq_true rfl, Nat.le_of_ble_eq_true rfl⟩ (fun H locs O => ?_)
  refine W.eq (g2 := F0 m 85 ls [.int t11.1]) rfl ?_
  refine lv_if_eq (tgt := 103) hx hb dX1_leastRaising_85 (by decide) (fun hc85 => ?_) (fun hc85 => ?_)
  · rw [if_pos hc85] at h
    obtain ⟨_, hw0, ew0⟩ := Option.map_eq_some_iff.mp h
    rw [← ew0] at hK
    have h := hw0
    exact F_X1_leastRaising_103_ok X hr hlk v5 t11.2 _ h hK H locs ls O (lv_sub hl [3] rfl)
  rw [if_neg hc85] at h
  refine lv_aload_n hx hb dX1_leastRaising_88 rfl (lv_at hl 0 rfl) ?_
  refine lv_iconst (v := (2 : Int32)) hx hb dX1_leastRaising_89 (by decide) ?_
  refine lv_iload_n hx hb dX1_leastRaising_90 rfl (lv_at hl 2 rfl) ?_
  refine lv_imul hx hb dX1_leastRaising_91 ?_
  refine lv_iconst (v := (1 : Int32)) hx hb dX1_leastRaising_92 (by decide) ?_
  refine lv_iadd hx hb dX1_leastRaising_93 ?_
  obtain ⟨_, hut12, h⟩ := Option.bind_eq_some_iff.mp h
  obtain ⟨t13, ht13, h⟩ := Option.bind_eq_some_iff.mp h
  refine xr_callV (rest := []) X O (T_X1_widen l κ v0 (((2 : Int32) * v3) + (1 : Int32)) t11.2 _ ht13) lk_X1_43 hut12 (Nat.le_of_ble_eq_true rfl) rfl hl.1 rfl (Nat.le_of_ble_eq_true rfl) dX1_leastRaising_94 ⟨Nat.le_of_ble_eq_true rfl, Nat.le_of_ble_eq_true rfl⟩ (fun H locs O => ?_)
  refine W.eq (g2 := F0 m 97 ls []) rfl ?_
  refine lv_iinc (v := (v5 + 1)) (lv' := [(5, .int (v5 + 1)), (0, .ref (κ.1 + v0)), (1, .ref (κ.1 + v1)), (3, .int v3)]) hx hb dX1_leastRaising_97 hl (k := 3) rfl rfl (by decide) rfl (fun ls hl => ?_)
  refine lv_goto (tgt := 72) hx hb dX1_leastRaising_100 (by decide) ?_
  rw [← Option.some.inj h] at hK
  exact hW72 (v5 + 1) t13 hK H locs ls O (lv_sub hl [1, 2, 3, 0] rfl)
set_option maxRecDepth 100000 in
set_option maxHeartbeats 4000000 in
theorem F_X1_leastRaising_72_ok (X : xX p s m args c cX1_leastRaising 6 RX1 κ) (hr : meth.sig.returnType = (some .int)) (hlk : meth.locks = false) {ro : Int32} {mo : xM} (v0 : Nat) (v1 : Nat) (v3 : Int32) (v5 : Int32) (M : xM) (x : Int32 × xM) (h : F_X1_leastRaising_72 v0 v1 v3 v5 M = some x) (hK : (fun o => o = (ro, mo)) x) (H : Heap) (locs : List Loc) (ls : Array Slot) (O : xO κ s M H locs) (hl : lv_has ls 6 [(0, .ref (κ.1 + v0)), (1, .ref (κ.1 + v1)), (3, .int v3), (5, .int v5)]) : W p l e (xRm 5 0 0) s m args below meth c H locs 0 0 (xQf below args s 0 0 κ (some (.int ro)) mo) (F0 m 72 ls []) := by
  refine xit_K (Wh := fun x => ∀ (H : Heap) (locs : List Loc) (ls : Array Slot), xO κ s x.2 H locs → lv_has ls 6 [(0, .ref (κ.1 + v0)), (1, .ref (κ.1 + v1)), (3, .int v3), (5, .int x.1)] → W p l e (xRm 5 0 0) s m args below meth c H locs 0 0 (xQf below args s 0 0 κ (some (.int ro)) mo) (F0 m 72 ls [])) (Kp := (fun o => o = (ro, mo))) ?_ xFU (v5, M) x h hK H locs ls O hl
  intro y x h hK H locs ls O hl
  exact F_X1_leastRaising_72_bok X hr hlk v0 v1 v3 y.1 (fun _ _ hw => hw) y.2 x h hK H locs ls O hl
set_option maxRecDepth 100000 in
set_option maxHeartbeats 4000000 in
theorem F_X1_leastRaising_53_ok (X : xX p s m args c cX1_leastRaising 6 RX1 κ) (hr : meth.sig.returnType = (some .int)) (hlk : meth.locks = false) {ro : Int32} {mo : xM} (v0 : Nat) (v1 : Nat) (v3 : Int32) (M : xM) (x : Int32 × xM) (h : F_X1_leastRaising_53 v0 v1 v3 M = some x) (hK : (fun o => o = (ro, mo)) x) (H : Heap) (locs : List Loc) (ls : Array Slot) (O : xO κ s M H locs) (hl : lv_has ls 6 [(0, .ref (κ.1 + v0)), (1, .ref (κ.1 + v1)), (3, .int v3)]) : W p l e (xRm 5 0 0) s m args below meth c H locs 0 0 (xQf below args s 0 0 κ (some (.int ro)) mo) (F0 m 53 ls []) := by
  unfold F_X1_leastRaising_53 at h
  have hx := X.1
  have hb := X.2.1
  refine lv_aload_n hx hb dX1_leastRaising_53 rfl (lv_at hl 0 rfl) ?_
  obtain ⟨t6, ht6, h⟩ := Option.bind_eq_some_iff.mp h
  refine xr_getP X O ht6 fl_X1_15 dX1_leastRaising_54 ?_
  refine lv_iconst (v := (0 : Int32)) hx hb dX1_leastRaising_57 (by decide) ?_
  obtain ⟨t7, ht7, h⟩ := Option.bind_eq_some_iff.mp h
  refine xr_callS (rest := []) X O (T_J7_fill_53178 l κ t6 (0 : Int32) M _ ht7) lk_X1_33 (Nat.le_of_ble_eq_true rfl) rfl hl.1 rfl (Nat.le_of_ble_eq_true rfl) dX1_leastRaising_58 ⟨Nat.le_of_ble_eq_true rfl, Nat.le_of_ble_eq_true rfl⟩ (fun H locs O => ?_)
  refine W.eq (g2 := F0 m 61 ls []) rfl ?_
  refine lv_aload_n hx hb dX1_leastRaising_61 rfl (lv_at hl 0 rfl) ?_
  obtain ⟨t8, ht8, h⟩ := Option.bind_eq_some_iff.mp h
  refine xr_getP X O ht8 fl_X1_18 dX1_leastRaising_62 ?_
  refine lv_iconst (v := (0 : Int32)) hx hb dX1_leastRaising_65 (by decide) ?_
  obtain ⟨t9, ht9, h⟩ := Option.bind_eq_some_iff.mp h
  refine xr_callS (rest := []) X O (T_J7_fill_53178 l κ t8 (0 : Int32) t7 _ ht9) lk_X1_33 (Nat.le_of_ble_eq_true rfl) rfl hl.1 rfl (Nat.le_of_ble_eq_true rfl) dX1_leastRaising_66 ⟨Nat.le_of_ble_eq_true rfl, Nat.le_of_ble_eq_true rfl⟩ (fun H locs O => ?_)
  refine W.eq (g2 := F0 m 69 ls []) rfl ?_
  refine lv_iconst (v := (0 : Int32)) hx hb dX1_leastRaising_69 (by decide) ?_
  refine lv_istore (lv' := [(5, .int (0 : Int32)), (0, .ref (κ.1 + v0)), (1, .ref (κ.1 + v1)), (3, .int v3)]) hx hb dX1_leastRaising_70 hl (by decide) rfl (fun ls hl => ?_)
  exact F_X1_leastRaising_72_ok X hr hlk v0 v1 v3 (0 : Int32) t9 _ h hK H locs ls O (lv_sub hl [1, 2, 3, 0] rfl)
set_option maxRecDepth 100000 in
set_option maxHeartbeats 4000000 in
theorem F_X1_leastRaising_15_bok (X : xX p s m args c cX1_leastRaising 6 RX1 κ) (hr : meth.sig.returnType = (some .int)) (hlk : meth.locks = false) {ro : Int32} {mo : xM} (v0 : Nat) (v1 : Nat) (v2 : Nat) (v3 : Int32) (v4 : Int32) (v5 : Int32) {W15 : Int32 × xM → Prop} (hW15 : ∀ (v5 : Int32) (M : xM), W15 (v5, M) → ∀ (H : Heap) (locs : List Loc) (ls : Array Slot), xO κ s M H locs → lv_has ls 6 [(0, .ref (κ.1 + v0)), (1, .ref (κ.1 + v1)), (2, .ref (κ.1 + v2)), (3, .int v3), (4, .int v4), (5, .int v5)] → W p l e (xRm 5 0 0) s m args below meth c H locs 0 0 (xQf below args s 0 0 κ (some (.int ro)) mo) (F0 m 15 ls [])) (M : xM) (x : (Int32 × xM) ⊕ (Int32 × xM)) (h : F_X1_leastRaising_15b v0 v1 v2 v3 v4 (v5, M) = some x) (hK : (xKl W15 (fun o => o = (ro, mo))) x) (H : Heap) (locs : List Loc) (ls : Array Slot) (O : xO κ s M H locs) (hl : lv_has ls 6 [(0, .ref (κ.1 + v0)), (1, .ref (κ.1 + v1)), (2, .ref (κ.1 + v2)), (3, .int v3), (4, .int v4), (5, .int v5)]) : W p l e (xRm 5 0 0) s m args below meth c H locs 0 0 (xQf below args s 0 0 κ (some (.int ro)) mo) (F0 m 15 ls []) := by
  unfold F_X1_leastRaising_15b at h
  dsimp only at h
  have hx := X.1
  have hb := X.2.1
  refine lv_iload hx hb dX1_leastRaising_15 (lv_at hl 5 rfl) ?_
  refine lv_bipush (v := (25 : Int32)) hx hb dX1_leastRaising_17 (by decide) ?_
  refine lv_icmp_ge (tgt := 53) hx hb dX1_leastRaising_19 (by decide) (fun hc19 => ?_) (fun hc19 => ?_)
  · rw [if_pos hc19] at h
    obtain ⟨_, hw0, ew0⟩ := Option.map_eq_some_iff.mp h
    rw [← ew0] at hK
    have h := hw0
    exact F_X1_leastRaising_53_ok X hr hlk v0 v1 v3 M _ h hK H locs ls O (lv_sub hl [0, 1, 3] rfl)
  rw [if_neg hc19] at h
  refine lv_iload hx hb dX1_leastRaising_22 (lv_at hl 5 rfl) ?_
  refine lv_aload_n hx hb dX1_leastRaising_24 rfl (lv_at hl 2 rfl) ?_
  obtain ⟨t1, ht1, h⟩ := Option.bind_eq_some_iff.mp h
  refine xr_aldLen X O ht1 (by decide) dX1_leastRaising_25 ?_
  refine lv_icmp_ge (tgt := 53) hx hb dX1_leastRaising_26 (by decide) (fun hc26 => ?_) (fun hc26 => ?_)
  · rw [if_pos hc26] at h
    obtain ⟨_, hw0, ew0⟩ := Option.map_eq_some_iff.mp h
    rw [← ew0] at hK
    have h := hw0
    exact F_X1_leastRaising_53_ok X hr hlk v0 v1 v3 M _ h hK H locs ls O (lv_sub hl [0, 1, 3] rfl)
  rw [if_neg hc26] at h
  refine lv_aload_n hx hb dX1_leastRaising_29 rfl (lv_at hl 0 rfl) ?_
  obtain ⟨t2, ht2, h⟩ := Option.bind_eq_some_iff.mp h
  refine xr_getP X O ht2 fl_X1_9 dX1_leastRaising_30 ?_
  refine lv_iload hx hb dX1_leastRaising_33 (lv_at hl 5 rfl) ?_
  refine lv_iconst (v := (0 : Int32)) hx hb dX1_leastRaising_35 (by decide) ?_
  refine lv_iload hx hb dX1_leastRaising_36 (lv_at hl 4 rfl) ?_
  refine lv_aload_n hx hb dX1_leastRaising_38 rfl (lv_at hl 2 rfl) ?_
  refine lv_iload hx hb dX1_leastRaising_39 (lv_at hl 5 rfl) ?_
  obtain ⟨t3, ht3, h⟩ := Option.bind_eq_some_iff.mp h
  refine xr_aldI X O ht3 dX1_leastRaising_41 ?_
  refine lv_isub hx hb dX1_leastRaising_42 ?_
  obtain ⟨t4, ht4, h⟩ := Option.bind_eq_some_iff.mp h
  refine xr_callS (rest := [.int v5, .ref (κ.1 + t2)]) X O (T_J9_max_7cf53 l κ (0 : Int32) (v4 - t3) M _ _ ht4) lk_X1_27 (Nat.le_of_ble_eq_true rfl) rfl hl.1 rfl (Nat.le_of_ble_eq_true rfl) dX1_leastRaising_43 ⟨Nat.le_of_ble_eq_true rfl, Nat.le_of_ble_eq_true rfl⟩ (fun H locs O => ?_)
  refine W.eq (g2 := F0 m 46 ls [.int t4.1, .int v5, .ref (κ.1 + t2)]) rfl ?_
  obtain ⟨t5, ht5, h⟩ := Option.bind_eq_some_iff.mp h
  refine xr_stI X O ht5 dX1_leastRaising_46 (fun H locs O => ?_)
  refine lv_iinc (v := (v5 + 1)) (lv' := [(5, .int (v5 + 1)), (0, .ref (κ.1 + v0)), (1, .ref (κ.1 + v1)), (2, .ref (κ.1 + v2)), (3, .int v3), (4, .int v4)]) hx hb dX1_leastRaising_47 hl (k := 5) rfl rfl (by decide) rfl (fun ls hl => ?_)
  refine lv_goto (tgt := 15) hx hb dX1_leastRaising_50 (by decide) ?_
  rw [← Option.some.inj h] at hK
  exact hW15 (v5 + 1) t5 hK H locs ls O (lv_sub hl [1, 2, 3, 4, 5, 0] rfl)
set_option maxRecDepth 100000 in
set_option maxHeartbeats 4000000 in
theorem F_X1_leastRaising_15_ok (X : xX p s m args c cX1_leastRaising 6 RX1 κ) (hr : meth.sig.returnType = (some .int)) (hlk : meth.locks = false) {ro : Int32} {mo : xM} (v0 : Nat) (v1 : Nat) (v2 : Nat) (v3 : Int32) (v4 : Int32) (v5 : Int32) (M : xM) (x : Int32 × xM) (h : F_X1_leastRaising_15 v0 v1 v2 v3 v4 v5 M = some x) (hK : (fun o => o = (ro, mo)) x) (H : Heap) (locs : List Loc) (ls : Array Slot) (O : xO κ s M H locs) (hl : lv_has ls 6 [(0, .ref (κ.1 + v0)), (1, .ref (κ.1 + v1)), (2, .ref (κ.1 + v2)), (3, .int v3), (4, .int v4), (5, .int v5)]) : W p l e (xRm 5 0 0) s m args below meth c H locs 0 0 (xQf below args s 0 0 κ (some (.int ro)) mo) (F0 m 15 ls []) := by
  refine xit_K (Wh := fun x => ∀ (H : Heap) (locs : List Loc) (ls : Array Slot), xO κ s x.2 H locs → lv_has ls 6 [(0, .ref (κ.1 + v0)), (1, .ref (κ.1 + v1)), (2, .ref (κ.1 + v2)), (3, .int v3), (4, .int v4), (5, .int x.1)] → W p l e (xRm 5 0 0) s m args below meth c H locs 0 0 (xQf below args s 0 0 κ (some (.int ro)) mo) (F0 m 15 ls [])) (Kp := (fun o => o = (ro, mo))) ?_ xFU (v5, M) x h hK H locs ls O hl
  intro y x h hK H locs ls O hl
  exact F_X1_leastRaising_15_bok X hr hlk v0 v1 v2 v3 v4 y.1 (fun _ _ hw => hw) y.2 x h hK H locs ls O hl
set_option maxRecDepth 100000 in
set_option maxHeartbeats 4000000 in
theorem T_X1_leastRaising (l : Launch) (κ : xQ) (a0 : Nat) (a1 : Nat) (a2 : Nat) (a3 : Int32) (a4 : Int32) (M : xM) (ro : Int32) (mo : xM) (h : F_X1_leastRaising a0 a1 a2 a3 a4 M = some (ro, mo)) : xC l yX1_leastRaising cX1_leastRaising 6 (some .int) 5 0 0 κ [.ref (κ.1 + a0), .ref (κ.1 + a1), .ref (κ.1 + a2), .int a3, .int a4] M (some (.int ro)) mo := by
  refine xC_of rfl (Nat.le_of_ble_eq_true rfl) fun p e s m args below meth c X hr hlk hnm H locs ls O hl => ?_
  have X : xX p s m args c cX1_leastRaising 6 RX1 κ := X
  have hl : lv_has ls 6 [(0, .ref (κ.1 + a0)), (1, .ref (κ.1 + a1)), (2, .ref (κ.1 + a2)), (3, .int a3), (4, .int a4)] := hl
  have hx := X.1
  have hb := X.2.1
  obtain ⟨x, hx0⟩ : ∃ x, (ro, mo) = x := ⟨_, rfl⟩
  rw [hx0] at h
  have hK : x = (ro, mo) := hx0.symm
  unfold F_X1_leastRaising at h
  refine lv_iload_n hx hb dX1_leastRaising_0 rfl (lv_at hl 3 rfl) ?_
  refine lv_if_lt (tgt := 10) hx hb dX1_leastRaising_1 (by decide) (fun hc1 => ?_) (fun hc1 => ?_)
  · rw [if_pos hc1] at h
    refine lv_iconst (v := (0 : Int32)) hx hb dX1_leastRaising_10 (by decide) ?_
    rw [← Option.some.inj h] at hK
    have hK : ((0 : Int32), M) = (ro, mo) := hK
    obtain ⟨hK1, hK2⟩ := Prod.mk.inj hK
    rw [hK2] at O
    refine xr_top (w := .int ro) (by rw [hK1]) ?_
    exact xr_iret X hr hlk O dX1_leastRaising_11
  rw [if_neg hc1] at h
  refine lv_iload_n hx hb dX1_leastRaising_4 rfl (lv_at hl 3 rfl) ?_
  refine lv_bipush (v := (25 : Int32)) hx hb dX1_leastRaising_5 (by decide) ?_
  refine lv_icmp_lt (tgt := 12) hx hb dX1_leastRaising_7 (by decide) (fun hc7 => ?_) (fun hc7 => ?_)
  · rw [if_pos hc7] at h
    refine lv_iconst (v := (0 : Int32)) hx hb dX1_leastRaising_12 (by decide) ?_
    refine lv_istore (lv' := [(5, .int (0 : Int32)), (0, .ref (κ.1 + a0)), (1, .ref (κ.1 + a1)), (2, .ref (κ.1 + a2)), (3, .int a3), (4, .int a4)]) hx hb dX1_leastRaising_13 hl (by decide) rfl (fun ls hl => ?_)
    exact F_X1_leastRaising_15_ok X hr hlk a0 a1 a2 a3 a4 (0 : Int32) M _ h hK H locs ls O (lv_sub hl [1, 2, 3, 4, 5, 0] rfl)
  rw [if_neg hc7] at h
  refine lv_iconst (v := (0 : Int32)) hx hb dX1_leastRaising_10 (by decide) ?_
  rw [← Option.some.inj h] at hK
  have hK : ((0 : Int32), M) = (ro, mo) := hK
  obtain ⟨hK1, hK2⟩ := Prod.mk.inj hK
  rw [hK2] at O
  refine xr_top (w := .int ro) (by rw [hK1]) ?_
  exact xr_iret X hr hlk O dX1_leastRaising_11
def F_J7_fill_d0a16_22 (M : xM) : Option (xM) :=
some M
def F_J7_fill_d0a16_6b (v0 : Nat) (v1 : Int64) (v4 : Int32) : (Int32 × xM) → Option ((Int32 × xM) ⊕ (xM)) := fun ⟨v3, M⟩ =>
if v4 ≤ v3 then (
(F_J7_fill_d0a16_22 M).map Sum.inr)
else (
(xsJ M v0 v3 v1).bind fun t2 =>
some (.inl ((v3 + 1), t2)))
def F_J7_fill_d0a16_6 (v0 : Nat) (v1 : Int64) (v3 : Int32) (v4 : Int32) (M : xM) : Option (xM) := xit (F_J7_fill_d0a16_6b v0 v1 v4) xFU (v3, M)
def F_J7_fill_d0a16 (a0 : Nat) (a1 : Int64) (M : xM) : Option (xM) :=
(xal M 24 a0).bind fun t1 =>
F_J7_fill_d0a16_6 a0 a1 (0 : Int32) t1 M
set_option maxRecDepth 100000 in
set_option maxHeartbeats 4000000 in
theorem F_J7_fill_d0a16_22_ok (X : xX p s m args c cJ7_fill_d0a16 5 RJ7 κ) (hr : meth.sig.returnType = none) (hlk : meth.locks = false) {mo : xM} (M : xM) (x : xM) (h : F_J7_fill_d0a16_22 M = some x) (hK : (fun o => o = mo) x) (H : Heap) (locs : List Loc) (ls : Array Slot) (O : xO κ s M H locs) (hl : lv_has ls 5 []) : W p l e (xRm 2 0 0) s m args below meth c H locs 0 0 (xQf below args s 0 0 κ none mo) (F0 m 22 ls []) := by
  unfold F_J7_fill_d0a16_22 at h
  have hx := X.1
  have hb := X.2.1
  rw [← Option.some.inj h] at hK
  have hK : M = mo := hK
  rw [hK] at O
  exact xr_vret X hr hlk O dJ7_fill_d0a16_22
set_option maxRecDepth 100000 in
set_option maxHeartbeats 4000000 in
theorem F_J7_fill_d0a16_6_bok (X : xX p s m args c cJ7_fill_d0a16 5 RJ7 κ) (hr : meth.sig.returnType = none) (hlk : meth.locks = false) {mo : xM} (v0 : Nat) (v1 : Int64) (v3 : Int32) (v4 : Int32) {W6 : Int32 × xM → Prop} (hW6 : ∀ (v3 : Int32) (M : xM), W6 (v3, M) → ∀ (H : Heap) (locs : List Loc) (ls : Array Slot), xO κ s M H locs → lv_has ls 5 [(0, .ref (κ.1 + v0)), (1, .long v1), (3, .int v3), (4, .int v4)] → W p l e (xRm 2 0 0) s m args below meth c H locs 0 0 (xQf below args s 0 0 κ none mo) (F0 m 6 ls [])) (M : xM) (x : (Int32 × xM) ⊕ (xM)) (h : F_J7_fill_d0a16_6b v0 v1 v4 (v3, M) = some x) (hK : (xKl W6 (fun o => o = mo)) x) (H : Heap) (locs : List Loc) (ls : Array Slot) (O : xO κ s M H locs) (hl : lv_has ls 5 [(0, .ref (κ.1 + v0)), (1, .long v1), (3, .int v3), (4, .int v4)]) : W p l e (xRm 2 0 0) s m args below meth c H locs 0 0 (xQf below args s 0 0 κ none mo) (F0 m 6 ls []) := by
  unfold F_J7_fill_d0a16_6b at h
  dsimp only at h
  have hx := X.1
  have hb := X.2.1
  refine lv_iload_n hx hb dJ7_fill_d0a16_6 rfl (lv_at hl 2 rfl) ?_
  refine lv_iload hx hb dJ7_fill_d0a16_7 (lv_at hl 3 rfl) ?_
  refine lv_icmp_ge (tgt := 22) hx hb dJ7_fill_d0a16_9 (by decide) (fun hc9 => ?_) (fun hc9 => ?_)
  · rw [if_pos hc9] at h
    obtain ⟨_, hw0, ew0⟩ := Option.map_eq_some_iff.mp h
    rw [← ew0] at hK
    have h := hw0
    exact F_J7_fill_d0a16_22_ok X hr hlk  M _ h hK H locs ls O (lv_sub hl [] rfl)
  rw [if_neg hc9] at h
  refine lv_aload_n hx hb dJ7_fill_d0a16_12 rfl (lv_at hl 0 rfl) ?_
  refine lv_iload_n hx hb dJ7_fill_d0a16_13 rfl (lv_at hl 2 rfl) ?_
  refine lv_lload_n hx hb dJ7_fill_d0a16_14 rfl (lv_at hl 1 rfl) ?_
  obtain ⟨t2, ht2, h⟩ := Option.bind_eq_some_iff.mp h
  refine xr_stJ X O ht2 dJ7_fill_d0a16_15 (fun H locs O => ?_)
  refine lv_iinc (v := (v3 + 1)) (lv' := [(3, .int (v3 + 1)), (0, .ref (κ.1 + v0)), (1, .long v1), (4, .int v4)]) hx hb dJ7_fill_d0a16_16 hl (k := 2) rfl rfl (by decide) rfl (fun ls hl => ?_)
  refine lv_goto (tgt := 6) hx hb dJ7_fill_d0a16_19 (by decide) ?_
  rw [← Option.some.inj h] at hK
  exact hW6 (v3 + 1) t2 hK H locs ls O (lv_sub hl [1, 2, 0, 3] rfl)
set_option maxRecDepth 100000 in
set_option maxHeartbeats 4000000 in
theorem F_J7_fill_d0a16_6_ok (X : xX p s m args c cJ7_fill_d0a16 5 RJ7 κ) (hr : meth.sig.returnType = none) (hlk : meth.locks = false) {mo : xM} (v0 : Nat) (v1 : Int64) (v3 : Int32) (v4 : Int32) (M : xM) (x : xM) (h : F_J7_fill_d0a16_6 v0 v1 v3 v4 M = some x) (hK : (fun o => o = mo) x) (H : Heap) (locs : List Loc) (ls : Array Slot) (O : xO κ s M H locs) (hl : lv_has ls 5 [(0, .ref (κ.1 + v0)), (1, .long v1), (3, .int v3), (4, .int v4)]) : W p l e (xRm 2 0 0) s m args below meth c H locs 0 0 (xQf below args s 0 0 κ none mo) (F0 m 6 ls []) := by
  refine xit_K (Wh := fun x => ∀ (H : Heap) (locs : List Loc) (ls : Array Slot), xO κ s x.2 H locs → lv_has ls 5 [(0, .ref (κ.1 + v0)), (1, .long v1), (3, .int x.1), (4, .int v4)] → W p l e (xRm 2 0 0) s m args below meth c H locs 0 0 (xQf below args s 0 0 κ none mo) (F0 m 6 ls [])) (Kp := (fun o => o = mo)) ?_ xFU (v3, M) x h hK H locs ls O hl
  intro y x h hK H locs ls O hl
  exact F_J7_fill_d0a16_6_bok X hr hlk v0 v1 y.1 v4 (fun _ _ hw => hw) y.2 x h hK H locs ls O hl
set_option maxRecDepth 100000 in
set_option maxHeartbeats 4000000 in
theorem T_J7_fill_d0a16 (l : Launch) (κ : xQ) (a0 : Nat) (a1 : Int64) (M : xM) (mo : xM) (h : F_J7_fill_d0a16 a0 a1 M = some mo) : xC l yJ7_fill_d0a16 cJ7_fill_d0a16 5 none 2 0 0 κ [.ref (κ.1 + a0), .long a1] M none mo := by
  refine xC_ofF (by decide +kernel) (Nat.le_of_ble_eq_true rfl) fun p e s m args below meth c X hr hlk hnm H locs ls O hl => ?_
  have X : xX p s m args c cJ7_fill_d0a16 5 RJ7 κ := X
  have hl : lv_has ls 5 [(0, .ref (κ.1 + a0)), (1, .long a1)] := hl
  have hx := X.1
  have hb := X.2.1
  obtain ⟨x, hx0⟩ : ∃ x, mo = x := ⟨_, rfl⟩
  rw [hx0] at h
  have hK : x = mo := hx0.symm
  unfold F_J7_fill_d0a16 at h
  refine lv_iconst (v := (0 : Int32)) hx hb dJ7_fill_d0a16_0 (by decide) ?_
  refine lv_istore_n (lv' := [(3, .int (0 : Int32)), (0, .ref (κ.1 + a0)), (1, .long a1)]) hx hb dJ7_fill_d0a16_1 rfl hl (by decide) rfl (fun ls hl => ?_)
  refine lv_aload_n hx hb dJ7_fill_d0a16_2 rfl (lv_at hl 1 rfl) ?_
  obtain ⟨t1, ht1, h⟩ := Option.bind_eq_some_iff.mp h
  refine xr_aldLen X O ht1 (by decide) dJ7_fill_d0a16_3 ?_
  refine lv_istore (lv' := [(4, .int t1), (3, .int (0 : Int32)), (0, .ref (κ.1 + a0)), (1, .long a1)]) hx hb dJ7_fill_d0a16_4 hl (by decide) rfl (fun ls hl => ?_)
  exact F_J7_fill_d0a16_6_ok X hr hlk a0 a1 (0 : Int32) t1 M _ h hK H locs ls O (lv_sub hl [2, 3, 1, 0] rfl)
def F_J9_min_7cf53 (a0 : Int32) (a1 : Int32) (M : xM) : Option (Int32 × xM) :=
if a1 < a0 then (
some (a1, M))
else (
some (a0, M))
set_option maxRecDepth 100000 in
set_option maxHeartbeats 4000000 in
theorem T_J9_min_7cf53 (l : Launch) (κ : xQ) (a0 : Int32) (a1 : Int32) (M : xM) (ro : Int32) (mo : xM) (h : F_J9_min_7cf53 a0 a1 M = some (ro, mo)) : xC l yJ9_min_7cf53 cJ9_min_7cf53 2 (some .int) 2 0 0 κ [.int a0, .int a1] M (some (.int ro)) mo := by
  refine xC_ofF (by decide +kernel) (Nat.le_of_ble_eq_true rfl) fun p e s m args below meth c X hr hlk hnm H locs ls O hl => ?_
  have X : xX p s m args c cJ9_min_7cf53 2 RJ9 κ := X
  have hl : lv_has ls 2 [(0, .int a0), (1, .int a1)] := hl
  have hx := X.1
  have hb := X.2.1
  obtain ⟨x, hx0⟩ : ∃ x, (ro, mo) = x := ⟨_, rfl⟩
  rw [hx0] at h
  have hK : x = (ro, mo) := hx0.symm
  unfold F_J9_min_7cf53 at h
  refine lv_iload_n hx hb dJ9_min_7cf53_0 rfl (lv_at hl 0 rfl) ?_
  refine lv_iload_n hx hb dJ9_min_7cf53_1 rfl (lv_at hl 1 rfl) ?_
  refine lv_icmp_gt (tgt := 9) hx hb dJ9_min_7cf53_2 (by decide) (fun hc2 => ?_) (fun hc2 => ?_)
  · rw [if_pos hc2] at h
    refine lv_iload_n hx hb dJ9_min_7cf53_9 rfl (lv_at hl 1 rfl) ?_
    rw [← Option.some.inj h] at hK
    have hK : (a1, M) = (ro, mo) := hK
    obtain ⟨hK1, hK2⟩ := Prod.mk.inj hK
    rw [hK2] at O
    refine xr_top (w := .int ro) (by rw [hK1]) ?_
    exact xr_iret X hr hlk O dJ9_min_7cf53_10
  rw [if_neg hc2] at h
  refine lv_iload_n hx hb dJ9_min_7cf53_5 rfl (lv_at hl 0 rfl) ?_
  refine lv_goto (tgt := 10) hx hb dJ9_min_7cf53_6 (by decide) ?_
  rw [← Option.some.inj h] at hK
  have hK : (a0, M) = (ro, mo) := hK
  obtain ⟨hK1, hK2⟩ := Prod.mk.inj hK
  rw [hK2] at O
  refine xr_top (w := .int ro) (by rw [hK1]) ?_
  exact xr_iret X hr hlk O dJ9_min_7cf53_10
def F_X2_tally_33 (v0 : Nat) (v1 : Nat) (v2 : Int64) (v4 : Int32) (M : xM) : Option ((Int32 × xM) ⊕ (xM)) :=
some (.inl ((v4 + 1), M))
def F_X2_tally_39 (M : xM) : Option (xM) :=
some M
def F_X2_tally_3b (v0 : Nat) (v1 : Nat) (v2 : Int64) : (Int32 × xM) → Option ((Int32 × xM) ⊕ (xM)) := fun ⟨v4, M⟩ =>
if (6 : Int32) ≤ v4 then (
(F_X2_tally_39 M).map Sum.inr)
else (
(xgI M v1 0 4).bind fun t1 =>
if ((t1 >>> (v4 &&& 31)) &&& (1 : Int32)) = 0 then (
F_X2_tally_33 v0 v1 v2 v4 M)
else (
(xgP M v0 2 0).bind fun t2 =>
(xaJ M t2 v4).bind fun t3 =>
(xsJ M t2 v4 (t3 + v2)).bind fun t4 =>
F_X2_tally_33 v0 v1 v2 v4 t4))
def F_X2_tally_3 (v0 : Nat) (v1 : Nat) (v2 : Int64) (v4 : Int32) (M : xM) : Option (xM) := xit (F_X2_tally_3b v0 v1 v2) xFU (v4, M)
def F_X2_tally (a0 : Nat) (a1 : Nat) (a2 : Int64) (M : xM) : Option (xM) :=
F_X2_tally_3 a0 a1 a2 (0 : Int32) M
set_option maxRecDepth 100000 in
set_option maxHeartbeats 4000000 in
theorem F_X2_tally_33_ok (X : xX p s m args c cX2_tally 5 RX2 κ) (hr : meth.sig.returnType = none) (hlk : meth.locks = false) {mo : xM} (v0 : Nat) (v1 : Nat) (v2 : Int64) (v4 : Int32) {W3 : Int32 × xM → Prop} (hW3 : ∀ (v4 : Int32) (M : xM), W3 (v4, M) → ∀ (H : Heap) (locs : List Loc) (ls : Array Slot), xO κ s M H locs → lv_has ls 5 [(0, .ref (κ.1 + v0)), (1, .ref (κ.1 + v1)), (2, .long v2), (4, .int v4)] → W p l e (xRm 2 0 0) s m args below meth c H locs 0 0 (xQf below args s 0 0 κ none mo) (F0 m 3 ls [])) (M : xM) (x : (Int32 × xM) ⊕ (xM)) (h : F_X2_tally_33 v0 v1 v2 v4 M = some x) (hK : (xKl W3 (fun o => o = mo)) x) (H : Heap) (locs : List Loc) (ls : Array Slot) (O : xO κ s M H locs) (hl : lv_has ls 5 [(0, .ref (κ.1 + v0)), (1, .ref (κ.1 + v1)), (2, .long v2), (4, .int v4)]) : W p l e (xRm 2 0 0) s m args below meth c H locs 0 0 (xQf below args s 0 0 κ none mo) (F0 m 33 ls []) := by
  unfold F_X2_tally_33 at h
  have hx := X.1
  have hb := X.2.1
  refine lv_iinc (v := (v4 + 1)) (lv' := [(4, .int (v4 + 1)), (0, .ref (κ.1 + v0)), (1, .ref (κ.1 + v1)), (2, .long v2)]) hx hb dX2_tally_33 hl (k := 3) rfl rfl (by decide) rfl (fun ls hl => ?_)
  refine lv_goto (tgt := 3) hx hb dX2_tally_36 (by decide) ?_
  rw [← Option.some.inj h] at hK
  exact hW3 (v4 + 1) M hK H locs ls O (lv_sub hl [1, 2, 3, 0] rfl)
set_option maxRecDepth 100000 in
set_option maxHeartbeats 4000000 in
theorem F_X2_tally_39_ok (X : xX p s m args c cX2_tally 5 RX2 κ) (hr : meth.sig.returnType = none) (hlk : meth.locks = false) {mo : xM} (M : xM) (x : xM) (h : F_X2_tally_39 M = some x) (hK : (fun o => o = mo) x) (H : Heap) (locs : List Loc) (ls : Array Slot) (O : xO κ s M H locs) (hl : lv_has ls 5 []) : W p l e (xRm 2 0 0) s m args below meth c H locs 0 0 (xQf below args s 0 0 κ none mo) (F0 m 39 ls []) := by
  unfold F_X2_tally_39 at h
  have hx := X.1
  have hb := X.2.1
  rw [← Option.some.inj h] at hK
  have hK : M = mo := hK
  rw [hK] at O
  exact xr_vret X hr hlk O dX2_tally_39
set_option maxRecDepth 100000 in
set_option maxHeartbeats 4000000 in
theorem F_X2_tally_3_bok (X : xX p s m args c cX2_tally 5 RX2 κ) (hr : meth.sig.returnType = none) (hlk : meth.locks = false) {mo : xM} (v0 : Nat) (v1 : Nat) (v2 : Int64) (v4 : Int32) {W3 : Int32 × xM → Prop} (hW3 : ∀ (v4 : Int32) (M : xM), W3 (v4, M) → ∀ (H : Heap) (locs : List Loc) (ls : Array Slot), xO κ s M H locs → lv_has ls 5 [(0, .ref (κ.1 + v0)), (1, .ref (κ.1 + v1)), (2, .long v2), (4, .int v4)] → W p l e (xRm 2 0 0) s m args below meth c H locs 0 0 (xQf below args s 0 0 κ none mo) (F0 m 3 ls [])) (M : xM) (x : (Int32 × xM) ⊕ (xM)) (h : F_X2_tally_3b v0 v1 v2 (v4, M) = some x) (hK : (xKl W3 (fun o => o = mo)) x) (H : Heap) (locs : List Loc) (ls : Array Slot) (O : xO κ s M H locs) (hl : lv_has ls 5 [(0, .ref (κ.1 + v0)), (1, .ref (κ.1 + v1)), (2, .long v2), (4, .int v4)]) : W p l e (xRm 2 0 0) s m args below meth c H locs 0 0 (xQf below args s 0 0 κ none mo) (F0 m 3 ls []) := by
  unfold F_X2_tally_3b at h
  dsimp only at h
  have hx := X.1
  have hb := X.2.1
  refine lv_iload hx hb dX2_tally_3 (lv_at hl 3 rfl) ?_
  refine lv_bipush (v := (6 : Int32)) hx hb dX2_tally_5 (by decide) ?_
  refine lv_icmp_ge (tgt := 39) hx hb dX2_tally_7 (by decide) (fun hc7 => ?_) (fun hc7 => ?_)
  · rw [if_pos hc7] at h
    obtain ⟨_, hw0, ew0⟩ := Option.map_eq_some_iff.mp h
    rw [← ew0] at hK
    have h := hw0
    exact F_X2_tally_39_ok X hr hlk  M _ h hK H locs ls O (lv_sub hl [] rfl)
  rw [if_neg hc7] at h
  refine lv_aload_n hx hb dX2_tally_10 rfl (lv_at hl 1 rfl) ?_
  obtain ⟨t1, ht1, h⟩ := Option.bind_eq_some_iff.mp h
  refine xr_getI X O ht1 fl_X2_42 (Or.inl rfl) dX2_tally_11 ?_
  refine lv_iload hx hb dX2_tally_14 (lv_at hl 3 rfl) ?_
  refine lv_ishr hx hb dX2_tally_16 ?_
  refine lv_iconst (v := (1 : Int32)) hx hb dX2_tally_17 (by decide) ?_
  refine lv_iand hx hb dX2_tally_18 ?_
  refine lv_if_eq (tgt := 33) hx hb dX2_tally_19 (by decide) (fun hc19 => ?_) (fun hc19 => ?_)
  · rw [if_pos hc19] at h
    exact F_X2_tally_33_ok X hr hlk v0 v1 v2 v4 hW3 M _ h hK H locs ls O (lv_sub hl [0, 1, 2, 3] rfl)
  rw [if_neg hc19] at h
  refine lv_aload_n hx hb dX2_tally_22 rfl (lv_at hl 0 rfl) ?_
  obtain ⟨t2, ht2, h⟩ := Option.bind_eq_some_iff.mp h
  refine xr_getP X O ht2 fl_X2_9 dX2_tally_23 ?_
  refine lv_iload hx hb dX2_tally_26 (lv_at hl 3 rfl) ?_
  refine lv_dup2_11 hx hb dX2_tally_28 rfl rfl ?_
  obtain ⟨t3, ht3, h⟩ := Option.bind_eq_some_iff.mp h
  refine xr_aldJ X O ht3 dX2_tally_29 ?_
  refine lv_lload_n hx hb dX2_tally_30 rfl (lv_at hl 2 rfl) ?_
  refine lv_ladd hx hb dX2_tally_31 ?_
  obtain ⟨t4, ht4, h⟩ := Option.bind_eq_some_iff.mp h
  refine xr_stJ X O ht4 dX2_tally_32 (fun H locs O => ?_)
  exact F_X2_tally_33_ok X hr hlk v0 v1 v2 v4 hW3 t4 _ h hK H locs ls O (lv_sub hl [0, 1, 2, 3] rfl)
set_option maxRecDepth 100000 in
set_option maxHeartbeats 4000000 in
theorem F_X2_tally_3_ok (X : xX p s m args c cX2_tally 5 RX2 κ) (hr : meth.sig.returnType = none) (hlk : meth.locks = false) {mo : xM} (v0 : Nat) (v1 : Nat) (v2 : Int64) (v4 : Int32) (M : xM) (x : xM) (h : F_X2_tally_3 v0 v1 v2 v4 M = some x) (hK : (fun o => o = mo) x) (H : Heap) (locs : List Loc) (ls : Array Slot) (O : xO κ s M H locs) (hl : lv_has ls 5 [(0, .ref (κ.1 + v0)), (1, .ref (κ.1 + v1)), (2, .long v2), (4, .int v4)]) : W p l e (xRm 2 0 0) s m args below meth c H locs 0 0 (xQf below args s 0 0 κ none mo) (F0 m 3 ls []) := by
  refine xit_K (Wh := fun x => ∀ (H : Heap) (locs : List Loc) (ls : Array Slot), xO κ s x.2 H locs → lv_has ls 5 [(0, .ref (κ.1 + v0)), (1, .ref (κ.1 + v1)), (2, .long v2), (4, .int x.1)] → W p l e (xRm 2 0 0) s m args below meth c H locs 0 0 (xQf below args s 0 0 κ none mo) (F0 m 3 ls [])) (Kp := (fun o => o = mo)) ?_ xFU (v4, M) x h hK H locs ls O hl
  intro y x h hK H locs ls O hl
  exact F_X2_tally_3_bok X hr hlk v0 v1 v2 y.1 (fun _ _ hw => hw) y.2 x h hK H locs ls O hl
set_option maxRecDepth 100000 in
set_option maxHeartbeats 4000000 in
theorem T_X2_tally (l : Launch) (κ : xQ) (a0 : Nat) (a1 : Nat) (a2 : Int64) (M : xM) (mo : xM) (h : F_X2_tally a0 a1 a2 M = some mo) : xC l yX2_tally cX2_tally 5 none 2 0 0 κ [.ref (κ.1 + a0), .ref (κ.1 + a1), .long a2] M none mo := by
  refine xC_of rfl (Nat.le_of_ble_eq_true rfl) fun p e s m args below meth c X hr hlk hnm H locs ls O hl => ?_
  have X : xX p s m args c cX2_tally 5 RX2 κ := X
  have hl : lv_has ls 5 [(0, .ref (κ.1 + a0)), (1, .ref (κ.1 + a1)), (2, .long a2)] := hl
  have hx := X.1
  have hb := X.2.1
  obtain ⟨x, hx0⟩ : ∃ x, mo = x := ⟨_, rfl⟩
  rw [hx0] at h
  have hK : x = mo := hx0.symm
  unfold F_X2_tally at h
  refine lv_iconst (v := (0 : Int32)) hx hb dX2_tally_0 (by decide) ?_
  refine lv_istore (lv' := [(4, .int (0 : Int32)), (0, .ref (κ.1 + a0)), (1, .ref (κ.1 + a1)), (2, .long a2)]) hx hb dX2_tally_1 hl (by decide) rfl (fun ls hl => ?_)
  exact F_X2_tally_3_ok X hr hlk a0 a1 a2 (0 : Int32) M _ h hK H locs ls O (lv_sub hl [1, 2, 3, 0] rfl)
def F_J9_floorMod_7cf53 (a0 : Int32) (a1 : Int32) (M : xM) : Option (Int32 × xM) :=
if a1 = 0 then none else
(some ((a0 - a0 / a1 * a1))).bind fun t1 =>
if 0 ≤ (a0 ^^^ a1) then (
some (t1, M))
else (
if t1 = 0 then (
some (t1, M))
else (
some ((t1 + a1), M)))
set_option maxRecDepth 100000 in
set_option maxHeartbeats 4000000 in
theorem T_J9_floorMod_7cf53 (l : Launch) (κ : xQ) (a0 : Int32) (a1 : Int32) (M : xM) (ro : Int32) (mo : xM) (h : F_J9_floorMod_7cf53 a0 a1 M = some (ro, mo)) : xC l yJ9_floorMod_7cf53 cJ9_floorMod_7cf53 3 (some .int) 2 0 0 κ [.int a0, .int a1] M (some (.int ro)) mo := by
  refine xC_ofF (by decide +kernel) (Nat.le_of_ble_eq_true rfl) fun p e s m args below meth c X hr hlk hnm H locs ls O hl => ?_
  have X : xX p s m args c cJ9_floorMod_7cf53 3 RJ9 κ := X
  have hl : lv_has ls 3 [(0, .int a0), (1, .int a1)] := hl
  have hx := X.1
  have hb := X.2.1
  obtain ⟨x, hx0⟩ : ∃ x, (ro, mo) = x := ⟨_, rfl⟩
  rw [hx0] at h
  have hK : x = (ro, mo) := hx0.symm
  unfold F_J9_floorMod_7cf53 at h
  refine lv_iload_n hx hb dJ9_floorMod_7cf53_0 rfl (lv_at hl 0 rfl) ?_
  refine lv_iload_n hx hb dJ9_floorMod_7cf53_1 rfl (lv_at hl 1 rfl) ?_
  by_cases hz2 : a1 = 0
  · rw [if_pos hz2] at h; cases h
  rw [if_neg hz2] at h
  refine lv_irem hx hb dJ9_floorMod_7cf53_2 hz2 ?_
  obtain ⟨t1, ht1, h⟩ := Option.bind_eq_some_iff.mp h
  refine xr_top (w := .int t1) (by rw [Option.some.inj ht1]) ?_
  refine lv_istore_n (lv' := [(2, .int t1), (0, .int a0), (1, .int a1)]) hx hb dJ9_floorMod_7cf53_3 rfl hl (by decide) rfl (fun ls hl => ?_)
  refine lv_iload_n hx hb dJ9_floorMod_7cf53_4 rfl (lv_at hl 1 rfl) ?_
  refine lv_iload_n hx hb dJ9_floorMod_7cf53_5 rfl (lv_at hl 2 rfl) ?_
  refine lv_ixor hx hb dJ9_floorMod_7cf53_6 ?_
  refine lv_if_ge (tgt := 18) hx hb dJ9_floorMod_7cf53_7 (by decide) (fun hc7 => ?_) (fun hc7 => ?_)
  · rw [if_pos hc7] at h
    refine lv_iload_n hx hb dJ9_floorMod_7cf53_18 rfl (lv_at hl 0 rfl) ?_
    rw [← Option.some.inj h] at hK
    have hK : (t1, M) = (ro, mo) := hK
    obtain ⟨hK1, hK2⟩ := Prod.mk.inj hK
    rw [hK2] at O
    refine xr_top (w := .int ro) (by rw [hK1]) ?_
    exact xr_iret X hr hlk O dJ9_floorMod_7cf53_19
  rw [if_neg hc7] at h
  refine lv_iload_n hx hb dJ9_floorMod_7cf53_10 rfl (lv_at hl 0 rfl) ?_
  refine lv_if_eq (tgt := 18) hx hb dJ9_floorMod_7cf53_11 (by decide) (fun hc11 => ?_) (fun hc11 => ?_)
  · rw [if_pos hc11] at h
    refine lv_iload_n hx hb dJ9_floorMod_7cf53_18 rfl (lv_at hl 0 rfl) ?_
    rw [← Option.some.inj h] at hK
    have hK : (t1, M) = (ro, mo) := hK
    obtain ⟨hK1, hK2⟩ := Prod.mk.inj hK
    rw [hK2] at O
    refine xr_top (w := .int ro) (by rw [hK1]) ?_
    exact xr_iret X hr hlk O dJ9_floorMod_7cf53_19
  rw [if_neg hc11] at h
  refine lv_iload_n hx hb dJ9_floorMod_7cf53_14 rfl (lv_at hl 0 rfl) ?_
  refine lv_iload_n hx hb dJ9_floorMod_7cf53_15 rfl (lv_at hl 2 rfl) ?_
  refine lv_iadd hx hb dJ9_floorMod_7cf53_16 ?_
  rw [← Option.some.inj h] at hK
  have hK : ((t1 + a1), M) = (ro, mo) := hK
  obtain ⟨hK1, hK2⟩ := Prod.mk.inj hK
  rw [hK2] at O
  refine xr_top (w := .int ro) (by rw [hK1]) ?_
  exact xr_iret X hr hlk O dJ9_floorMod_7cf53_17
def F_X4_joined (a0 : Int32) (a1 : Int64) (a2 : Int64) (M : xM) : Option (Int64 × xM) :=
if a0 = (1000 : Int32) then (
some ((a1 + a2), M))
else if a0 = (1001 : Int32) then (
some ((a1 - a2), M))
else if a0 = (1002 : Int32) then (
some ((a1 * a2), M))
else if a0 = (1003 : Int32) then (
if (lg_cmp a1 a2) = 0 then (
some ((1 : Int64), M))
else (
some ((0 : Int64), M)))
else if a0 = (1004 : Int32) then (
if 0 ≤ (lg_cmp a1 a2) then (
some ((0 : Int64), M))
else (
some ((1 : Int64), M)))
else if a0 = (1005 : Int32) then (
if (lg_cmp a1 a2) ≤ 0 then (
some ((0 : Int64), M))
else (
some ((1 : Int64), M)))
else if a0 = (1006 : Int32) then (
some ((a1 &&& a2), M))
else (
some ((a1 ||| a2), M))
set_option maxRecDepth 100000 in
set_option maxHeartbeats 4000000 in
theorem T_X4_joined (l : Launch) (κ : xQ) (a0 : Int32) (a1 : Int64) (a2 : Int64) (M : xM) (ro : Int64) (mo : xM) (h : F_X4_joined a0 a1 a2 M = some (ro, mo)) : xC l yX4_joined cX4_joined 5 (some .long) 2 0 0 κ [.int a0, .long a1, .long a2] M (some (.long ro)) mo := by
  refine xC_of rfl (Nat.le_of_ble_eq_true rfl) fun p e s m args below meth c X hr hlk hnm H locs ls O hl => ?_
  have X : xX p s m args c cX4_joined 5 RX4 κ := X
  have hl : lv_has ls 5 [(0, .int a0), (1, .long a1), (3, .long a2)] := hl
  have hx := X.1
  have hb := X.2.1
  obtain ⟨x, hx0⟩ : ∃ x, (ro, mo) = x := ⟨_, rfl⟩
  rw [hx0] at h
  have hK : x = (ro, mo) := hx0.symm
  unfold F_X4_joined at h
  refine lv_iload_n hx hb dX4_joined_0 rfl (lv_at hl 0 rfl) ?_
  by_cases hs1_1000 : a0 = (1000 : Int32)
  · rw [if_pos hs1_1000] at h
    refine xr_tabIn (tgt := 44) (off := 43) X dX4_joined_1 hs1_1000 (by decide +kernel) (by decide +kernel) (by decide +kernel) (by decide) ?_
    refine lv_lload_n hx hb dX4_joined_44 rfl (lv_at hl 1 rfl) ?_
    refine lv_lload_n hx hb dX4_joined_45 rfl (lv_at hl 2 rfl) ?_
    refine lv_ladd hx hb dX4_joined_46 ?_
    rw [← Option.some.inj h] at hK
    have hK : ((a1 + a2), M) = (ro, mo) := hK
    obtain ⟨hK1, hK2⟩ := Prod.mk.inj hK
    rw [hK2] at O
    refine xr_top (w := .long ro) (by rw [hK1]) ?_
    exact xr_lret X hr hlk O dX4_joined_47
  rw [if_neg hs1_1000] at h
  by_cases hs1_1001 : a0 = (1001 : Int32)
  · rw [if_pos hs1_1001] at h
    refine xr_tabIn (tgt := 48) (off := 47) X dX4_joined_1 hs1_1001 (by decide +kernel) (by decide +kernel) (by decide +kernel) (by decide) ?_
    refine lv_lload_n hx hb dX4_joined_48 rfl (lv_at hl 1 rfl) ?_
    refine lv_lload_n hx hb dX4_joined_49 rfl (lv_at hl 2 rfl) ?_
    refine lv_lsub hx hb dX4_joined_50 ?_
    rw [← Option.some.inj h] at hK
    have hK : ((a1 - a2), M) = (ro, mo) := hK
    obtain ⟨hK1, hK2⟩ := Prod.mk.inj hK
    rw [hK2] at O
    refine xr_top (w := .long ro) (by rw [hK1]) ?_
    exact xr_lret X hr hlk O dX4_joined_51
  rw [if_neg hs1_1001] at h
  by_cases hs1_1002 : a0 = (1002 : Int32)
  · rw [if_pos hs1_1002] at h
    refine xr_tabIn (tgt := 52) (off := 51) X dX4_joined_1 hs1_1002 (by decide +kernel) (by decide +kernel) (by decide +kernel) (by decide) ?_
    refine lv_lload_n hx hb dX4_joined_52 rfl (lv_at hl 1 rfl) ?_
    refine lv_lload_n hx hb dX4_joined_53 rfl (lv_at hl 2 rfl) ?_
    refine lv_lmul hx hb dX4_joined_54 ?_
    rw [← Option.some.inj h] at hK
    have hK : ((a1 * a2), M) = (ro, mo) := hK
    obtain ⟨hK1, hK2⟩ := Prod.mk.inj hK
    rw [hK2] at O
    refine xr_top (w := .long ro) (by rw [hK1]) ?_
    exact xr_lret X hr hlk O dX4_joined_55
  rw [if_neg hs1_1002] at h
  by_cases hs1_1003 : a0 = (1003 : Int32)
  · rw [if_pos hs1_1003] at h
    refine xr_tabIn (tgt := 56) (off := 55) X dX4_joined_1 hs1_1003 (by decide +kernel) (by decide +kernel) (by decide +kernel) (by decide) ?_
    refine lv_lload_n hx hb dX4_joined_56 rfl (lv_at hl 1 rfl) ?_
    refine lv_lload_n hx hb dX4_joined_57 rfl (lv_at hl 2 rfl) ?_
    refine W.lcmp hx hb dX4_joined_58 ?_
    refine lv_if_ne (tgt := 66) hx hb dX4_joined_59 (by decide) (fun hc59 => ?_) (fun hc59 => ?_)
    · rw [if_neg hc59] at h
      refine lv_lconst (v := (0 : Int64)) hx hb dX4_joined_66 (by decide) ?_
      rw [← Option.some.inj h] at hK
      have hK : ((0 : Int64), M) = (ro, mo) := hK
      obtain ⟨hK1, hK2⟩ := Prod.mk.inj hK
      rw [hK2] at O
      refine xr_top (w := .long ro) (by rw [hK1]) ?_
      exact xr_lret X hr hlk O dX4_joined_67
    rw [if_pos hc59] at h
    refine lv_lconst (v := (1 : Int64)) hx hb dX4_joined_62 (by decide) ?_
    refine lv_goto (tgt := 67) hx hb dX4_joined_63 (by decide) ?_
    rw [← Option.some.inj h] at hK
    have hK : ((1 : Int64), M) = (ro, mo) := hK
    obtain ⟨hK1, hK2⟩ := Prod.mk.inj hK
    rw [hK2] at O
    refine xr_top (w := .long ro) (by rw [hK1]) ?_
    exact xr_lret X hr hlk O dX4_joined_67
  rw [if_neg hs1_1003] at h
  by_cases hs1_1004 : a0 = (1004 : Int32)
  · rw [if_pos hs1_1004] at h
    refine xr_tabIn (tgt := 68) (off := 67) X dX4_joined_1 hs1_1004 (by decide +kernel) (by decide +kernel) (by decide +kernel) (by decide) ?_
    refine lv_lload_n hx hb dX4_joined_68 rfl (lv_at hl 1 rfl) ?_
    refine lv_lload_n hx hb dX4_joined_69 rfl (lv_at hl 2 rfl) ?_
    refine W.lcmp hx hb dX4_joined_70 ?_
    refine lv_if_ge (tgt := 78) hx hb dX4_joined_71 (by decide) (fun hc71 => ?_) (fun hc71 => ?_)
    · rw [if_pos hc71] at h
      refine lv_lconst (v := (0 : Int64)) hx hb dX4_joined_78 (by decide) ?_
      rw [← Option.some.inj h] at hK
      have hK : ((0 : Int64), M) = (ro, mo) := hK
      obtain ⟨hK1, hK2⟩ := Prod.mk.inj hK
      rw [hK2] at O
      refine xr_top (w := .long ro) (by rw [hK1]) ?_
      exact xr_lret X hr hlk O dX4_joined_79
    rw [if_neg hc71] at h
    refine lv_lconst (v := (1 : Int64)) hx hb dX4_joined_74 (by decide) ?_
    refine lv_goto (tgt := 79) hx hb dX4_joined_75 (by decide) ?_
    rw [← Option.some.inj h] at hK
    have hK : ((1 : Int64), M) = (ro, mo) := hK
    obtain ⟨hK1, hK2⟩ := Prod.mk.inj hK
    rw [hK2] at O
    refine xr_top (w := .long ro) (by rw [hK1]) ?_
    exact xr_lret X hr hlk O dX4_joined_79
  rw [if_neg hs1_1004] at h
  by_cases hs1_1005 : a0 = (1005 : Int32)
  · rw [if_pos hs1_1005] at h
    refine xr_tabIn (tgt := 80) (off := 79) X dX4_joined_1 hs1_1005 (by decide +kernel) (by decide +kernel) (by decide +kernel) (by decide) ?_
    refine lv_lload_n hx hb dX4_joined_80 rfl (lv_at hl 1 rfl) ?_
    refine lv_lload_n hx hb dX4_joined_81 rfl (lv_at hl 2 rfl) ?_
    refine W.lcmp hx hb dX4_joined_82 ?_
    refine lv_if_le (tgt := 90) hx hb dX4_joined_83 (by decide) (fun hc83 => ?_) (fun hc83 => ?_)
    · rw [if_pos hc83] at h
      refine lv_lconst (v := (0 : Int64)) hx hb dX4_joined_90 (by decide) ?_
      rw [← Option.some.inj h] at hK
      have hK : ((0 : Int64), M) = (ro, mo) := hK
      obtain ⟨hK1, hK2⟩ := Prod.mk.inj hK
      rw [hK2] at O
      refine xr_top (w := .long ro) (by rw [hK1]) ?_
      exact xr_lret X hr hlk O dX4_joined_91
    rw [if_neg hc83] at h
    refine lv_lconst (v := (1 : Int64)) hx hb dX4_joined_86 (by decide) ?_
    refine lv_goto (tgt := 91) hx hb dX4_joined_87 (by decide) ?_
    rw [← Option.some.inj h] at hK
    have hK : ((1 : Int64), M) = (ro, mo) := hK
    obtain ⟨hK1, hK2⟩ := Prod.mk.inj hK
    rw [hK2] at O
    refine xr_top (w := .long ro) (by rw [hK1]) ?_
    exact xr_lret X hr hlk O dX4_joined_91
  rw [if_neg hs1_1005] at h
  by_cases hs1_1006 : a0 = (1006 : Int32)
  · rw [if_pos hs1_1006] at h
    refine xr_tabIn (tgt := 92) (off := 91) X dX4_joined_1 hs1_1006 (by decide +kernel) (by decide +kernel) (by decide +kernel) (by decide) ?_
    refine lv_lload_n hx hb dX4_joined_92 rfl (lv_at hl 1 rfl) ?_
    refine lv_lload_n hx hb dX4_joined_93 rfl (lv_at hl 2 rfl) ?_
    refine lv_land hx hb dX4_joined_94 ?_
    rw [← Option.some.inj h] at hK
    have hK : ((a1 &&& a2), M) = (ro, mo) := hK
    obtain ⟨hK1, hK2⟩ := Prod.mk.inj hK
    rw [hK2] at O
    refine xr_top (w := .long ro) (by rw [hK1]) ?_
    exact xr_lret X hr hlk O dX4_joined_95
  rw [if_neg hs1_1006] at h
  have ihs1_1000 := xr_nei (k := 1000) (by decide) hs1_1000
  have ihs1_1001 := xr_nei (k := 1001) (by decide) hs1_1001
  have ihs1_1002 := xr_nei (k := 1002) (by decide) hs1_1002
  have ihs1_1003 := xr_nei (k := 1003) (by decide) hs1_1003
  have ihs1_1004 := xr_nei (k := 1004) (by decide) hs1_1004
  have ihs1_1005 := xr_nei (k := 1005) (by decide) hs1_1005
  have ihs1_1006 := xr_nei (k := 1006) (by decide) hs1_1006
  refine lv_tableOut (tgt := 96) hx hb dX4_joined_1 (by omega) (by decide) ?_
  refine lv_lload_n hx hb dX4_joined_96 rfl (lv_at hl 1 rfl) ?_
  refine lv_lload_n hx hb dX4_joined_97 rfl (lv_at hl 2 rfl) ?_
  refine lv_lor hx hb dX4_joined_98 ?_
  rw [← Option.some.inj h] at hK
  have hK : ((a1 ||| a2), M) = (ro, mo) := hK
  obtain ⟨hK1, hK2⟩ := Prod.mk.inj hK
  rw [hK2] at O
  refine xr_top (w := .long ro) (by rw [hK1]) ?_
  exact xr_lret X hr hlk O dX4_joined_99
def F_J9_min_f86c9 (a0 : Int64) (a1 : Int64) (M : xM) : Option (Int64 × xM) :=
if 0 < (lg_cmp a0 a1) then (
some (a1, M))
else (
some (a0, M))
set_option maxRecDepth 100000 in
set_option maxHeartbeats 4000000 in
theorem T_J9_min_f86c9 (l : Launch) (κ : xQ) (a0 : Int64) (a1 : Int64) (M : xM) (ro : Int64) (mo : xM) (h : F_J9_min_f86c9 a0 a1 M = some (ro, mo)) : xC l yJ9_min_f86c9 cJ9_min_f86c9 4 (some .long) 2 0 0 κ [.long a0, .long a1] M (some (.long ro)) mo := by
  refine xC_ofF (by decide +kernel) (Nat.le_of_ble_eq_true rfl) fun p e s m args below meth c X hr hlk hnm H locs ls O hl => ?_
  have X : xX p s m args c cJ9_min_f86c9 4 RJ9 κ := X
  have hl : lv_has ls 4 [(0, .long a0), (2, .long a1)] := hl
  have hx := X.1
  have hb := X.2.1
  obtain ⟨x, hx0⟩ : ∃ x, (ro, mo) = x := ⟨_, rfl⟩
  rw [hx0] at h
  have hK : x = (ro, mo) := hx0.symm
  unfold F_J9_min_f86c9 at h
  refine lv_lload_n hx hb dJ9_min_f86c9_0 rfl (lv_at hl 0 rfl) ?_
  refine lv_lload_n hx hb dJ9_min_f86c9_1 rfl (lv_at hl 1 rfl) ?_
  refine W.lcmp hx hb dJ9_min_f86c9_2 ?_
  refine lv_if_gt (tgt := 10) hx hb dJ9_min_f86c9_3 (by decide) (fun hc3 => ?_) (fun hc3 => ?_)
  · rw [if_pos hc3] at h
    refine lv_lload_n hx hb dJ9_min_f86c9_10 rfl (lv_at hl 1 rfl) ?_
    rw [← Option.some.inj h] at hK
    have hK : (a1, M) = (ro, mo) := hK
    obtain ⟨hK1, hK2⟩ := Prod.mk.inj hK
    rw [hK2] at O
    refine xr_top (w := .long ro) (by rw [hK1]) ?_
    exact xr_lret X hr hlk O dJ9_min_f86c9_11
  rw [if_neg hc3] at h
  refine lv_lload_n hx hb dJ9_min_f86c9_6 rfl (lv_at hl 0 rfl) ?_
  refine lv_goto (tgt := 11) hx hb dJ9_min_f86c9_7 (by decide) ?_
  rw [← Option.some.inj h] at hK
  have hK : (a0, M) = (ro, mo) := hK
  obtain ⟨hK1, hK2⟩ := Prod.mk.inj hK
  rw [hK2] at O
  refine xr_top (w := .long ro) (by rw [hK1]) ?_
  exact xr_lret X hr hlk O dJ9_min_f86c9_11
def F_J9_max_f86c9 (a0 : Int64) (a1 : Int64) (M : xM) : Option (Int64 × xM) :=
if (lg_cmp a0 a1) < 0 then (
some (a1, M))
else (
some (a0, M))
set_option maxRecDepth 100000 in
set_option maxHeartbeats 4000000 in
theorem T_J9_max_f86c9 (l : Launch) (κ : xQ) (a0 : Int64) (a1 : Int64) (M : xM) (ro : Int64) (mo : xM) (h : F_J9_max_f86c9 a0 a1 M = some (ro, mo)) : xC l yJ9_max_f86c9 cJ9_max_f86c9 4 (some .long) 2 0 0 κ [.long a0, .long a1] M (some (.long ro)) mo := by
  refine xC_ofF (by decide +kernel) (Nat.le_of_ble_eq_true rfl) fun p e s m args below meth c X hr hlk hnm H locs ls O hl => ?_
  have X : xX p s m args c cJ9_max_f86c9 4 RJ9 κ := X
  have hl : lv_has ls 4 [(0, .long a0), (2, .long a1)] := hl
  have hx := X.1
  have hb := X.2.1
  obtain ⟨x, hx0⟩ : ∃ x, (ro, mo) = x := ⟨_, rfl⟩
  rw [hx0] at h
  have hK : x = (ro, mo) := hx0.symm
  unfold F_J9_max_f86c9 at h
  refine lv_lload_n hx hb dJ9_max_f86c9_0 rfl (lv_at hl 0 rfl) ?_
  refine lv_lload_n hx hb dJ9_max_f86c9_1 rfl (lv_at hl 1 rfl) ?_
  refine W.lcmp hx hb dJ9_max_f86c9_2 ?_
  refine lv_if_lt (tgt := 10) hx hb dJ9_max_f86c9_3 (by decide) (fun hc3 => ?_) (fun hc3 => ?_)
  · rw [if_pos hc3] at h
    refine lv_lload_n hx hb dJ9_max_f86c9_10 rfl (lv_at hl 1 rfl) ?_
    rw [← Option.some.inj h] at hK
    have hK : (a1, M) = (ro, mo) := hK
    obtain ⟨hK1, hK2⟩ := Prod.mk.inj hK
    rw [hK2] at O
    refine xr_top (w := .long ro) (by rw [hK1]) ?_
    exact xr_lret X hr hlk O dJ9_max_f86c9_11
  rw [if_neg hc3] at h
  refine lv_lload_n hx hb dJ9_max_f86c9_6 rfl (lv_at hl 0 rfl) ?_
  refine lv_goto (tgt := 11) hx hb dJ9_max_f86c9_7 (by decide) ?_
  rw [← Option.some.inj h] at hK
  have hK : (a0, M) = (ro, mo) := hK
  obtain ⟨hK1, hK2⟩ := Prod.mk.inj hK
  rw [hK2] at O
  refine xr_top (w := .long ro) (by rw [hK1]) ?_
  exact xr_lret X hr hlk O dJ9_max_f86c9_11
def F_X4_tell_256 (v0 : Nat) (v1 : Nat) (v3 : Int32) (v4 : Int32) (v5 : Int32) (M : xM) : Option ((Int32 × Int32 × xM) ⊕ (Int32 × xM)) :=
some (.inl (v4, (v5 + 1), M))
def F_X4_tell_98 (v0 : Nat) (v1 : Nat) (v3 : Int32) (v4 : Int32) (v5 : Int32) (s0 : Int32) (s1 : Int32) (s2 : Nat) (M : xM) : Option ((Int32 × Int32 × xM) ⊕ (Int32 × xM)) :=
(xsI M s2 s1 s0).bind fun t12 =>
F_X4_tell_256 v0 v1 v3 v4 v5 t12
def F_X4_tell_194 (v0 : Nat) (v1 : Nat) (v3 : Int32) (v4 : Int32) (v5 : Int32) (s0 : Int32) (s1 : Int32) (s2 : Nat) (M : xM) : Option ((Int32 × Int32 × xM) ⊕ (Int32 × xM)) :=
(xsI M s2 s1 s0).bind fun t22 =>
F_X4_tell_256 v0 v1 v3 v4 v5 t22
def F_X4_tell_198 (v0 : Nat) (v1 : Nat) (v3 : Int32) (v4 : Int32) (v5 : Int32) (v6 : Int32) (M : xM) : Option ((Int32 × Int32 × xM) ⊕ (Int32 × xM)) :=
if v4 ≤ (1 : Int32) then (
F_X4_tell_256 v0 v1 v3 v4 v5 M)
else (
(xgP M v0 4 1).bind fun t23 =>
(xaI M 20 t23 ((v4 + (-1)) - (1 : Int32))).bind fun t24 =>
(xgP M v0 4 1).bind fun t25 =>
(xaI M 20 t25 (v4 + (-1))).bind fun t26 =>
(F_X4_joined v6 t24.toInt64 t26.toInt64 M).bind fun t27 =>
(F_J9_min_f86c9 (1000000 : Int64) t27.1 t27.2).bind fun t28 =>
(F_J9_max_f86c9 (-1000000 : Int64) t28.1 t28.2).bind fun t29 =>
(xgP t29.2 v0 4 1).bind fun t30 =>
(xsI t29.2 t30 ((v4 + (-1)) - (1 : Int32)) t29.1.toInt32).bind fun t31 =>
F_X4_tell_256 v0 v1 v3 (v4 + (-1)) v5 t31)
def F_X4_tell_138 (v0 : Nat) (v1 : Nat) (v3 : Int32) (v4 : Int32) (v5 : Int32) (v6 : Int32) (M : xM) : Option ((Int32 × Int32 × xM) ⊕ (Int32 × xM)) :=
if v6 = (1009 : Int32) then (
if v4 ≤ (2 : Int32) then (
F_X4_tell_198 v0 v1 v3 v4 v5 v6 M)
else (
(xgP M v0 4 1).bind fun t15 =>
(xgP M v0 4 1).bind fun t16 =>
(xaI M 20 t16 ((v4 + (-2)) - (1 : Int32))).bind fun t17 =>
if t17 = 0 then (
(xgP M v0 4 1).bind fun t18 =>
(xaI M 20 t18 ((v4 + (-2)) + (1 : Int32))).bind fun t19 =>
F_X4_tell_194 v0 v1 v3 (v4 + (-2)) v5 t19 ((v4 + (-2)) - (1 : Int32)) t15 M)
else (
(xgP M v0 4 1).bind fun t20 =>
(xaI M 20 t20 (v4 + (-2))).bind fun t21 =>
F_X4_tell_194 v0 v1 v3 (v4 + (-2)) v5 t21 ((v4 + (-2)) - (1 : Int32)) t15 M)))
else (
F_X4_tell_198 v0 v1 v3 v4 v5 v6 M)
def F_X4_tell_262 (v0 : Nat) (v4 : Int32) (M : xM) : Option (Int32 × xM) :=
if v4 ≤ 0 then (
some ((0 : Int32), M))
else (
(xgP M v0 4 1).bind fun t13 =>
(xaI M 20 t13 (v4 - (1 : Int32))).bind fun t14 =>
some (t14, M))
def F_X4_tell_6b (v0 : Nat) (v1 : Nat) (v3 : Int32) : (Int32 × Int32 × xM) → Option ((Int32 × Int32 × xM) ⊕ (Int32 × xM)) := fun ⟨v4, v5, M⟩ =>
if v3 ≤ v5 then (
(F_X4_tell_262 v0 v4 M).map Sum.inr)
else (
(xal M 20 v1).bind fun t1 =>
if t1 ≤ v5 then (
(F_X4_tell_262 v0 v4 M).map Sum.inr)
else (
if (100 : Int32) ≤ v4 then (
(F_X4_tell_262 v0 v4 M).map Sum.inr)
else (
(xaI M 20 v1 v5).bind fun t2 =>
if (1000 : Int32) ≤ t2 then (
if t2 < (1010 : Int32) then (
if t2 = (1008 : Int32) then (
if v4 ≤ 0 then (
F_X4_tell_138 v0 v1 v3 v4 v5 t2 M)
else (
(xgP M v0 4 1).bind fun t3 =>
(xgP M v0 4 1).bind fun t4 =>
(xaI M 20 t4 (v4 - (1 : Int32))).bind fun t5 =>
(xsI M t3 (v4 - (1 : Int32)) ((1 : Int32) - t5)).bind fun t6 =>
F_X4_tell_256 v0 v1 v3 v4 v5 t6))
else (
F_X4_tell_138 v0 v1 v3 v4 v5 t2 M))
else (
(xgP M v0 4 1).bind fun t7 =>
if (6 : Int32) ≤ (t2 - (1010 : Int32)) then (
F_X4_tell_98 v0 v1 v3 (v4 + 1) v5 (0 : Int32) v4 t7 M)
else (
(xgP M v0 4 0).bind fun t8 =>
(xaI M 20 t8 (t2 - (1010 : Int32))).bind fun t9 =>
F_X4_tell_98 v0 v1 v3 (v4 + 1) v5 t9 v4 t7 M)))
else (
(xgP M v0 4 1).bind fun t10 =>
(xsI M t10 v4 t2).bind fun t11 =>
F_X4_tell_256 v0 v1 v3 (v4 + 1) v5 t11))))
def F_X4_tell_6 (v0 : Nat) (v1 : Nat) (v3 : Int32) (v4 : Int32) (v5 : Int32) (M : xM) : Option (Int32 × xM) := xit (F_X4_tell_6b v0 v1 v3) xFU (v4, v5, M)
def F_X4_tell (a0 : Nat) (a1 : Nat) (a2 : Int32) (a3 : Int32) (M : xM) : Option (Int32 × xM) :=
F_X4_tell_6 a0 a1 a3 (0 : Int32) a2 M
set_option maxRecDepth 100000 in
set_option maxHeartbeats 4000000 in
theorem F_X4_tell_256_ok (X : xX p s m args c cX4_tell 9 RX4 κ) (hr : meth.sig.returnType = (some .int)) (hlk : meth.locks = false) {ro : Int32} {mo : xM} (v0 : Nat) (v1 : Nat) (v3 : Int32) (v4 : Int32) (v5 : Int32) {W6 : Int32 × Int32 × xM → Prop} (hW6 : ∀ (v4 : Int32) (v5 : Int32) (M : xM), W6 (v4, v5, M) → ∀ (H : Heap) (locs : List Loc) (ls : Array Slot), xO κ s M H locs → lv_has ls 9 [(0, .ref (κ.1 + v0)), (1, .ref (κ.1 + v1)), (3, .int v3), (4, .int v4), (5, .int v5)] → W p l e (xRm 3 0 0) s m args below meth c H locs 0 0 (xQf below args s 0 0 κ (some (.int ro)) mo) (F0 m 6 ls [])) (M : xM) (x : (Int32 × Int32 × xM) ⊕ (Int32 × xM)) (h : F_X4_tell_256 v0 v1 v3 v4 v5 M = some x) (hK : (xKl W6 (fun o => o = (ro, mo))) x) (H : Heap) (locs : List Loc) (ls : Array Slot) (O : xO κ s M H locs) (hl : lv_has ls 9 [(0, .ref (κ.1 + v0)), (1, .ref (κ.1 + v1)), (3, .int v3), (4, .int v4), (5, .int v5)]) : W p l e (xRm 3 0 0) s m args below meth c H locs 0 0 (xQf below args s 0 0 κ (some (.int ro)) mo) (F0 m 256 ls []) := by
  unfold F_X4_tell_256 at h
  have hx := X.1
  have hb := X.2.1
  refine lv_iinc (v := (v5 + 1)) (lv' := [(5, .int (v5 + 1)), (0, .ref (κ.1 + v0)), (1, .ref (κ.1 + v1)), (3, .int v3), (4, .int v4)]) hx hb dX4_tell_256 hl (k := 4) rfl rfl (by decide) rfl (fun ls hl => ?_)
  refine lv_goto (tgt := 6) hx hb dX4_tell_259 (by decide) ?_
  rw [← Option.some.inj h] at hK
  exact hW6 v4 (v5 + 1) M hK H locs ls O (lv_sub hl [1, 2, 3, 4, 0] rfl)
set_option maxRecDepth 100000 in
set_option maxHeartbeats 4000000 in
theorem F_X4_tell_98_ok (X : xX p s m args c cX4_tell 9 RX4 κ) (hr : meth.sig.returnType = (some .int)) (hlk : meth.locks = false) {ro : Int32} {mo : xM} (v0 : Nat) (v1 : Nat) (v3 : Int32) (v4 : Int32) (v5 : Int32) (s0 : Int32) (s1 : Int32) (s2 : Nat) {W6 : Int32 × Int32 × xM → Prop} (hW6 : ∀ (v4 : Int32) (v5 : Int32) (M : xM), W6 (v4, v5, M) → ∀ (H : Heap) (locs : List Loc) (ls : Array Slot), xO κ s M H locs → lv_has ls 9 [(0, .ref (κ.1 + v0)), (1, .ref (κ.1 + v1)), (3, .int v3), (4, .int v4), (5, .int v5)] → W p l e (xRm 3 0 0) s m args below meth c H locs 0 0 (xQf below args s 0 0 κ (some (.int ro)) mo) (F0 m 6 ls [])) (M : xM) (x : (Int32 × Int32 × xM) ⊕ (Int32 × xM)) (h : F_X4_tell_98 v0 v1 v3 v4 v5 s0 s1 s2 M = some x) (hK : (xKl W6 (fun o => o = (ro, mo))) x) (H : Heap) (locs : List Loc) (ls : Array Slot) (O : xO κ s M H locs) (hl : lv_has ls 9 [(0, .ref (κ.1 + v0)), (1, .ref (κ.1 + v1)), (3, .int v3), (4, .int v4), (5, .int v5)]) : W p l e (xRm 3 0 0) s m args below meth c H locs 0 0 (xQf below args s 0 0 κ (some (.int ro)) mo) (F0 m 98 ls [.int s0, .int s1, .ref (κ.1 + s2)]) := by
  unfold F_X4_tell_98 at h
  have hx := X.1
  have hb := X.2.1
  obtain ⟨t12, ht12, h⟩ := Option.bind_eq_some_iff.mp h
  refine xr_stI X O ht12 dX4_tell_98 (fun H locs O => ?_)
  refine lv_goto (tgt := 256) hx hb dX4_tell_99 (by decide) ?_
  exact F_X4_tell_256_ok X hr hlk v0 v1 v3 v4 v5 hW6 t12 _ h hK H locs ls O (lv_sub hl [0, 1, 2, 3, 4] rfl)
set_option maxRecDepth 100000 in
set_option maxHeartbeats 4000000 in
theorem F_X4_tell_194_ok (X : xX p s m args c cX4_tell 9 RX4 κ) (hr : meth.sig.returnType = (some .int)) (hlk : meth.locks = false) {ro : Int32} {mo : xM} (v0 : Nat) (v1 : Nat) (v3 : Int32) (v4 : Int32) (v5 : Int32) (s0 : Int32) (s1 : Int32) (s2 : Nat) {W6 : Int32 × Int32 × xM → Prop} (hW6 : ∀ (v4 : Int32) (v5 : Int32) (M : xM), W6 (v4, v5, M) → ∀ (H : Heap) (locs : List Loc) (ls : Array Slot), xO κ s M H locs → lv_has ls 9 [(0, .ref (κ.1 + v0)), (1, .ref (κ.1 + v1)), (3, .int v3), (4, .int v4), (5, .int v5)] → W p l e (xRm 3 0 0) s m args below meth c H locs 0 0 (xQf below args s 0 0 κ (some (.int ro)) mo) (F0 m 6 ls [])) (M : xM) (x : (Int32 × Int32 × xM) ⊕ (Int32 × xM)) (h : F_X4_tell_194 v0 v1 v3 v4 v5 s0 s1 s2 M = some x) (hK : (xKl W6 (fun o => o = (ro, mo))) x) (H : Heap) (locs : List Loc) (ls : Array Slot) (O : xO κ s M H locs) (hl : lv_has ls 9 [(0, .ref (κ.1 + v0)), (1, .ref (κ.1 + v1)), (3, .int v3), (4, .int v4), (5, .int v5)]) : W p l e (xRm 3 0 0) s m args below meth c H locs 0 0 (xQf below args s 0 0 κ (some (.int ro)) mo) (F0 m 194 ls [.int s0, .int s1, .ref (κ.1 + s2)]) := by
  unfold F_X4_tell_194 at h
  have hx := X.1
  have hb := X.2.1
  obtain ⟨t22, ht22, h⟩ := Option.bind_eq_some_iff.mp h
  refine xr_stI X O ht22 dX4_tell_194 (fun H locs O => ?_)
  refine lv_goto (tgt := 256) hx hb dX4_tell_195 (by decide) ?_
  exact F_X4_tell_256_ok X hr hlk v0 v1 v3 v4 v5 hW6 t22 _ h hK H locs ls O (lv_sub hl [0, 1, 2, 3, 4] rfl)
set_option maxRecDepth 100000 in
set_option maxHeartbeats 4000000 in
theorem F_X4_tell_198_ok (X : xX p s m args c cX4_tell 9 RX4 κ) (hr : meth.sig.returnType = (some .int)) (hlk : meth.locks = false) {ro : Int32} {mo : xM} (v0 : Nat) (v1 : Nat) (v3 : Int32) (v4 : Int32) (v5 : Int32) (v6 : Int32) {W6 : Int32 × Int32 × xM → Prop} (hW6 : ∀ (v4 : Int32) (v5 : Int32) (M : xM), W6 (v4, v5, M) → ∀ (H : Heap) (locs : List Loc) (ls : Array Slot), xO κ s M H locs → lv_has ls 9 [(0, .ref (κ.1 + v0)), (1, .ref (κ.1 + v1)), (3, .int v3), (4, .int v4), (5, .int v5)] → W p l e (xRm 3 0 0) s m args below meth c H locs 0 0 (xQf below args s 0 0 κ (some (.int ro)) mo) (F0 m 6 ls [])) (M : xM) (x : (Int32 × Int32 × xM) ⊕ (Int32 × xM)) (h : F_X4_tell_198 v0 v1 v3 v4 v5 v6 M = some x) (hK : (xKl W6 (fun o => o = (ro, mo))) x) (H : Heap) (locs : List Loc) (ls : Array Slot) (O : xO κ s M H locs) (hl : lv_has ls 9 [(0, .ref (κ.1 + v0)), (1, .ref (κ.1 + v1)), (3, .int v3), (4, .int v4), (5, .int v5), (6, .int v6)]) : W p l e (xRm 3 0 0) s m args below meth c H locs 0 0 (xQf below args s 0 0 κ (some (.int ro)) mo) (F0 m 198 ls []) := by
  unfold F_X4_tell_198 at h
  have hx := X.1
  have hb := X.2.1
  refine lv_iload hx hb dX4_tell_198 (lv_at hl 3 rfl) ?_
  refine lv_iconst (v := (1 : Int32)) hx hb dX4_tell_200 (by decide) ?_
  refine lv_icmp_le (tgt := 256) hx hb dX4_tell_201 (by decide) (fun hc201 => ?_) (fun hc201 => ?_)
  · rw [if_pos hc201] at h
    exact F_X4_tell_256_ok X hr hlk v0 v1 v3 v4 v5 hW6 M _ h hK H locs ls O (lv_sub hl [0, 1, 2, 3, 4] rfl)
  rw [if_neg hc201] at h
  refine lv_iinc (v := (v4 + (-1))) (lv' := [(4, .int (v4 + (-1))), (0, .ref (κ.1 + v0)), (1, .ref (κ.1 + v1)), (3, .int v3), (5, .int v5), (6, .int v6)]) hx hb dX4_tell_204 hl (k := 3) rfl rfl (by decide) rfl (fun ls hl => ?_)
  refine lv_ldc2 (v := (-1000000 : Int64)) hx hb X.2.2.2.1 (X.2.2.2.2.1 _ ct_X4_16) dX4_tell_207 ?_
  refine lv_ldc2 (v := (1000000 : Int64)) hx hb X.2.2.2.1 (X.2.2.2.2.1 _ ct_X4_18) dX4_tell_210 ?_
  refine lv_iload hx hb dX4_tell_213 (lv_at hl 5 rfl) ?_
  refine lv_aload_n hx hb dX4_tell_215 rfl (lv_at hl 1 rfl) ?_
  obtain ⟨t23, ht23, h⟩ := Option.bind_eq_some_iff.mp h
  refine xr_getP X O ht23 fl_X4_13 dX4_tell_216 ?_
  refine lv_iload hx hb dX4_tell_219 (lv_at hl 0 rfl) ?_
  refine lv_iconst (v := (1 : Int32)) hx hb dX4_tell_221 (by decide) ?_
  refine lv_isub hx hb dX4_tell_222 ?_
  obtain ⟨t24, ht24, h⟩ := Option.bind_eq_some_iff.mp h
  refine xr_aldI X O ht24 dX4_tell_223 ?_
  refine lv_i2l (v := t24.toInt64) hx hb dX4_tell_224 rfl ?_
  refine lv_aload_n hx hb dX4_tell_225 rfl (lv_at hl 1 rfl) ?_
  obtain ⟨t25, ht25, h⟩ := Option.bind_eq_some_iff.mp h
  refine xr_getP X O ht25 fl_X4_13 dX4_tell_226 ?_
  refine lv_iload hx hb dX4_tell_229 (lv_at hl 0 rfl) ?_
  obtain ⟨t26, ht26, h⟩ := Option.bind_eq_some_iff.mp h
  refine xr_aldI X O ht26 dX4_tell_231 ?_
  refine lv_i2l (v := t26.toInt64) hx hb dX4_tell_232 rfl ?_
  obtain ⟨t27, ht27, h⟩ := Option.bind_eq_some_iff.mp h
  refine xr_callS (rest := [.long (1000000 : Int64), .long (-1000000 : Int64)]) X O (T_X4_joined l κ v6 t24.toInt64 t26.toInt64 M _ _ ht27) lk_X4_20 (Nat.le_of_ble_eq_true rfl) rfl hl.1 rfl (Nat.le_of_ble_eq_true rfl) dX4_tell_233 ⟨Nat.le_of_ble_eq_true rfl, Nat.le_of_ble_eq_true rfl⟩ (fun H locs O => ?_)
  refine W.eq (g2 := F0 m 236 ls [.long t27.1, .long (1000000 : Int64), .long (-1000000 : Int64)]) rfl ?_
  obtain ⟨t28, ht28, h⟩ := Option.bind_eq_some_iff.mp h
  refine xr_callS (rest := [.long (-1000000 : Int64)]) X O (T_J9_min_f86c9 l κ (1000000 : Int64) t27.1 t27.2 _ _ ht28) lk_X4_24 (Nat.le_of_ble_eq_true rfl) rfl hl.1 rfl (Nat.le_of_ble_eq_true rfl) dX4_tell_236 ⟨Nat.le_of_ble_eq_true rfl, Nat.le_of_ble_eq_true rfl⟩ (fun H locs O => ?_)
  refine W.eq (g2 := F0 m 239 ls [.long t28.1, .long (-1000000 : Int64)]) rfl ?_
  obtain ⟨t29, ht29, h⟩ := Option.bind_eq_some_iff.mp h
  refine xr_callS (rest := []) X O (T_J9_max_f86c9 l κ (-1000000 : Int64) t28.1 t28.2 _ _ ht29) lk_X4_30 (Nat.le_of_ble_eq_true rfl) rfl hl.1 rfl (Nat.le_of_ble_eq_true rfl) dX4_tell_239 ⟨Nat.le_of_ble_eq_true rfl, Nat.le_of_ble_eq_true rfl⟩ (fun H locs O => ?_)
  refine W.eq (g2 := F0 m 242 ls [.long t29.1]) rfl ?_
  refine lv_lstore (lv' := [(7, .long t29.1), (4, .int (v4 + (-1))), (0, .ref (κ.1 + v0)), (1, .ref (κ.1 + v1)), (3, .int v3), (5, .int v5), (6, .int v6)]) hx hb dX4_tell_242 hl (by decide) rfl (fun ls hl => ?_)
  refine lv_aload_n hx hb dX4_tell_244 rfl (lv_at hl 2 rfl) ?_
  obtain ⟨t30, ht30, h⟩ := Option.bind_eq_some_iff.mp h
  refine xr_getP X O ht30 fl_X4_13 dX4_tell_245 ?_
  refine lv_iload hx hb dX4_tell_248 (lv_at hl 1 rfl) ?_
  refine lv_iconst (v := (1 : Int32)) hx hb dX4_tell_250 (by decide) ?_
  refine lv_isub hx hb dX4_tell_251 ?_
  refine lv_lload hx hb dX4_tell_252 (lv_at hl 0 rfl) ?_
  refine lv_l2i (v := t29.1.toInt32) hx hb dX4_tell_254 rfl ?_
  obtain ⟨t31, ht31, h⟩ := Option.bind_eq_some_iff.mp h
  refine xr_stI X O ht31 dX4_tell_255 (fun H locs O => ?_)
  exact F_X4_tell_256_ok X hr hlk v0 v1 v3 (v4 + (-1)) v5 hW6 t31 _ h hK H locs ls O (lv_sub hl [2, 3, 4, 1, 5] rfl)
set_option maxRecDepth 100000 in
set_option maxHeartbeats 4000000 in
theorem F_X4_tell_138_ok (X : xX p s m args c cX4_tell 9 RX4 κ) (hr : meth.sig.returnType = (some .int)) (hlk : meth.locks = false) {ro : Int32} {mo : xM} (v0 : Nat) (v1 : Nat) (v3 : Int32) (v4 : Int32) (v5 : Int32) (v6 : Int32) {W6 : Int32 × Int32 × xM → Prop} (hW6 : ∀ (v4 : Int32) (v5 : Int32) (M : xM), W6 (v4, v5, M) → ∀ (H : Heap) (locs : List Loc) (ls : Array Slot), xO κ s M H locs → lv_has ls 9 [(0, .ref (κ.1 + v0)), (1, .ref (κ.1 + v1)), (3, .int v3), (4, .int v4), (5, .int v5)] → W p l e (xRm 3 0 0) s m args below meth c H locs 0 0 (xQf below args s 0 0 κ (some (.int ro)) mo) (F0 m 6 ls [])) (M : xM) (x : (Int32 × Int32 × xM) ⊕ (Int32 × xM)) (h : F_X4_tell_138 v0 v1 v3 v4 v5 v6 M = some x) (hK : (xKl W6 (fun o => o = (ro, mo))) x) (H : Heap) (locs : List Loc) (ls : Array Slot) (O : xO κ s M H locs) (hl : lv_has ls 9 [(0, .ref (κ.1 + v0)), (1, .ref (κ.1 + v1)), (3, .int v3), (4, .int v4), (5, .int v5), (6, .int v6)]) : W p l e (xRm 3 0 0) s m args below meth c H locs 0 0 (xQf below args s 0 0 κ (some (.int ro)) mo) (F0 m 138 ls []) := by
  unfold F_X4_tell_138 at h
  have hx := X.1
  have hb := X.2.1
  refine lv_iload hx hb dX4_tell_138 (lv_at hl 5 rfl) ?_
  refine lv_sipush (v := (1009 : Int32)) hx hb dX4_tell_140 (by decide) ?_
  refine lv_icmp_ne (tgt := 198) hx hb dX4_tell_143 (by decide) (fun hc143 => ?_) (fun hc143 => ?_)
  · rw [if_neg hc143] at h
    exact F_X4_tell_198_ok X hr hlk v0 v1 v3 v4 v5 v6 hW6 M _ h hK H locs ls O (lv_sub hl [0, 1, 2, 3, 4, 5] rfl)
  rw [if_pos hc143] at h
  refine lv_iload hx hb dX4_tell_146 (lv_at hl 3 rfl) ?_
  refine lv_iconst (v := (2 : Int32)) hx hb dX4_tell_148 (by decide) ?_
  refine lv_icmp_le (tgt := 198) hx hb dX4_tell_149 (by decide) (fun hc149 => ?_) (fun hc149 => ?_)
  · rw [if_pos hc149] at h
    exact F_X4_tell_198_ok X hr hlk v0 v1 v3 v4 v5 v6 hW6 M _ h hK H locs ls O (lv_sub hl [0, 1, 2, 3, 4, 5] rfl)
  rw [if_neg hc149] at h
  refine lv_iinc (v := (v4 + (-2))) (lv' := [(4, .int (v4 + (-2))), (0, .ref (κ.1 + v0)), (1, .ref (κ.1 + v1)), (3, .int v3), (5, .int v5), (6, .int v6)]) hx hb dX4_tell_152 hl (k := 3) rfl rfl (by decide) rfl (fun ls hl => ?_)
  refine lv_aload_n hx hb dX4_tell_155 rfl (lv_at hl 1 rfl) ?_
  obtain ⟨t15, ht15, h⟩ := Option.bind_eq_some_iff.mp h
  refine xr_getP X O ht15 fl_X4_13 dX4_tell_156 ?_
  refine lv_iload hx hb dX4_tell_159 (lv_at hl 0 rfl) ?_
  refine lv_iconst (v := (1 : Int32)) hx hb dX4_tell_161 (by decide) ?_
  refine lv_isub hx hb dX4_tell_162 ?_
  refine lv_aload_n hx hb dX4_tell_163 rfl (lv_at hl 1 rfl) ?_
  obtain ⟨t16, ht16, h⟩ := Option.bind_eq_some_iff.mp h
  refine xr_getP X O ht16 fl_X4_13 dX4_tell_164 ?_
  refine lv_iload hx hb dX4_tell_167 (lv_at hl 0 rfl) ?_
  refine lv_iconst (v := (1 : Int32)) hx hb dX4_tell_169 (by decide) ?_
  refine lv_isub hx hb dX4_tell_170 ?_
  obtain ⟨t17, ht17, h⟩ := Option.bind_eq_some_iff.mp h
  refine xr_aldI X O ht17 dX4_tell_171 ?_
  refine lv_if_eq (tgt := 185) hx hb dX4_tell_172 (by decide) (fun hc172 => ?_) (fun hc172 => ?_)
  · rw [if_pos hc172] at h
    refine lv_aload_n hx hb dX4_tell_185 rfl (lv_at hl 1 rfl) ?_
    obtain ⟨t18, ht18, h⟩ := Option.bind_eq_some_iff.mp h
    refine xr_getP X O ht18 fl_X4_13 dX4_tell_186 ?_
    refine lv_iload hx hb dX4_tell_189 (lv_at hl 0 rfl) ?_
    refine lv_iconst (v := (1 : Int32)) hx hb dX4_tell_191 (by decide) ?_
    refine lv_iadd hx hb dX4_tell_192 ?_
    obtain ⟨t19, ht19, h⟩ := Option.bind_eq_some_iff.mp h
    refine xr_aldI X O ht19 dX4_tell_193 ?_
    exact F_X4_tell_194_ok X hr hlk v0 v1 v3 (v4 + (-2)) v5 t19 ((v4 + (-2)) - (1 : Int32)) t15 hW6 M _ h hK H locs ls O (lv_sub hl [1, 2, 3, 0, 4] rfl)
  rw [if_neg hc172] at h
  refine lv_aload_n hx hb dX4_tell_175 rfl (lv_at hl 1 rfl) ?_
  obtain ⟨t20, ht20, h⟩ := Option.bind_eq_some_iff.mp h
  refine xr_getP X O ht20 fl_X4_13 dX4_tell_176 ?_
  refine lv_iload hx hb dX4_tell_179 (lv_at hl 0 rfl) ?_
  obtain ⟨t21, ht21, h⟩ := Option.bind_eq_some_iff.mp h
  refine xr_aldI X O ht21 dX4_tell_181 ?_
  refine lv_goto (tgt := 194) hx hb dX4_tell_182 (by decide) ?_
  exact F_X4_tell_194_ok X hr hlk v0 v1 v3 (v4 + (-2)) v5 t21 ((v4 + (-2)) - (1 : Int32)) t15 hW6 M _ h hK H locs ls O (lv_sub hl [1, 2, 3, 0, 4] rfl)
set_option maxRecDepth 100000 in
set_option maxHeartbeats 4000000 in
theorem F_X4_tell_262_ok (X : xX p s m args c cX4_tell 9 RX4 κ) (hr : meth.sig.returnType = (some .int)) (hlk : meth.locks = false) {ro : Int32} {mo : xM} (v0 : Nat) (v4 : Int32) (M : xM) (x : Int32 × xM) (h : F_X4_tell_262 v0 v4 M = some x) (hK : (fun o => o = (ro, mo)) x) (H : Heap) (locs : List Loc) (ls : Array Slot) (O : xO κ s M H locs) (hl : lv_has ls 9 [(0, .ref (κ.1 + v0)), (4, .int v4)]) : W p l e (xRm 3 0 0) s m args below meth c H locs 0 0 (xQf below args s 0 0 κ (some (.int ro)) mo) (F0 m 262 ls []) := by
  unfold F_X4_tell_262 at h
  have hx := X.1
  have hb := X.2.1
  refine lv_iload hx hb dX4_tell_262 (lv_at hl 1 rfl) ?_
  refine lv_if_le (tgt := 279) hx hb dX4_tell_264 (by decide) (fun hc264 => ?_) (fun hc264 => ?_)
  · rw [if_pos hc264] at h
    refine lv_iconst (v := (0 : Int32)) hx hb dX4_tell_279 (by decide) ?_
    rw [← Option.some.inj h] at hK
    have hK : ((0 : Int32), M) = (ro, mo) := hK
    obtain ⟨hK1, hK2⟩ := Prod.mk.inj hK
    rw [hK2] at O
    refine xr_top (w := .int ro) (by rw [hK1]) ?_
    exact xr_iret X hr hlk O dX4_tell_280
  rw [if_neg hc264] at h
  refine lv_aload_n hx hb dX4_tell_267 rfl (lv_at hl 0 rfl) ?_
  obtain ⟨t13, ht13, h⟩ := Option.bind_eq_some_iff.mp h
  refine xr_getP X O ht13 fl_X4_13 dX4_tell_268 ?_
  refine lv_iload hx hb dX4_tell_271 (lv_at hl 1 rfl) ?_
  refine lv_iconst (v := (1 : Int32)) hx hb dX4_tell_273 (by decide) ?_
  refine lv_isub hx hb dX4_tell_274 ?_
  obtain ⟨t14, ht14, h⟩ := Option.bind_eq_some_iff.mp h
  refine xr_aldI X O ht14 dX4_tell_275 ?_
  refine lv_goto (tgt := 280) hx hb dX4_tell_276 (by decide) ?_
  rw [← Option.some.inj h] at hK
  have hK : (t14, M) = (ro, mo) := hK
  obtain ⟨hK1, hK2⟩ := Prod.mk.inj hK
  rw [hK2] at O
  refine xr_top (w := .int ro) (by rw [hK1]) ?_
  exact xr_iret X hr hlk O dX4_tell_280
set_option maxRecDepth 100000 in
set_option maxHeartbeats 4000000 in
theorem F_X4_tell_6_bok (X : xX p s m args c cX4_tell 9 RX4 κ) (hr : meth.sig.returnType = (some .int)) (hlk : meth.locks = false) {ro : Int32} {mo : xM} (v0 : Nat) (v1 : Nat) (v3 : Int32) (v4 : Int32) (v5 : Int32) {W6 : Int32 × Int32 × xM → Prop} (hW6 : ∀ (v4 : Int32) (v5 : Int32) (M : xM), W6 (v4, v5, M) → ∀ (H : Heap) (locs : List Loc) (ls : Array Slot), xO κ s M H locs → lv_has ls 9 [(0, .ref (κ.1 + v0)), (1, .ref (κ.1 + v1)), (3, .int v3), (4, .int v4), (5, .int v5)] → W p l e (xRm 3 0 0) s m args below meth c H locs 0 0 (xQf below args s 0 0 κ (some (.int ro)) mo) (F0 m 6 ls [])) (M : xM) (x : (Int32 × Int32 × xM) ⊕ (Int32 × xM)) (h : F_X4_tell_6b v0 v1 v3 (v4, v5, M) = some x) (hK : (xKl W6 (fun o => o = (ro, mo))) x) (H : Heap) (locs : List Loc) (ls : Array Slot) (O : xO κ s M H locs) (hl : lv_has ls 9 [(0, .ref (κ.1 + v0)), (1, .ref (κ.1 + v1)), (3, .int v3), (4, .int v4), (5, .int v5)]) : W p l e (xRm 3 0 0) s m args below meth c H locs 0 0 (xQf below args s 0 0 κ (some (.int ro)) mo) (F0 m 6 ls []) := by
  unfold F_X4_tell_6b at h
  dsimp only at h
  have hx := X.1
  have hb := X.2.1
  refine lv_iload hx hb dX4_tell_6 (lv_at hl 4 rfl) ?_
  refine lv_iload_n hx hb dX4_tell_8 rfl (lv_at hl 2 rfl) ?_
  refine lv_icmp_ge (tgt := 262) hx hb dX4_tell_9 (by decide) (fun hc9 => ?_) (fun hc9 => ?_)
  · rw [if_pos hc9] at h
    obtain ⟨_, hw0, ew0⟩ := Option.map_eq_some_iff.mp h
    rw [← ew0] at hK
    have h := hw0
    exact F_X4_tell_262_ok X hr hlk v0 v4 M _ h hK H locs ls O (lv_sub hl [0, 3] rfl)
  rw [if_neg hc9] at h
  refine lv_iload hx hb dX4_tell_12 (lv_at hl 4 rfl) ?_
  refine lv_aload_n hx hb dX4_tell_14 rfl (lv_at hl 1 rfl) ?_
  obtain ⟨t1, ht1, h⟩ := Option.bind_eq_some_iff.mp h
  refine xr_aldLen X O ht1 (by decide) dX4_tell_15 ?_
  refine lv_icmp_ge (tgt := 262) hx hb dX4_tell_16 (by decide) (fun hc16 => ?_) (fun hc16 => ?_)
  · rw [if_pos hc16] at h
    obtain ⟨_, hw0, ew0⟩ := Option.map_eq_some_iff.mp h
    rw [← ew0] at hK
    have h := hw0
    exact F_X4_tell_262_ok X hr hlk v0 v4 M _ h hK H locs ls O (lv_sub hl [0, 3] rfl)
  rw [if_neg hc16] at h
  refine lv_iload hx hb dX4_tell_19 (lv_at hl 3 rfl) ?_
  refine lv_bipush (v := (100 : Int32)) hx hb dX4_tell_21 (by decide) ?_
  refine lv_icmp_ge (tgt := 262) hx hb dX4_tell_23 (by decide) (fun hc23 => ?_) (fun hc23 => ?_)
  · rw [if_pos hc23] at h
    obtain ⟨_, hw0, ew0⟩ := Option.map_eq_some_iff.mp h
    rw [← ew0] at hK
    have h := hw0
    exact F_X4_tell_262_ok X hr hlk v0 v4 M _ h hK H locs ls O (lv_sub hl [0, 3] rfl)
  rw [if_neg hc23] at h
  refine lv_aload_n hx hb dX4_tell_26 rfl (lv_at hl 1 rfl) ?_
  refine lv_iload hx hb dX4_tell_27 (lv_at hl 4 rfl) ?_
  obtain ⟨t2, ht2, h⟩ := Option.bind_eq_some_iff.mp h
  refine xr_aldI X O ht2 dX4_tell_29 ?_
  refine lv_istore (lv' := [(6, .int t2), (0, .ref (κ.1 + v0)), (1, .ref (κ.1 + v1)), (3, .int v3), (4, .int v4), (5, .int v5)]) hx hb dX4_tell_30 hl (by decide) rfl (fun ls hl => ?_)
  refine lv_iload hx hb dX4_tell_32 (lv_at hl 0 rfl) ?_
  refine lv_sipush (v := (1000 : Int32)) hx hb dX4_tell_34 (by decide) ?_
  refine lv_icmp_ge (tgt := 55) hx hb dX4_tell_37 (by decide) (fun hc37 => ?_) (fun hc37 => ?_)
  · rw [if_pos hc37] at h
    refine lv_iload hx hb dX4_tell_55 (lv_at hl 0 rfl) ?_
    refine lv_sipush (v := (1010 : Int32)) hx hb dX4_tell_57 (by decide) ?_
    refine lv_icmp_lt (tgt := 102) hx hb dX4_tell_60 (by decide) (fun hc60 => ?_) (fun hc60 => ?_)
    · rw [if_pos hc60] at h
      refine lv_iload hx hb dX4_tell_102 (lv_at hl 0 rfl) ?_
      refine lv_sipush (v := (1008 : Int32)) hx hb dX4_tell_104 (by decide) ?_
      refine lv_icmp_ne (tgt := 138) hx hb dX4_tell_107 (by decide) (fun hc107 => ?_) (fun hc107 => ?_)
      · rw [if_neg hc107] at h
        exact F_X4_tell_138_ok X hr hlk v0 v1 v3 v4 v5 t2 hW6 M _ h hK H locs ls O (lv_sub hl [1, 2, 3, 4, 5, 0] rfl)
      rw [if_pos hc107] at h
      refine lv_iload hx hb dX4_tell_110 (lv_at hl 4 rfl) ?_
      refine lv_if_le (tgt := 138) hx hb dX4_tell_112 (by decide) (fun hc112 => ?_) (fun hc112 => ?_)
      · rw [if_pos hc112] at h
        exact F_X4_tell_138_ok X hr hlk v0 v1 v3 v4 v5 t2 hW6 M _ h hK H locs ls O (lv_sub hl [1, 2, 3, 4, 5, 0] rfl)
      rw [if_neg hc112] at h
      refine lv_aload_n hx hb dX4_tell_115 rfl (lv_at hl 1 rfl) ?_
      obtain ⟨t3, ht3, h⟩ := Option.bind_eq_some_iff.mp h
      refine xr_getP X O ht3 fl_X4_13 dX4_tell_116 ?_
      refine lv_iload hx hb dX4_tell_119 (lv_at hl 4 rfl) ?_
      refine lv_iconst (v := (1 : Int32)) hx hb dX4_tell_121 (by decide) ?_
      refine lv_isub hx hb dX4_tell_122 ?_
      refine lv_iconst (v := (1 : Int32)) hx hb dX4_tell_123 (by decide) ?_
      refine lv_aload_n hx hb dX4_tell_124 rfl (lv_at hl 1 rfl) ?_
      obtain ⟨t4, ht4, h⟩ := Option.bind_eq_some_iff.mp h
      refine xr_getP X O ht4 fl_X4_13 dX4_tell_125 ?_
      refine lv_iload hx hb dX4_tell_128 (lv_at hl 4 rfl) ?_
      refine lv_iconst (v := (1 : Int32)) hx hb dX4_tell_130 (by decide) ?_
      refine lv_isub hx hb dX4_tell_131 ?_
      obtain ⟨t5, ht5, h⟩ := Option.bind_eq_some_iff.mp h
      refine xr_aldI X O ht5 dX4_tell_132 ?_
      refine lv_isub hx hb dX4_tell_133 ?_
      obtain ⟨t6, ht6, h⟩ := Option.bind_eq_some_iff.mp h
      refine xr_stI X O ht6 dX4_tell_134 (fun H locs O => ?_)
      refine lv_goto (tgt := 256) hx hb dX4_tell_135 (by decide) ?_
      exact F_X4_tell_256_ok X hr hlk v0 v1 v3 v4 v5 hW6 t6 _ h hK H locs ls O (lv_sub hl [1, 2, 3, 4, 5] rfl)
    rw [if_neg hc60] at h
    refine lv_aload_n hx hb dX4_tell_63 rfl (lv_at hl 1 rfl) ?_
    obtain ⟨t7, ht7, h⟩ := Option.bind_eq_some_iff.mp h
    refine xr_getP X O ht7 fl_X4_13 dX4_tell_64 ?_
    refine lv_iload hx hb dX4_tell_67 (lv_at hl 4 rfl) ?_
    refine lv_iinc (v := (v4 + 1)) (lv' := [(4, .int (v4 + 1)), (6, .int t2), (0, .ref (κ.1 + v0)), (1, .ref (κ.1 + v1)), (3, .int v3), (5, .int v5)]) hx hb dX4_tell_69 hl (k := 4) rfl rfl (by decide) rfl (fun ls hl => ?_)
    refine lv_iload hx hb dX4_tell_72 (lv_at hl 1 rfl) ?_
    refine lv_sipush (v := (1010 : Int32)) hx hb dX4_tell_74 (by decide) ?_
    refine lv_isub hx hb dX4_tell_77 ?_
    refine lv_bipush (v := (6 : Int32)) hx hb dX4_tell_78 (by decide) ?_
    refine lv_icmp_ge (tgt := 97) hx hb dX4_tell_80 (by decide) (fun hc80 => ?_) (fun hc80 => ?_)
    · rw [if_pos hc80] at h
      refine lv_iconst (v := (0 : Int32)) hx hb dX4_tell_97 (by decide) ?_
      exact F_X4_tell_98_ok X hr hlk v0 v1 v3 (v4 + 1) v5 (0 : Int32) v4 t7 hW6 M _ h hK H locs ls O (lv_sub hl [2, 3, 4, 0, 5] rfl)
    rw [if_neg hc80] at h
    refine lv_aload_n hx hb dX4_tell_83 rfl (lv_at hl 2 rfl) ?_
    obtain ⟨t8, ht8, h⟩ := Option.bind_eq_some_iff.mp h
    refine xr_getP X O ht8 fl_X4_9 dX4_tell_84 ?_
    refine lv_iload hx hb dX4_tell_87 (lv_at hl 1 rfl) ?_
    refine lv_sipush (v := (1010 : Int32)) hx hb dX4_tell_89 (by decide) ?_
    refine lv_isub hx hb dX4_tell_92 ?_
    obtain ⟨t9, ht9, h⟩ := Option.bind_eq_some_iff.mp h
    refine xr_aldI X O ht9 dX4_tell_93 ?_
    refine lv_goto (tgt := 98) hx hb dX4_tell_94 (by decide) ?_
    exact F_X4_tell_98_ok X hr hlk v0 v1 v3 (v4 + 1) v5 t9 v4 t7 hW6 M _ h hK H locs ls O (lv_sub hl [2, 3, 4, 0, 5] rfl)
  rw [if_neg hc37] at h
  refine lv_aload_n hx hb dX4_tell_40 rfl (lv_at hl 1 rfl) ?_
  obtain ⟨t10, ht10, h⟩ := Option.bind_eq_some_iff.mp h
  refine xr_getP X O ht10 fl_X4_13 dX4_tell_41 ?_
  refine lv_iload hx hb dX4_tell_44 (lv_at hl 4 rfl) ?_
  refine lv_iinc (v := (v4 + 1)) (lv' := [(4, .int (v4 + 1)), (6, .int t2), (0, .ref (κ.1 + v0)), (1, .ref (κ.1 + v1)), (3, .int v3), (5, .int v5)]) hx hb dX4_tell_46 hl (k := 4) rfl rfl (by decide) rfl (fun ls hl => ?_)
  refine lv_iload hx hb dX4_tell_49 (lv_at hl 1 rfl) ?_
  obtain ⟨t11, ht11, h⟩ := Option.bind_eq_some_iff.mp h
  refine xr_stI X O ht11 dX4_tell_51 (fun H locs O => ?_)
  refine lv_goto (tgt := 256) hx hb dX4_tell_52 (by decide) ?_
  exact F_X4_tell_256_ok X hr hlk v0 v1 v3 (v4 + 1) v5 hW6 t11 _ h hK H locs ls O (lv_sub hl [2, 3, 4, 0, 5] rfl)
set_option maxRecDepth 100000 in
set_option maxHeartbeats 4000000 in
theorem F_X4_tell_6_ok (X : xX p s m args c cX4_tell 9 RX4 κ) (hr : meth.sig.returnType = (some .int)) (hlk : meth.locks = false) {ro : Int32} {mo : xM} (v0 : Nat) (v1 : Nat) (v3 : Int32) (v4 : Int32) (v5 : Int32) (M : xM) (x : Int32 × xM) (h : F_X4_tell_6 v0 v1 v3 v4 v5 M = some x) (hK : (fun o => o = (ro, mo)) x) (H : Heap) (locs : List Loc) (ls : Array Slot) (O : xO κ s M H locs) (hl : lv_has ls 9 [(0, .ref (κ.1 + v0)), (1, .ref (κ.1 + v1)), (3, .int v3), (4, .int v4), (5, .int v5)]) : W p l e (xRm 3 0 0) s m args below meth c H locs 0 0 (xQf below args s 0 0 κ (some (.int ro)) mo) (F0 m 6 ls []) := by
  refine xit_K (Wh := fun x => ∀ (H : Heap) (locs : List Loc) (ls : Array Slot), xO κ s x.2.2 H locs → lv_has ls 9 [(0, .ref (κ.1 + v0)), (1, .ref (κ.1 + v1)), (3, .int v3), (4, .int x.1), (5, .int x.2.1)] → W p l e (xRm 3 0 0) s m args below meth c H locs 0 0 (xQf below args s 0 0 κ (some (.int ro)) mo) (F0 m 6 ls [])) (Kp := (fun o => o = (ro, mo))) ?_ xFU (v4, v5, M) x h hK H locs ls O hl
  intro y x h hK H locs ls O hl
  exact F_X4_tell_6_bok X hr hlk v0 v1 v3 y.1 y.2.1 (fun _ _ _ hw => hw) y.2.2 x h hK H locs ls O hl
set_option maxRecDepth 100000 in
set_option maxHeartbeats 4000000 in
theorem T_X4_tell (l : Launch) (κ : xQ) (a0 : Nat) (a1 : Nat) (a2 : Int32) (a3 : Int32) (M : xM) (ro : Int32) (mo : xM) (h : F_X4_tell a0 a1 a2 a3 M = some (ro, mo)) : xC l yX4_tell cX4_tell 9 (some .int) 3 0 0 κ [.ref (κ.1 + a0), .ref (κ.1 + a1), .int a2, .int a3] M (some (.int ro)) mo := by
  refine xC_of rfl (Nat.le_of_ble_eq_true rfl) fun p e s m args below meth c X hr hlk hnm H locs ls O hl => ?_
  have X : xX p s m args c cX4_tell 9 RX4 κ := X
  have hl : lv_has ls 9 [(0, .ref (κ.1 + a0)), (1, .ref (κ.1 + a1)), (2, .int a2), (3, .int a3)] := hl
  have hx := X.1
  have hb := X.2.1
  obtain ⟨x, hx0⟩ : ∃ x, (ro, mo) = x := ⟨_, rfl⟩
  rw [hx0] at h
  have hK : x = (ro, mo) := hx0.symm
  unfold F_X4_tell at h
  refine lv_iconst (v := (0 : Int32)) hx hb dX4_tell_0 (by decide) ?_
  refine lv_istore (lv' := [(4, .int (0 : Int32)), (0, .ref (κ.1 + a0)), (1, .ref (κ.1 + a1)), (2, .int a2), (3, .int a3)]) hx hb dX4_tell_1 hl (by decide) rfl (fun ls hl => ?_)
  refine lv_iload_n hx hb dX4_tell_3 rfl (lv_at hl 3 rfl) ?_
  refine lv_istore (lv' := [(5, .int a2), (4, .int (0 : Int32)), (0, .ref (κ.1 + a0)), (1, .ref (κ.1 + a1)), (2, .int a2), (3, .int a3)]) hx hb dX4_tell_4 hl (by decide) rfl (fun ls hl => ?_)
  exact F_X4_tell_6_ok X hr hlk a0 a1 a3 (0 : Int32) a2 M _ h hK H locs ls O (lv_sub hl [2, 3, 5, 1, 0] rfl)
def F_X8_tideAt (a0 : Nat) (a1 : Nat) (a2 : Int32) (a3 : Int32) (M : xM) : Option (Int32 × xM) :=
(xgI M a1 3 8).bind fun t1 =>
(xgI M a1 3 9).bind fun t2 =>
if t1 < t2 then (
(xgP M a0 8 0).bind fun t3 =>
(xgP M t3 4 0).bind fun t4 =>
(xsI M t4 (0 : Int32) a2).bind fun t5 =>
(xgP t5 a0 8 0).bind fun t6 =>
(xgP t5 t6 4 0).bind fun t7 =>
(xsI t5 t7 (1 : Int32) a3).bind fun t8 =>
(xgP t8 a0 8 0).bind fun t9 =>
(xgP t8 a1 3 17).bind fun t10 =>
(xgI t8 a1 3 8).bind fun t11 =>
(xgI t8 a1 3 9).bind fun t12 =>
(xck t8 t9 4).bind fun _ =>
(F_X4_tell t9 t10 t11 t12 t8).bind fun t14 =>
(F_J9_min_7cf53 (10 : Int32) t14.1 t14.2).bind fun t15 =>
(F_J9_max_7cf53 (0 : Int32) t15.1 t15.2).bind fun t16 =>
some (t16.1, t16.2))
else (
(F_J9_floorMod_7cf53 a2 (18 : Int32) M).bind fun t17 =>
if t17.1 ≤ (9 : Int32) then (
some (t17.1, t17.2))
else (
some (((18 : Int32) - t17.1), t17.2)))
set_option maxRecDepth 100000 in
set_option maxHeartbeats 4000000 in
theorem T_X8_tideAt (l : Launch) (κ : xQ) (a0 : Nat) (a1 : Nat) (a2 : Int32) (a3 : Int32) (M : xM) (ro : Int32) (mo : xM) (h : F_X8_tideAt a0 a1 a2 a3 M = some (ro, mo)) : xC l yX8_tideAt cX8_tideAt 5 (some .int) 4 0 0 κ [.ref (κ.1 + a0), .ref (κ.1 + a1), .int a2, .int a3] M (some (.int ro)) mo := by
  refine xC_of rfl (Nat.le_of_ble_eq_true rfl) fun p e s m args below meth c X hr hlk hnm H locs ls O hl => ?_
  have X : xX p s m args c cX8_tideAt 5 RX8 κ := X
  have hl : lv_has ls 5 [(0, .ref (κ.1 + a0)), (1, .ref (κ.1 + a1)), (2, .int a2), (3, .int a3)] := hl
  have hx := X.1
  have hb := X.2.1
  obtain ⟨x, hx0⟩ : ∃ x, (ro, mo) = x := ⟨_, rfl⟩
  rw [hx0] at h
  have hK : x = (ro, mo) := hx0.symm
  unfold F_X8_tideAt at h
  refine lv_aload_n hx hb dX8_tideAt_0 rfl (lv_at hl 1 rfl) ?_
  obtain ⟨t1, ht1, h⟩ := Option.bind_eq_some_iff.mp h
  refine xr_getI X O ht1 fl_X8_25 (Or.inl rfl) dX8_tideAt_1 ?_
  refine lv_aload_n hx hb dX8_tideAt_4 rfl (lv_at hl 1 rfl) ?_
  obtain ⟨t2, ht2, h⟩ := Option.bind_eq_some_iff.mp h
  refine xr_getI X O ht2 fl_X8_31 (Or.inl rfl) dX8_tideAt_5 ?_
  refine lv_icmp_lt (tgt := 37) hx hb dX8_tideAt_8 (by decide) (fun hc8 => ?_) (fun hc8 => ?_)
  · rw [if_pos hc8] at h
    refine lv_aload_n hx hb dX8_tideAt_37 rfl (lv_at hl 0 rfl) ?_
    obtain ⟨t3, ht3, h⟩ := Option.bind_eq_some_iff.mp h
    refine xr_getP X O ht3 fl_X8_12 dX8_tideAt_38 ?_
    obtain ⟨t4, ht4, h⟩ := Option.bind_eq_some_iff.mp h
    refine xr_getP X O ht4 fl_X8_40 dX8_tideAt_41 ?_
    refine lv_iconst (v := (0 : Int32)) hx hb dX8_tideAt_44 (by decide) ?_
    refine lv_iload_n hx hb dX8_tideAt_45 rfl (lv_at hl 2 rfl) ?_
    obtain ⟨t5, ht5, h⟩ := Option.bind_eq_some_iff.mp h
    refine xr_stI X O ht5 dX8_tideAt_46 (fun H locs O => ?_)
    refine lv_aload_n hx hb dX8_tideAt_47 rfl (lv_at hl 0 rfl) ?_
    obtain ⟨t6, ht6, h⟩ := Option.bind_eq_some_iff.mp h
    refine xr_getP X O ht6 fl_X8_12 dX8_tideAt_48 ?_
    obtain ⟨t7, ht7, h⟩ := Option.bind_eq_some_iff.mp h
    refine xr_getP X O ht7 fl_X8_40 dX8_tideAt_51 ?_
    refine lv_iconst (v := (1 : Int32)) hx hb dX8_tideAt_54 (by decide) ?_
    refine lv_iload_n hx hb dX8_tideAt_55 rfl (lv_at hl 3 rfl) ?_
    obtain ⟨t8, ht8, h⟩ := Option.bind_eq_some_iff.mp h
    refine xr_stI X O ht8 dX8_tideAt_56 (fun H locs O => ?_)
    refine lv_aload_n hx hb dX8_tideAt_57 rfl (lv_at hl 0 rfl) ?_
    obtain ⟨t9, ht9, h⟩ := Option.bind_eq_some_iff.mp h
    refine xr_getP X O ht9 fl_X8_12 dX8_tideAt_58 ?_
    refine lv_aload_n hx hb dX8_tideAt_61 rfl (lv_at hl 1 rfl) ?_
    obtain ⟨t10, ht10, h⟩ := Option.bind_eq_some_iff.mp h
    refine xr_getP X O ht10 fl_X8_43 dX8_tideAt_62 ?_
    refine lv_aload_n hx hb dX8_tideAt_65 rfl (lv_at hl 1 rfl) ?_
    obtain ⟨t11, ht11, h⟩ := Option.bind_eq_some_iff.mp h
    refine xr_getI X O ht11 fl_X8_25 (Or.inl rfl) dX8_tideAt_66 ?_
    refine lv_aload_n hx hb dX8_tideAt_69 rfl (lv_at hl 1 rfl) ?_
    obtain ⟨t12, ht12, h⟩ := Option.bind_eq_some_iff.mp h
    refine xr_getI X O ht12 fl_X8_31 (Or.inl rfl) dX8_tideAt_70 ?_
    obtain ⟨_, hut13, h⟩ := Option.bind_eq_some_iff.mp h
    obtain ⟨t14, ht14, h⟩ := Option.bind_eq_some_iff.mp h
    refine xr_callV (rest := []) X O (T_X4_tell l κ t9 t10 t11 t12 t8 _ _ ht14) lk_X8_46 hut13 (Nat.le_of_ble_eq_true rfl) rfl hl.1 rfl (Nat.le_of_ble_eq_true rfl) dX8_tideAt_73 ⟨Nat.le_of_ble_eq_true rfl, Nat.le_of_ble_eq_true rfl⟩ (fun H locs O => ?_)
    refine W.eq (g2 := F0 m 76 ls [.int t14.1]) rfl ?_
    refine lv_istore (lv' := [(4, .int t14.1), (0, .ref (κ.1 + a0)), (1, .ref (κ.1 + a1)), (2, .int a2), (3, .int a3)]) hx hb dX8_tideAt_76 hl (by decide) rfl (fun ls hl => ?_)
    refine lv_iconst (v := (0 : Int32)) hx hb dX8_tideAt_78 (by decide) ?_
    refine lv_bipush (v := (10 : Int32)) hx hb dX8_tideAt_79 (by decide) ?_
    refine lv_iload hx hb dX8_tideAt_81 (lv_at hl 0 rfl) ?_
    obtain ⟨t15, ht15, h⟩ := Option.bind_eq_some_iff.mp h
    refine xr_callS (rest := [.int (0 : Int32)]) X O (T_J9_min_7cf53 l κ (10 : Int32) t14.1 t14.2 _ _ ht15) lk_X8_50 (Nat.le_of_ble_eq_true rfl) rfl hl.1 rfl (Nat.le_of_ble_eq_true rfl) dX8_tideAt_83 ⟨Nat.le_of_ble_eq_true rfl, Nat.le_of_ble_eq_true rfl⟩ (fun H locs O => ?_)
    refine W.eq (g2 := F0 m 86 ls [.int t15.1, .int (0 : Int32)]) rfl ?_
    obtain ⟨t16, ht16, h⟩ := Option.bind_eq_some_iff.mp h
    refine xr_callS (rest := []) X O (T_J9_max_7cf53 l κ (0 : Int32) t15.1 t15.2 _ _ ht16) lk_X8_53 (Nat.le_of_ble_eq_true rfl) rfl hl.1 rfl (Nat.le_of_ble_eq_true rfl) dX8_tideAt_86 ⟨Nat.le_of_ble_eq_true rfl, Nat.le_of_ble_eq_true rfl⟩ (fun H locs O => ?_)
    refine W.eq (g2 := F0 m 89 ls [.int t16.1]) rfl ?_
    rw [← Option.some.inj h] at hK
    have hK : (t16.1, t16.2) = (ro, mo) := hK
    obtain ⟨hK1, hK2⟩ := Prod.mk.inj hK
    rw [hK2] at O
    refine xr_top (w := .int ro) (by rw [hK1]) ?_
    exact xr_iret X hr hlk O dX8_tideAt_89
  rw [if_neg hc8] at h
  refine lv_iload_n hx hb dX8_tideAt_11 rfl (lv_at hl 2 rfl) ?_
  refine lv_bipush (v := (18 : Int32)) hx hb dX8_tideAt_12 (by decide) ?_
  obtain ⟨t17, ht17, h⟩ := Option.bind_eq_some_iff.mp h
  refine xr_callS (rest := []) X O (T_J9_floorMod_7cf53 l κ a2 (18 : Int32) M _ _ ht17) lk_X8_34 (Nat.le_of_ble_eq_true rfl) rfl hl.1 rfl (Nat.le_of_ble_eq_true rfl) dX8_tideAt_14 ⟨Nat.le_of_ble_eq_true rfl, Nat.le_of_ble_eq_true rfl⟩ (fun H locs O => ?_)
  refine W.eq (g2 := F0 m 17 ls [.int t17.1]) rfl ?_
  refine lv_istore (lv' := [(4, .int t17.1), (0, .ref (κ.1 + a0)), (1, .ref (κ.1 + a1)), (2, .int a2), (3, .int a3)]) hx hb dX8_tideAt_17 hl (by decide) rfl (fun ls hl => ?_)
  refine lv_iload hx hb dX8_tideAt_19 (lv_at hl 0 rfl) ?_
  refine lv_bipush (v := (9 : Int32)) hx hb dX8_tideAt_21 (by decide) ?_
  refine lv_icmp_le (tgt := 34) hx hb dX8_tideAt_23 (by decide) (fun hc23 => ?_) (fun hc23 => ?_)
  · rw [if_pos hc23] at h
    refine lv_iload hx hb dX8_tideAt_34 (lv_at hl 0 rfl) ?_
    rw [← Option.some.inj h] at hK
    have hK : (t17.1, t17.2) = (ro, mo) := hK
    obtain ⟨hK1, hK2⟩ := Prod.mk.inj hK
    rw [hK2] at O
    refine xr_top (w := .int ro) (by rw [hK1]) ?_
    exact xr_iret X hr hlk O dX8_tideAt_36
  rw [if_neg hc23] at h
  refine lv_bipush (v := (18 : Int32)) hx hb dX8_tideAt_26 (by decide) ?_
  refine lv_iload hx hb dX8_tideAt_28 (lv_at hl 0 rfl) ?_
  refine lv_isub hx hb dX8_tideAt_30 ?_
  refine lv_goto (tgt := 36) hx hb dX8_tideAt_31 (by decide) ?_
  rw [← Option.some.inj h] at hK
  have hK : (((18 : Int32) - t17.1), t17.2) = (ro, mo) := hK
  obtain ⟨hK1, hK2⟩ := Prod.mk.inj hK
  rw [hK2] at O
  refine xr_top (w := .int ro) (by rw [hK1]) ?_
  exact xr_iret X hr hlk O dX8_tideAt_36
def F_X8_wetAt_38 (v0 : Nat) (v1 : Nat) (v2 : Int32) (v3 : Int32) (v4 : Int32) (v5 : Int32) (M : xM) : Option ((Int32 × Int32 × xM) ⊕ (Int32 × xM)) :=
some (.inl (v3, (v5 + 1), M))
def F_X8_wetAt_99 (v5 : Int32) (M : xM) : Option (Int32 × xM) :=
some (v5, M)
def F_X8_wetAt_86 (v5 : Int32) (M : xM) : Option (Int32 × xM) :=
F_X8_wetAt_99 v5 M
def F_X8_wetAt_59b (v0 : Nat) (v3 : Int32) : (Int32 × Int32 × xM) → Option ((Int32 × Int32 × xM) ⊕ (Int32 × xM)) := fun ⟨v5, v6, M⟩ =>
if (25 : Int32) ≤ v6 then (
(F_X8_wetAt_99 v5 M).map Sum.inr)
else (
(F_X8_besides v0 v5 M).bind fun t9 =>
(some ((v5 ||| (t9.1 &&& v3)))).bind fun t10 =>
if t10 = v5 then (
(F_X8_wetAt_86 v5 t9.2).map Sum.inr)
else (
some (.inl (t10, (v6 + 1), t9.2))))
def F_X8_wetAt_59 (v0 : Nat) (v3 : Int32) (v5 : Int32) (v6 : Int32) (M : xM) : Option (Int32 × xM) := xit (F_X8_wetAt_59b v0 v3) xFU (v5, v6, M)
def F_X8_wetAt_44 (v0 : Nat) (v3 : Int32) (M : xM) : Option (Int32 × xM) :=
(xgI M v0 3 1).bind fun t7 =>
(some ((v3 &&& (((1 : Int32) <<< (t7 &&& 31)) - (1 : Int32))))).bind fun t8 =>
F_X8_wetAt_59 v0 v3 t8 (0 : Int32) M
def F_X8_wetAt_16b (v0 : Nat) (v1 : Nat) (v2 : Int32) (v4 : Int32) : (Int32 × Int32 × xM) → Option ((Int32 × Int32 × xM) ⊕ (Int32 × xM)) := fun ⟨v3, v5, M⟩ =>
if v4 ≤ v5 then (
(F_X8_wetAt_44 v0 v3 M).map Sum.inr)
else (
(xaI M 20 v1 v5).bind fun t5 =>
if v2 ≤ t5 then (
F_X8_wetAt_38 v0 v1 v2 v3 v4 v5 M)
else (
(some ((v3 ||| ((1 : Int32) <<< (v5 &&& 31))))).bind fun t6 =>
F_X8_wetAt_38 v0 v1 v2 t6 v4 v5 M))
def F_X8_wetAt_16 (v0 : Nat) (v1 : Nat) (v2 : Int32) (v3 : Int32) (v4 : Int32) (v5 : Int32) (M : xM) : Option (Int32 × xM) := xit (F_X8_wetAt_16b v0 v1 v2 v4) xFU (v3, v5, M)
def F_X8_wetAt (a0 : Nat) (a1 : Nat) (a2 : Int32) (M : xM) : Option (Int32 × xM) :=
(xck M a0 3).bind fun _ =>
(F_X3_cells a0 M).bind fun t2 =>
(xal t2.2 20 a1).bind fun t3 =>
(F_J9_min_7cf53 t2.1 t3 t2.2).bind fun t4 =>
F_X8_wetAt_16 a0 a1 a2 (0 : Int32) t4.1 (0 : Int32) t4.2
set_option maxRecDepth 100000 in
set_option maxHeartbeats 4000000 in
theorem F_X8_wetAt_38_ok (X : xX p s m args c cX8_wetAt 8 RX8 κ) (hr : meth.sig.returnType = (some .int)) (hlk : meth.locks = false) {ro : Int32} {mo : xM} (v0 : Nat) (v1 : Nat) (v2 : Int32) (v3 : Int32) (v4 : Int32) (v5 : Int32) {W16 : Int32 × Int32 × xM → Prop} (hW16 : ∀ (v3 : Int32) (v5 : Int32) (M : xM), W16 (v3, v5, M) → ∀ (H : Heap) (locs : List Loc) (ls : Array Slot), xO κ s M H locs → lv_has ls 8 [(0, .ref (κ.1 + v0)), (1, .ref (κ.1 + v1)), (2, .int v2), (3, .int v3), (4, .int v4), (5, .int v5)] → W p l e (xRm 3 0 0) s m args below meth c H locs 0 0 (xQf below args s 0 0 κ (some (.int ro)) mo) (F0 m 16 ls [])) (M : xM) (x : (Int32 × Int32 × xM) ⊕ (Int32 × xM)) (h : F_X8_wetAt_38 v0 v1 v2 v3 v4 v5 M = some x) (hK : (xKl W16 (fun o => o = (ro, mo))) x) (H : Heap) (locs : List Loc) (ls : Array Slot) (O : xO κ s M H locs) (hl : lv_has ls 8 [(0, .ref (κ.1 + v0)), (1, .ref (κ.1 + v1)), (2, .int v2), (3, .int v3), (4, .int v4), (5, .int v5)]) : W p l e (xRm 3 0 0) s m args below meth c H locs 0 0 (xQf below args s 0 0 κ (some (.int ro)) mo) (F0 m 38 ls []) := by
  unfold F_X8_wetAt_38 at h
  have hx := X.1
  have hb := X.2.1
  refine lv_iinc (v := (v5 + 1)) (lv' := [(5, .int (v5 + 1)), (0, .ref (κ.1 + v0)), (1, .ref (κ.1 + v1)), (2, .int v2), (3, .int v3), (4, .int v4)]) hx hb dX8_wetAt_38 hl (k := 5) rfl rfl (by decide) rfl (fun ls hl => ?_)
  refine lv_goto (tgt := 16) hx hb dX8_wetAt_41 (by decide) ?_
  rw [← Option.some.inj h] at hK
  exact hW16 v3 (v5 + 1) M hK H locs ls O (lv_sub hl [1, 2, 3, 4, 5, 0] rfl)
set_option maxRecDepth 100000 in
set_option maxHeartbeats 4000000 in
theorem F_X8_wetAt_99_ok (X : xX p s m args c cX8_wetAt 8 RX8 κ) (hr : meth.sig.returnType = (some .int)) (hlk : meth.locks = false) {ro : Int32} {mo : xM} (v5 : Int32) (M : xM) (x : Int32 × xM) (h : F_X8_wetAt_99 v5 M = some x) (hK : (fun o => o = (ro, mo)) x) (H : Heap) (locs : List Loc) (ls : Array Slot) (O : xO κ s M H locs) (hl : lv_has ls 8 [(5, .int v5)]) : W p l e (xRm 3 0 0) s m args below meth c H locs 0 0 (xQf below args s 0 0 κ (some (.int ro)) mo) (F0 m 99 ls []) := by
  unfold F_X8_wetAt_99 at h
  have hx := X.1
  have hb := X.2.1
  refine lv_iload hx hb dX8_wetAt_99 (lv_at hl 0 rfl) ?_
  rw [← Option.some.inj h] at hK
  have hK : (v5, M) = (ro, mo) := hK
  obtain ⟨hK1, hK2⟩ := Prod.mk.inj hK
  rw [hK2] at O
  refine xr_top (w := .int ro) (by rw [hK1]) ?_
  exact xr_iret X hr hlk O dX8_wetAt_101
set_option maxRecDepth 100000 in
set_option maxHeartbeats 4000000 in
theorem F_X8_wetAt_86_ok (X : xX p s m args c cX8_wetAt 8 RX8 κ) (hr : meth.sig.returnType = (some .int)) (hlk : meth.locks = false) {ro : Int32} {mo : xM} (v5 : Int32) (M : xM) (x : Int32 × xM) (h : F_X8_wetAt_86 v5 M = some x) (hK : (fun o => o = (ro, mo)) x) (H : Heap) (locs : List Loc) (ls : Array Slot) (O : xO κ s M H locs) (hl : lv_has ls 8 [(5, .int v5)]) : W p l e (xRm 3 0 0) s m args below meth c H locs 0 0 (xQf below args s 0 0 κ (some (.int ro)) mo) (F0 m 86 ls []) := by
  unfold F_X8_wetAt_86 at h
  have hx := X.1
  have hb := X.2.1
  refine lv_goto (tgt := 99) hx hb dX8_wetAt_86 (by decide) ?_
  exact F_X8_wetAt_99_ok X hr hlk v5 M _ h hK H locs ls O (lv_sub hl [0] rfl)
set_option maxRecDepth 100000 in
set_option maxHeartbeats 4000000 in
theorem F_X8_wetAt_59_bok (X : xX p s m args c cX8_wetAt 8 RX8 κ) (hr : meth.sig.returnType = (some .int)) (hlk : meth.locks = false) {ro : Int32} {mo : xM} (v0 : Nat) (v3 : Int32) (v5 : Int32) (v6 : Int32) {W59 : Int32 × Int32 × xM → Prop} (hW59 : ∀ (v5 : Int32) (v6 : Int32) (M : xM), W59 (v5, v6, M) → ∀ (H : Heap) (locs : List Loc) (ls : Array Slot), xO κ s M H locs → lv_has ls 8 [(0, .ref (κ.1 + v0)), (3, .int v3), (5, .int v5), (6, .int v6)] → W p l e (xRm 3 0 0) s m args below meth c H locs 0 0 (xQf below args s 0 0 κ (some (.int ro)) mo) (F0 m 59 ls [])) (M : xM) (x : (Int32 × Int32 × xM) ⊕ (Int32 × xM)) (h : F_X8_wetAt_59b v0 v3 (v5, v6, M) = some x) (hK : (xKl W59 (fun o => o = (ro, mo))) x) (H : Heap) (locs : List Loc) (ls : Array Slot) (O : xO κ s M H locs) (hl : lv_has ls 8 [(0, .ref (κ.1 + v0)), (3, .int v3), (5, .int v5), (6, .int v6)]) : W p l e (xRm 3 0 0) s m args below meth c H locs 0 0 (xQf below args s 0 0 κ (some (.int ro)) mo) (F0 m 59 ls []) := by
  unfold F_X8_wetAt_59b at h
  dsimp only at h
  have hx := X.1
  have hb := X.2.1
  refine lv_iload hx hb dX8_wetAt_59 (lv_at hl 3 rfl) ?_
  refine lv_bipush (v := (25 : Int32)) hx hb dX8_wetAt_61 (by decide) ?_
  refine lv_icmp_ge (tgt := 99) hx hb dX8_wetAt_63 (by decide) (fun hc63 => ?_) (fun hc63 => ?_)
  · rw [if_pos hc63] at h
    obtain ⟨_, hw0, ew0⟩ := Option.map_eq_some_iff.mp h
    rw [← ew0] at hK
    have h := hw0
    exact F_X8_wetAt_99_ok X hr hlk v5 M _ h hK H locs ls O (lv_sub hl [2] rfl)
  rw [if_neg hc63] at h
  refine lv_iload hx hb dX8_wetAt_66 (lv_at hl 2 rfl) ?_
  refine lv_aload_n hx hb dX8_wetAt_68 rfl (lv_at hl 0 rfl) ?_
  refine lv_iload hx hb dX8_wetAt_69 (lv_at hl 2 rfl) ?_
  obtain ⟨t9, ht9, h⟩ := Option.bind_eq_some_iff.mp h
  refine xr_callS (rest := [.int v5]) X O (T_X8_besides l κ v0 v5 M _ _ ht9) lk_X8_63 (Nat.le_of_ble_eq_true rfl) rfl hl.1 rfl (Nat.le_of_ble_eq_true rfl) dX8_wetAt_71 ⟨Nat.le_of_ble_eq_true rfl, Nat.le_of_ble_eq_true rfl⟩ (fun H locs O => ?_)
  refine W.eq (g2 := F0 m 74 ls [.int t9.1, .int v5]) rfl ?_
  refine lv_iload_n hx hb dX8_wetAt_74 rfl (lv_at hl 1 rfl) ?_
  refine lv_iand hx hb dX8_wetAt_75 ?_
  refine lv_ior hx hb dX8_wetAt_76 ?_
  obtain ⟨t10, ht10, h⟩ := Option.bind_eq_some_iff.mp h
  refine xr_top (w := .int t10) (by rw [Option.some.inj ht10]) ?_
  refine lv_istore (lv' := [(7, .int t10), (0, .ref (κ.1 + v0)), (3, .int v3), (5, .int v5), (6, .int v6)]) hx hb dX8_wetAt_77 hl (by decide) rfl (fun ls hl => ?_)
  refine lv_iload hx hb dX8_wetAt_79 (lv_at hl 0 rfl) ?_
  refine lv_iload hx hb dX8_wetAt_81 (lv_at hl 3 rfl) ?_
  refine lv_icmp_ne (tgt := 89) hx hb dX8_wetAt_83 (by decide) (fun hc83 => ?_) (fun hc83 => ?_)
  · rw [if_neg hc83] at h
    refine lv_iload hx hb dX8_wetAt_89 (lv_at hl 0 rfl) ?_
    refine lv_istore (lv' := [(5, .int t10), (7, .int t10), (0, .ref (κ.1 + v0)), (3, .int v3), (6, .int v6)]) hx hb dX8_wetAt_91 hl (by decide) rfl (fun ls hl => ?_)
    refine lv_iinc (v := (v6 + 1)) (lv' := [(6, .int (v6 + 1)), (5, .int t10), (7, .int t10), (0, .ref (κ.1 + v0)), (3, .int v3)]) hx hb dX8_wetAt_93 hl (k := 4) rfl rfl (by decide) rfl (fun ls hl => ?_)
    refine lv_goto (tgt := 59) hx hb dX8_wetAt_96 (by decide) ?_
    rw [← Option.some.inj h] at hK
    exact hW59 t10 (v6 + 1) t9.2 hK H locs ls O (lv_sub hl [3, 4, 1, 0] rfl)
  rw [if_pos hc83] at h
  obtain ⟨_, hw0, ew0⟩ := Option.map_eq_some_iff.mp h
  rw [← ew0] at hK
  have h := hw0
  exact F_X8_wetAt_86_ok X hr hlk v5 t9.2 _ h hK H locs ls O (lv_sub hl [3] rfl)
set_option maxRecDepth 100000 in
set_option maxHeartbeats 4000000 in
theorem F_X8_wetAt_59_ok (X : xX p s m args c cX8_wetAt 8 RX8 κ) (hr : meth.sig.returnType = (some .int)) (hlk : meth.locks = false) {ro : Int32} {mo : xM} (v0 : Nat) (v3 : Int32) (v5 : Int32) (v6 : Int32) (M : xM) (x : Int32 × xM) (h : F_X8_wetAt_59 v0 v3 v5 v6 M = some x) (hK : (fun o => o = (ro, mo)) x) (H : Heap) (locs : List Loc) (ls : Array Slot) (O : xO κ s M H locs) (hl : lv_has ls 8 [(0, .ref (κ.1 + v0)), (3, .int v3), (5, .int v5), (6, .int v6)]) : W p l e (xRm 3 0 0) s m args below meth c H locs 0 0 (xQf below args s 0 0 κ (some (.int ro)) mo) (F0 m 59 ls []) := by
  refine xit_K (Wh := fun x => ∀ (H : Heap) (locs : List Loc) (ls : Array Slot), xO κ s x.2.2 H locs → lv_has ls 8 [(0, .ref (κ.1 + v0)), (3, .int v3), (5, .int x.1), (6, .int x.2.1)] → W p l e (xRm 3 0 0) s m args below meth c H locs 0 0 (xQf below args s 0 0 κ (some (.int ro)) mo) (F0 m 59 ls [])) (Kp := (fun o => o = (ro, mo))) ?_ xFU (v5, v6, M) x h hK H locs ls O hl
  intro y x h hK H locs ls O hl
  exact F_X8_wetAt_59_bok X hr hlk v0 v3 y.1 y.2.1 (fun _ _ _ hw => hw) y.2.2 x h hK H locs ls O hl
set_option maxRecDepth 100000 in
set_option maxHeartbeats 4000000 in
theorem F_X8_wetAt_44_ok (X : xX p s m args c cX8_wetAt 8 RX8 κ) (hr : meth.sig.returnType = (some .int)) (hlk : meth.locks = false) {ro : Int32} {mo : xM} (v0 : Nat) (v3 : Int32) (M : xM) (x : Int32 × xM) (h : F_X8_wetAt_44 v0 v3 M = some x) (hK : (fun o => o = (ro, mo)) x) (H : Heap) (locs : List Loc) (ls : Array Slot) (O : xO κ s M H locs) (hl : lv_has ls 8 [(0, .ref (κ.1 + v0)), (3, .int v3)]) : W p l e (xRm 3 0 0) s m args below meth c H locs 0 0 (xQf below args s 0 0 κ (some (.int ro)) mo) (F0 m 44 ls []) := by
  unfold F_X8_wetAt_44 at h
  have hx := X.1
  have hb := X.2.1
  refine lv_iload_n hx hb dX8_wetAt_44 rfl (lv_at hl 1 rfl) ?_
  refine lv_iconst (v := (1 : Int32)) hx hb dX8_wetAt_45 (by decide) ?_
  refine lv_aload_n hx hb dX8_wetAt_46 rfl (lv_at hl 0 rfl) ?_
  obtain ⟨t7, ht7, h⟩ := Option.bind_eq_some_iff.mp h
  refine xr_getI X O ht7 fl_X8_60 (Or.inl rfl) dX8_wetAt_47 ?_
  refine lv_ishl hx hb dX8_wetAt_50 ?_
  refine lv_iconst (v := (1 : Int32)) hx hb dX8_wetAt_51 (by decide) ?_
  refine lv_isub hx hb dX8_wetAt_52 ?_
  refine lv_iand hx hb dX8_wetAt_53 ?_
  obtain ⟨t8, ht8, h⟩ := Option.bind_eq_some_iff.mp h
  refine xr_top (w := .int t8) (by rw [Option.some.inj ht8]) ?_
  refine lv_istore (lv' := [(5, .int t8), (0, .ref (κ.1 + v0)), (3, .int v3)]) hx hb dX8_wetAt_54 hl (by decide) rfl (fun ls hl => ?_)
  refine lv_iconst (v := (0 : Int32)) hx hb dX8_wetAt_56 (by decide) ?_
  refine lv_istore (lv' := [(6, .int (0 : Int32)), (5, .int t8), (0, .ref (κ.1 + v0)), (3, .int v3)]) hx hb dX8_wetAt_57 hl (by decide) rfl (fun ls hl => ?_)
  exact F_X8_wetAt_59_ok X hr hlk v0 v3 t8 (0 : Int32) M _ h hK H locs ls O (lv_sub hl [2, 3, 1, 0] rfl)
set_option maxRecDepth 100000 in
set_option maxHeartbeats 4000000 in
theorem F_X8_wetAt_16_bok (X : xX p s m args c cX8_wetAt 8 RX8 κ) (hr : meth.sig.returnType = (some .int)) (hlk : meth.locks = false) {ro : Int32} {mo : xM} (v0 : Nat) (v1 : Nat) (v2 : Int32) (v3 : Int32) (v4 : Int32) (v5 : Int32) {W16 : Int32 × Int32 × xM → Prop} (hW16 : ∀ (v3 : Int32) (v5 : Int32) (M : xM), W16 (v3, v5, M) → ∀ (H : Heap) (locs : List Loc) (ls : Array Slot), xO κ s M H locs → lv_has ls 8 [(0, .ref (κ.1 + v0)), (1, .ref (κ.1 + v1)), (2, .int v2), (3, .int v3), (4, .int v4), (5, .int v5)] → W p l e (xRm 3 0 0) s m args below meth c H locs 0 0 (xQf below args s 0 0 κ (some (.int ro)) mo) (F0 m 16 ls [])) (M : xM) (x : (Int32 × Int32 × xM) ⊕ (Int32 × xM)) (h : F_X8_wetAt_16b v0 v1 v2 v4 (v3, v5, M) = some x) (hK : (xKl W16 (fun o => o = (ro, mo))) x) (H : Heap) (locs : List Loc) (ls : Array Slot) (O : xO κ s M H locs) (hl : lv_has ls 8 [(0, .ref (κ.1 + v0)), (1, .ref (κ.1 + v1)), (2, .int v2), (3, .int v3), (4, .int v4), (5, .int v5)]) : W p l e (xRm 3 0 0) s m args below meth c H locs 0 0 (xQf below args s 0 0 κ (some (.int ro)) mo) (F0 m 16 ls []) := by
  unfold F_X8_wetAt_16b at h
  dsimp only at h
  have hx := X.1
  have hb := X.2.1
  refine lv_iload hx hb dX8_wetAt_16 (lv_at hl 5 rfl) ?_
  refine lv_iload hx hb dX8_wetAt_18 (lv_at hl 4 rfl) ?_
  refine lv_icmp_ge (tgt := 44) hx hb dX8_wetAt_20 (by decide) (fun hc20 => ?_) (fun hc20 => ?_)
  · rw [if_pos hc20] at h
    obtain ⟨_, hw0, ew0⟩ := Option.map_eq_some_iff.mp h
    rw [← ew0] at hK
    have h := hw0
    exact F_X8_wetAt_44_ok X hr hlk v0 v3 M _ h hK H locs ls O (lv_sub hl [0, 3] rfl)
  rw [if_neg hc20] at h
  refine lv_aload_n hx hb dX8_wetAt_23 rfl (lv_at hl 1 rfl) ?_
  refine lv_iload hx hb dX8_wetAt_24 (lv_at hl 5 rfl) ?_
  obtain ⟨t5, ht5, h⟩ := Option.bind_eq_some_iff.mp h
  refine xr_aldI X O ht5 dX8_wetAt_26 ?_
  refine lv_iload_n hx hb dX8_wetAt_27 rfl (lv_at hl 2 rfl) ?_
  refine lv_icmp_ge (tgt := 38) hx hb dX8_wetAt_28 (by decide) (fun hc28 => ?_) (fun hc28 => ?_)
  · rw [if_pos hc28] at h
    exact F_X8_wetAt_38_ok X hr hlk v0 v1 v2 v3 v4 v5 hW16 M _ h hK H locs ls O (lv_sub hl [0, 1, 2, 3, 4, 5] rfl)
  rw [if_neg hc28] at h
  refine lv_iload_n hx hb dX8_wetAt_31 rfl (lv_at hl 3 rfl) ?_
  refine lv_iconst (v := (1 : Int32)) hx hb dX8_wetAt_32 (by decide) ?_
  refine lv_iload hx hb dX8_wetAt_33 (lv_at hl 5 rfl) ?_
  refine lv_ishl hx hb dX8_wetAt_35 ?_
  refine lv_ior hx hb dX8_wetAt_36 ?_
  obtain ⟨t6, ht6, h⟩ := Option.bind_eq_some_iff.mp h
  refine xr_top (w := .int t6) (by rw [Option.some.inj ht6]) ?_
  refine lv_istore_n (lv' := [(3, .int t6), (0, .ref (κ.1 + v0)), (1, .ref (κ.1 + v1)), (2, .int v2), (4, .int v4), (5, .int v5)]) hx hb dX8_wetAt_37 rfl hl (by decide) rfl (fun ls hl => ?_)
  exact F_X8_wetAt_38_ok X hr hlk v0 v1 v2 t6 v4 v5 hW16 M _ h hK H locs ls O (lv_sub hl [1, 2, 3, 0, 4, 5] rfl)
set_option maxRecDepth 100000 in
set_option maxHeartbeats 4000000 in
theorem F_X8_wetAt_16_ok (X : xX p s m args c cX8_wetAt 8 RX8 κ) (hr : meth.sig.returnType = (some .int)) (hlk : meth.locks = false) {ro : Int32} {mo : xM} (v0 : Nat) (v1 : Nat) (v2 : Int32) (v3 : Int32) (v4 : Int32) (v5 : Int32) (M : xM) (x : Int32 × xM) (h : F_X8_wetAt_16 v0 v1 v2 v3 v4 v5 M = some x) (hK : (fun o => o = (ro, mo)) x) (H : Heap) (locs : List Loc) (ls : Array Slot) (O : xO κ s M H locs) (hl : lv_has ls 8 [(0, .ref (κ.1 + v0)), (1, .ref (κ.1 + v1)), (2, .int v2), (3, .int v3), (4, .int v4), (5, .int v5)]) : W p l e (xRm 3 0 0) s m args below meth c H locs 0 0 (xQf below args s 0 0 κ (some (.int ro)) mo) (F0 m 16 ls []) := by
  refine xit_K (Wh := fun x => ∀ (H : Heap) (locs : List Loc) (ls : Array Slot), xO κ s x.2.2 H locs → lv_has ls 8 [(0, .ref (κ.1 + v0)), (1, .ref (κ.1 + v1)), (2, .int v2), (3, .int x.1), (4, .int v4), (5, .int x.2.1)] → W p l e (xRm 3 0 0) s m args below meth c H locs 0 0 (xQf below args s 0 0 κ (some (.int ro)) mo) (F0 m 16 ls [])) (Kp := (fun o => o = (ro, mo))) ?_ xFU (v3, v5, M) x h hK H locs ls O hl
  intro y x h hK H locs ls O hl
  exact F_X8_wetAt_16_bok X hr hlk v0 v1 v2 y.1 v4 y.2.1 (fun _ _ _ hw => hw) y.2.2 x h hK H locs ls O hl
set_option maxRecDepth 100000 in
set_option maxHeartbeats 4000000 in
theorem T_X8_wetAt (l : Launch) (κ : xQ) (a0 : Nat) (a1 : Nat) (a2 : Int32) (M : xM) (ro : Int32) (mo : xM) (h : F_X8_wetAt a0 a1 a2 M = some (ro, mo)) : xC l yX8_wetAt cX8_wetAt 8 (some .int) 3 0 0 κ [.ref (κ.1 + a0), .ref (κ.1 + a1), .int a2] M (some (.int ro)) mo := by
  refine xC_of rfl (Nat.le_of_ble_eq_true rfl) fun p e s m args below meth c X hr hlk hnm H locs ls O hl => ?_
  have X : xX p s m args c cX8_wetAt 8 RX8 κ := X
  have hl : lv_has ls 8 [(0, .ref (κ.1 + a0)), (1, .ref (κ.1 + a1)), (2, .int a2)] := hl
  have hx := X.1
  have hb := X.2.1
  obtain ⟨x, hx0⟩ : ∃ x, (ro, mo) = x := ⟨_, rfl⟩
  rw [hx0] at h
  have hK : x = (ro, mo) := hx0.symm
  unfold F_X8_wetAt at h
  refine lv_iconst (v := (0 : Int32)) hx hb dX8_wetAt_0 (by decide) ?_
  refine lv_istore_n (lv' := [(3, .int (0 : Int32)), (0, .ref (κ.1 + a0)), (1, .ref (κ.1 + a1)), (2, .int a2)]) hx hb dX8_wetAt_1 rfl hl (by decide) rfl (fun ls hl => ?_)
  refine lv_aload_n hx hb dX8_wetAt_2 rfl (lv_at hl 1 rfl) ?_
  obtain ⟨_, hut1, h⟩ := Option.bind_eq_some_iff.mp h
  obtain ⟨t2, ht2, h⟩ := Option.bind_eq_some_iff.mp h
  refine xr_callV (rest := []) X O (T_X3_cells l κ a0 M _ _ ht2) lk_X8_56 hut1 (Nat.le_of_ble_eq_true rfl) rfl hl.1 rfl (Nat.le_of_ble_eq_true rfl) dX8_wetAt_3 ⟨Nat.le_of_ble_eq_true rfl, Nat.le_of_ble_eq_true rfl⟩ (fun H locs O => ?_)
  refine W.eq (g2 := F0 m 6 ls [.int t2.1]) rfl ?_
  refine lv_aload_n hx hb dX8_wetAt_6 rfl (lv_at hl 2 rfl) ?_
  obtain ⟨t3, ht3, h⟩ := Option.bind_eq_some_iff.mp h
  refine xr_aldLen X O ht3 (by decide) dX8_wetAt_7 ?_
  obtain ⟨t4, ht4, h⟩ := Option.bind_eq_some_iff.mp h
  refine xr_callS (rest := []) X O (T_J9_min_7cf53 l κ t2.1 t3 t2.2 _ _ ht4) lk_X8_50 (Nat.le_of_ble_eq_true rfl) rfl hl.1 rfl (Nat.le_of_ble_eq_true rfl) dX8_wetAt_8 ⟨Nat.le_of_ble_eq_true rfl, Nat.le_of_ble_eq_true rfl⟩ (fun H locs O => ?_)
  refine W.eq (g2 := F0 m 11 ls [.int t4.1]) rfl ?_
  refine lv_istore (lv' := [(4, .int t4.1), (3, .int (0 : Int32)), (0, .ref (κ.1 + a0)), (1, .ref (κ.1 + a1)), (2, .int a2)]) hx hb dX8_wetAt_11 hl (by decide) rfl (fun ls hl => ?_)
  refine lv_iconst (v := (0 : Int32)) hx hb dX8_wetAt_13 (by decide) ?_
  refine lv_istore (lv' := [(5, .int (0 : Int32)), (4, .int t4.1), (3, .int (0 : Int32)), (0, .ref (κ.1 + a0)), (1, .ref (κ.1 + a1)), (2, .int a2)]) hx hb dX8_wetAt_14 hl (by decide) rfl (fun ls hl => ?_)
  exact F_X8_wetAt_16_ok X hr hlk a0 a1 a2 (0 : Int32) t4.1 (0 : Int32) t4.2 _ h hK H locs ls O (lv_sub hl [3, 4, 5, 2, 1, 0] rfl)
def F_J6_bitCount_0f7a4 (a0 : Int32) (M : xM) : Option (Int32 × xM) :=
(some ((a0 - ((a0.toUInt32 >>> ((1 : Int32).toUInt32 &&& Int32.toUInt32 31)).toInt32 &&& (1431655765 : Int32))))).bind fun t1 =>
(some (((t1 &&& (858993459 : Int32)) + ((t1.toUInt32 >>> ((2 : Int32).toUInt32 &&& Int32.toUInt32 31)).toInt32 &&& (858993459 : Int32))))).bind fun t2 =>
(some (((t2 + (t2.toUInt32 >>> ((4 : Int32).toUInt32 &&& Int32.toUInt32 31)).toInt32) &&& (252645135 : Int32)))).bind fun t3 =>
(some ((t3 + (t3.toUInt32 >>> ((8 : Int32).toUInt32 &&& Int32.toUInt32 31)).toInt32))).bind fun t4 =>
(some ((t4 + (t4.toUInt32 >>> ((16 : Int32).toUInt32 &&& Int32.toUInt32 31)).toInt32))).bind fun t5 =>
some ((t5 &&& (63 : Int32)), M)
set_option maxRecDepth 100000 in
set_option maxHeartbeats 4000000 in
theorem T_J6_bitCount_0f7a4 (l : Launch) (κ : xQ) (a0 : Int32) (M : xM) (ro : Int32) (mo : xM) (h : F_J6_bitCount_0f7a4 a0 M = some (ro, mo)) : xC l yJ6_bitCount_0f7a4 cJ6_bitCount_0f7a4 1 (some .int) 2 0 0 κ [.int a0] M (some (.int ro)) mo := by
  refine xC_ofF (by decide +kernel) (Nat.le_of_ble_eq_true rfl) fun p e s m args below meth c X hr hlk hnm H locs ls O hl => ?_
  have X : xX p s m args c cJ6_bitCount_0f7a4 1 RJ6 κ := X
  have hl : lv_has ls 1 [(0, .int a0)] := hl
  have hx := X.1
  have hb := X.2.1
  obtain ⟨x, hx0⟩ : ∃ x, (ro, mo) = x := ⟨_, rfl⟩
  rw [hx0] at h
  have hK : x = (ro, mo) := hx0.symm
  unfold F_J6_bitCount_0f7a4 at h
  refine lv_iload_n hx hb dJ6_bitCount_0f7a4_0 rfl (lv_at hl 0 rfl) ?_
  refine lv_iload_n hx hb dJ6_bitCount_0f7a4_1 rfl (lv_at hl 0 rfl) ?_
  refine lv_iconst (v := (1 : Int32)) hx hb dJ6_bitCount_0f7a4_2 (by decide) ?_
  refine lv_iushr (v := (a0.toUInt32 >>> ((1 : Int32).toUInt32 &&& Int32.toUInt32 31)).toInt32) hx hb dJ6_bitCount_0f7a4_3 rfl ?_
  refine lv_ldcw (v := (1431655765 : Int32)) hx hb X.2.2.2.1 (X.2.2.2.2.1 _ ct_J6_265) dJ6_bitCount_0f7a4_4 ?_
  refine lv_iand hx hb dJ6_bitCount_0f7a4_7 ?_
  refine lv_isub hx hb dJ6_bitCount_0f7a4_8 ?_
  obtain ⟨t1, ht1, h⟩ := Option.bind_eq_some_iff.mp h
  refine xr_top (w := .int t1) (by rw [Option.some.inj ht1]) ?_
  refine lv_istore_n (lv' := [(0, .int t1)]) hx hb dJ6_bitCount_0f7a4_9 rfl hl (by decide) rfl (fun ls hl => ?_)
  refine lv_iload_n hx hb dJ6_bitCount_0f7a4_10 rfl (lv_at hl 0 rfl) ?_
  refine lv_ldcw (v := (858993459 : Int32)) hx hb X.2.2.2.1 (X.2.2.2.2.1 _ ct_J6_266) dJ6_bitCount_0f7a4_11 ?_
  refine lv_iand hx hb dJ6_bitCount_0f7a4_14 ?_
  refine lv_iload_n hx hb dJ6_bitCount_0f7a4_15 rfl (lv_at hl 0 rfl) ?_
  refine lv_iconst (v := (2 : Int32)) hx hb dJ6_bitCount_0f7a4_16 (by decide) ?_
  refine lv_iushr (v := (t1.toUInt32 >>> ((2 : Int32).toUInt32 &&& Int32.toUInt32 31)).toInt32) hx hb dJ6_bitCount_0f7a4_17 rfl ?_
  refine lv_ldcw (v := (858993459 : Int32)) hx hb X.2.2.2.1 (X.2.2.2.2.1 _ ct_J6_266) dJ6_bitCount_0f7a4_18 ?_
  refine lv_iand hx hb dJ6_bitCount_0f7a4_21 ?_
  refine lv_iadd hx hb dJ6_bitCount_0f7a4_22 ?_
  obtain ⟨t2, ht2, h⟩ := Option.bind_eq_some_iff.mp h
  refine xr_top (w := .int t2) (by rw [Option.some.inj ht2]) ?_
  refine lv_istore_n (lv' := [(0, .int t2)]) hx hb dJ6_bitCount_0f7a4_23 rfl hl (by decide) rfl (fun ls hl => ?_)
  refine lv_iload_n hx hb dJ6_bitCount_0f7a4_24 rfl (lv_at hl 0 rfl) ?_
  refine lv_iload_n hx hb dJ6_bitCount_0f7a4_25 rfl (lv_at hl 0 rfl) ?_
  refine lv_iconst (v := (4 : Int32)) hx hb dJ6_bitCount_0f7a4_26 (by decide) ?_
  refine lv_iushr (v := (t2.toUInt32 >>> ((4 : Int32).toUInt32 &&& Int32.toUInt32 31)).toInt32) hx hb dJ6_bitCount_0f7a4_27 rfl ?_
  refine lv_iadd hx hb dJ6_bitCount_0f7a4_28 ?_
  refine lv_ldcw (v := (252645135 : Int32)) hx hb X.2.2.2.1 (X.2.2.2.2.1 _ ct_J6_267) dJ6_bitCount_0f7a4_29 ?_
  refine lv_iand hx hb dJ6_bitCount_0f7a4_32 ?_
  obtain ⟨t3, ht3, h⟩ := Option.bind_eq_some_iff.mp h
  refine xr_top (w := .int t3) (by rw [Option.some.inj ht3]) ?_
  refine lv_istore_n (lv' := [(0, .int t3)]) hx hb dJ6_bitCount_0f7a4_33 rfl hl (by decide) rfl (fun ls hl => ?_)
  refine lv_iload_n hx hb dJ6_bitCount_0f7a4_34 rfl (lv_at hl 0 rfl) ?_
  refine lv_iload_n hx hb dJ6_bitCount_0f7a4_35 rfl (lv_at hl 0 rfl) ?_
  refine lv_bipush (v := (8 : Int32)) hx hb dJ6_bitCount_0f7a4_36 (by decide) ?_
  refine lv_iushr (v := (t3.toUInt32 >>> ((8 : Int32).toUInt32 &&& Int32.toUInt32 31)).toInt32) hx hb dJ6_bitCount_0f7a4_38 rfl ?_
  refine lv_iadd hx hb dJ6_bitCount_0f7a4_39 ?_
  obtain ⟨t4, ht4, h⟩ := Option.bind_eq_some_iff.mp h
  refine xr_top (w := .int t4) (by rw [Option.some.inj ht4]) ?_
  refine lv_istore_n (lv' := [(0, .int t4)]) hx hb dJ6_bitCount_0f7a4_40 rfl hl (by decide) rfl (fun ls hl => ?_)
  refine lv_iload_n hx hb dJ6_bitCount_0f7a4_41 rfl (lv_at hl 0 rfl) ?_
  refine lv_iload_n hx hb dJ6_bitCount_0f7a4_42 rfl (lv_at hl 0 rfl) ?_
  refine lv_bipush (v := (16 : Int32)) hx hb dJ6_bitCount_0f7a4_43 (by decide) ?_
  refine lv_iushr (v := (t4.toUInt32 >>> ((16 : Int32).toUInt32 &&& Int32.toUInt32 31)).toInt32) hx hb dJ6_bitCount_0f7a4_45 rfl ?_
  refine lv_iadd hx hb dJ6_bitCount_0f7a4_46 ?_
  obtain ⟨t5, ht5, h⟩ := Option.bind_eq_some_iff.mp h
  refine xr_top (w := .int t5) (by rw [Option.some.inj ht5]) ?_
  refine lv_istore_n (lv' := [(0, .int t5)]) hx hb dJ6_bitCount_0f7a4_47 rfl hl (by decide) rfl (fun ls hl => ?_)
  refine lv_iload_n hx hb dJ6_bitCount_0f7a4_48 rfl (lv_at hl 0 rfl) ?_
  refine lv_bipush (v := (63 : Int32)) hx hb dJ6_bitCount_0f7a4_49 (by decide) ?_
  refine lv_iand hx hb dJ6_bitCount_0f7a4_51 ?_
  rw [← Option.some.inj h] at hK
  have hK : ((t5 &&& (63 : Int32)), M) = (ro, mo) := hK
  obtain ⟨hK1, hK2⟩ := Prod.mk.inj hK
  rw [hK2] at O
  refine xr_top (w := .int ro) (by rw [hK1]) ?_
  exact xr_iret X hr hlk O dJ6_bitCount_0f7a4_52
def F_X8_wash_152 (v0 : Nat) (v1 : Nat) (v2 : Nat) (v4 : Int32) (v5 : Nat) (v6 : Int32) (M : xM) : Option ((Int32 × xM) ⊕ (xM)) :=
some (.inl ((v6 + 1), M))
def F_X8_wash_158 (v0 : Nat) (v2 : Nat) (M : xM) : Option (xM) :=
(xgP M v0 8 1).bind fun t31 =>
(xgP M v2 0 0).bind fun t32 =>
(xcp M t31 (0 : Int32) t32 (0 : Int32) (25 : Int32)).bind fun t33 =>
some t33
def F_X8_wash_42b (v0 : Nat) (v1 : Nat) (v2 : Nat) (v4 : Int32) (v5 : Nat) : (Int32 × xM) → Option ((Int32 × xM) ⊕ (xM)) := fun ⟨v6, M⟩ =>
if (25 : Int32) ≤ v6 then (
(F_X8_wash_158 v0 v2 M).map Sum.inr)
else (
(xgP M v0 8 1).bind fun t9 =>
(xgP M v2 0 0).bind fun t10 =>
(xaI M 20 t10 v6).bind fun t11 =>
(xsI M t9 v6 t11).bind fun t12 =>
if ((v4 >>> (v6 &&& 31)) &&& (1 : Int32)) = 0 then (
F_X8_wash_152 v0 v1 v2 v4 v5 v6 t12)
else (
(xgI t12 v1 3 1).bind fun t13 =>
if t13 = 0 then none else
(xsI t12 v5 (2 : Int32) (v6 / t13)).bind fun t14 =>
(xgP t14 v2 0 0).bind fun t15 =>
(xaI t14 20 t15 v6).bind fun t16 =>
(xsI t14 v5 (3 : Int32) t16).bind fun t17 =>
(F_X8_besides v1 ((1 : Int32) <<< (v6 &&& 31)) t17).bind fun t18 =>
(F_J6_bitCount_0f7a4 (t18.1 &&& v4) t18.2).bind fun t19 =>
(xsI t19.2 v5 (5 : Int32) t19.1).bind fun t20 =>
(xgP t20 v0 8 0).bind fun t21 =>
(xgP t20 v1 3 17).bind fun t22 =>
(xgI t20 v1 3 10).bind fun t23 =>
(xgI t20 v1 3 11).bind fun t24 =>
(xck t20 t21 4).bind fun _ =>
(F_X4_tell t21 t22 t23 t24 t20).bind fun t26 =>
(xgP t26.2 v0 8 1).bind fun t27 =>
(F_J9_min_7cf53 (9 : Int32) t26.1 t26.2).bind fun t28 =>
(F_J9_max_7cf53 (0 : Int32) t28.1 t28.2).bind fun t29 =>
(xsI t29.2 t27 v6 t29.1).bind fun t30 =>
F_X8_wash_152 v0 v1 v2 v4 v5 v6 t30))
def F_X8_wash_42 (v0 : Nat) (v1 : Nat) (v2 : Nat) (v4 : Int32) (v5 : Nat) (v6 : Int32) (M : xM) : Option (xM) := xit (F_X8_wash_42b v0 v1 v2 v4 v5) xFU (v6, M)
def F_X8_wash (a0 : Nat) (a1 : Nat) (a2 : Nat) (a3 : Int32) (a4 : Int32) (M : xM) : Option (xM) :=
(xgI M a1 3 1).bind fun t1 =>
if (1 : Int32) ≤ t1 then (
(xgP M a0 8 0).bind fun t2 =>
(xgP M t2 4 0).bind fun t3 =>
(xgI M a2 0 6).bind fun t4 =>
(xsI M t3 (0 : Int32) t4).bind fun t5 =>
(xgI t5 a2 0 5).bind fun t6 =>
(xsI t5 t3 (1 : Int32) t6).bind fun t7 =>
(xsI t7 t3 (4 : Int32) a3).bind fun t8 =>
F_X8_wash_42 a0 a1 a2 a4 t3 (0 : Int32) t8)
else (
some M)
set_option maxRecDepth 100000 in
set_option maxHeartbeats 4000000 in
theorem F_X8_wash_152_ok (X : xX p s m args c cX8_wash 8 RX8 κ) (hr : meth.sig.returnType = none) (hlk : meth.locks = false) {mo : xM} (v0 : Nat) (v1 : Nat) (v2 : Nat) (v4 : Int32) (v5 : Nat) (v6 : Int32) {W42 : Int32 × xM → Prop} (hW42 : ∀ (v6 : Int32) (M : xM), W42 (v6, M) → ∀ (H : Heap) (locs : List Loc) (ls : Array Slot), xO κ s M H locs → lv_has ls 8 [(0, .ref (κ.1 + v0)), (1, .ref (κ.1 + v1)), (2, .ref (κ.1 + v2)), (4, .int v4), (5, .ref (κ.1 + v5)), (6, .int v6)] → W p l e (xRm 4 0 0) s m args below meth c H locs 0 0 (xQf below args s 0 0 κ none mo) (F0 m 42 ls [])) (M : xM) (x : (Int32 × xM) ⊕ (xM)) (h : F_X8_wash_152 v0 v1 v2 v4 v5 v6 M = some x) (hK : (xKl W42 (fun o => o = mo)) x) (H : Heap) (locs : List Loc) (ls : Array Slot) (O : xO κ s M H locs) (hl : lv_has ls 8 [(0, .ref (κ.1 + v0)), (1, .ref (κ.1 + v1)), (2, .ref (κ.1 + v2)), (4, .int v4), (5, .ref (κ.1 + v5)), (6, .int v6)]) : W p l e (xRm 4 0 0) s m args below meth c H locs 0 0 (xQf below args s 0 0 κ none mo) (F0 m 152 ls []) := by
  unfold F_X8_wash_152 at h
  have hx := X.1
  have hb := X.2.1
  refine lv_iinc (v := (v6 + 1)) (lv' := [(6, .int (v6 + 1)), (0, .ref (κ.1 + v0)), (1, .ref (κ.1 + v1)), (2, .ref (κ.1 + v2)), (4, .int v4), (5, .ref (κ.1 + v5))]) hx hb dX8_wash_152 hl (k := 5) rfl rfl (by decide) rfl (fun ls hl => ?_)
  refine lv_goto (tgt := 42) hx hb dX8_wash_155 (by decide) ?_
  rw [← Option.some.inj h] at hK
  exact hW42 (v6 + 1) M hK H locs ls O (lv_sub hl [1, 2, 3, 4, 5, 0] rfl)
set_option maxRecDepth 100000 in
set_option maxHeartbeats 4000000 in
theorem F_X8_wash_158_ok (X : xX p s m args c cX8_wash 8 RX8 κ) (hr : meth.sig.returnType = none) (hlk : meth.locks = false) {mo : xM} (v0 : Nat) (v2 : Nat) (M : xM) (x : xM) (h : F_X8_wash_158 v0 v2 M = some x) (hK : (fun o => o = mo) x) (H : Heap) (locs : List Loc) (ls : Array Slot) (O : xO κ s M H locs) (hl : lv_has ls 8 [(0, .ref (κ.1 + v0)), (2, .ref (κ.1 + v2))]) : W p l e (xRm 4 0 0) s m args below meth c H locs 0 0 (xQf below args s 0 0 κ none mo) (F0 m 158 ls []) := by
  unfold F_X8_wash_158 at h
  have hx := X.1
  have hb := X.2.1
  refine lv_aload_n hx hb dX8_wash_158 rfl (lv_at hl 0 rfl) ?_
  obtain ⟨t31, ht31, h⟩ := Option.bind_eq_some_iff.mp h
  refine xr_getP X O ht31 fl_X8_18 dX8_wash_159 ?_
  refine lv_iconst (v := (0 : Int32)) hx hb dX8_wash_162 (by decide) ?_
  refine lv_aload_n hx hb dX8_wash_163 rfl (lv_at hl 1 rfl) ?_
  obtain ⟨t32, ht32, h⟩ := Option.bind_eq_some_iff.mp h
  refine xr_getP X O ht32 fl_X8_86 dX8_wash_164 ?_
  refine lv_iconst (v := (0 : Int32)) hx hb dX8_wash_167 (by decide) ?_
  refine lv_bipush (v := (25 : Int32)) hx hb dX8_wash_168 (by decide) ?_
  obtain ⟨t33, ht33, h⟩ := Option.bind_eq_some_iff.mp h
  refine xr_acp X O ht33 la_X8_113 hl.1 (by decide) (Nat.le_of_ble_eq_true rfl) dX8_wash_170 (fun H locs O => ?_)
  rw [← Option.some.inj h] at hK
  have hK : t33 = mo := hK
  rw [hK] at O
  exact xr_vret X hr hlk O dX8_wash_173
set_option maxRecDepth 100000 in
set_option maxHeartbeats 4000000 in
theorem F_X8_wash_42_bok (X : xX p s m args c cX8_wash 8 RX8 κ) (hr : meth.sig.returnType = none) (hlk : meth.locks = false) {mo : xM} (v0 : Nat) (v1 : Nat) (v2 : Nat) (v4 : Int32) (v5 : Nat) (v6 : Int32) {W42 : Int32 × xM → Prop} (hW42 : ∀ (v6 : Int32) (M : xM), W42 (v6, M) → ∀ (H : Heap) (locs : List Loc) (ls : Array Slot), xO κ s M H locs → lv_has ls 8 [(0, .ref (κ.1 + v0)), (1, .ref (κ.1 + v1)), (2, .ref (κ.1 + v2)), (4, .int v4), (5, .ref (κ.1 + v5)), (6, .int v6)] → W p l e (xRm 4 0 0) s m args below meth c H locs 0 0 (xQf below args s 0 0 κ none mo) (F0 m 42 ls [])) (M : xM) (x : (Int32 × xM) ⊕ (xM)) (h : F_X8_wash_42b v0 v1 v2 v4 v5 (v6, M) = some x) (hK : (xKl W42 (fun o => o = mo)) x) (H : Heap) (locs : List Loc) (ls : Array Slot) (O : xO κ s M H locs) (hl : lv_has ls 8 [(0, .ref (κ.1 + v0)), (1, .ref (κ.1 + v1)), (2, .ref (κ.1 + v2)), (4, .int v4), (5, .ref (κ.1 + v5)), (6, .int v6)]) : W p l e (xRm 4 0 0) s m args below meth c H locs 0 0 (xQf below args s 0 0 κ none mo) (F0 m 42 ls []) := by
  unfold F_X8_wash_42b at h
  dsimp only at h
  have hx := X.1
  have hb := X.2.1
  refine lv_iload hx hb dX8_wash_42 (lv_at hl 5 rfl) ?_
  refine lv_bipush (v := (25 : Int32)) hx hb dX8_wash_44 (by decide) ?_
  refine lv_icmp_ge (tgt := 158) hx hb dX8_wash_46 (by decide) (fun hc46 => ?_) (fun hc46 => ?_)
  · rw [if_pos hc46] at h
    obtain ⟨_, hw0, ew0⟩ := Option.map_eq_some_iff.mp h
    rw [← ew0] at hK
    have h := hw0
    exact F_X8_wash_158_ok X hr hlk v0 v2 M _ h hK H locs ls O (lv_sub hl [0, 2] rfl)
  rw [if_neg hc46] at h
  refine lv_aload_n hx hb dX8_wash_49 rfl (lv_at hl 0 rfl) ?_
  obtain ⟨t9, ht9, h⟩ := Option.bind_eq_some_iff.mp h
  refine xr_getP X O ht9 fl_X8_18 dX8_wash_50 ?_
  refine lv_iload hx hb dX8_wash_53 (lv_at hl 5 rfl) ?_
  refine lv_aload_n hx hb dX8_wash_55 rfl (lv_at hl 2 rfl) ?_
  obtain ⟨t10, ht10, h⟩ := Option.bind_eq_some_iff.mp h
  refine xr_getP X O ht10 fl_X8_86 dX8_wash_56 ?_
  refine lv_iload hx hb dX8_wash_59 (lv_at hl 5 rfl) ?_
  obtain ⟨t11, ht11, h⟩ := Option.bind_eq_some_iff.mp h
  refine xr_aldI X O ht11 dX8_wash_61 ?_
  obtain ⟨t12, ht12, h⟩ := Option.bind_eq_some_iff.mp h
  refine xr_stI X O ht12 dX8_wash_62 (fun H locs O => ?_)
  refine lv_iload hx hb dX8_wash_63 (lv_at hl 3 rfl) ?_
  refine lv_iload hx hb dX8_wash_65 (lv_at hl 5 rfl) ?_
  refine lv_ishr hx hb dX8_wash_67 ?_
  refine lv_iconst (v := (1 : Int32)) hx hb dX8_wash_68 (by decide) ?_
  refine lv_iand hx hb dX8_wash_69 ?_
  refine lv_if_eq (tgt := 152) hx hb dX8_wash_70 (by decide) (fun hc70 => ?_) (fun hc70 => ?_)
  · rw [if_pos hc70] at h
    exact F_X8_wash_152_ok X hr hlk v0 v1 v2 v4 v5 v6 hW42 t12 _ h hK H locs ls O (lv_sub hl [0, 1, 2, 3, 4, 5] rfl)
  rw [if_neg hc70] at h
  refine lv_aload hx hb dX8_wash_73 (lv_at hl 4 rfl) ?_
  refine lv_iconst (v := (2 : Int32)) hx hb dX8_wash_75 (by decide) ?_
  refine lv_iload hx hb dX8_wash_76 (lv_at hl 5 rfl) ?_
  refine lv_aload_n hx hb dX8_wash_78 rfl (lv_at hl 1 rfl) ?_
  obtain ⟨t13, ht13, h⟩ := Option.bind_eq_some_iff.mp h
  refine xr_getI X O ht13 fl_X8_60 (Or.inl rfl) dX8_wash_79 ?_
  by_cases hz82 : t13 = 0
  · rw [if_pos hz82] at h; cases h
  rw [if_neg hz82] at h
  refine lv_idiv hx hb dX8_wash_82 hz82 ?_
  obtain ⟨t14, ht14, h⟩ := Option.bind_eq_some_iff.mp h
  refine xr_stI X O ht14 dX8_wash_83 (fun H locs O => ?_)
  refine lv_aload hx hb dX8_wash_84 (lv_at hl 4 rfl) ?_
  refine lv_iconst (v := (3 : Int32)) hx hb dX8_wash_86 (by decide) ?_
  refine lv_aload_n hx hb dX8_wash_87 rfl (lv_at hl 2 rfl) ?_
  obtain ⟨t15, ht15, h⟩ := Option.bind_eq_some_iff.mp h
  refine xr_getP X O ht15 fl_X8_86 dX8_wash_88 ?_
  refine lv_iload hx hb dX8_wash_91 (lv_at hl 5 rfl) ?_
  obtain ⟨t16, ht16, h⟩ := Option.bind_eq_some_iff.mp h
  refine xr_aldI X O ht16 dX8_wash_93 ?_
  obtain ⟨t17, ht17, h⟩ := Option.bind_eq_some_iff.mp h
  refine xr_stI X O ht17 dX8_wash_94 (fun H locs O => ?_)
  refine lv_aload hx hb dX8_wash_95 (lv_at hl 4 rfl) ?_
  refine lv_iconst (v := (5 : Int32)) hx hb dX8_wash_97 (by decide) ?_
  refine lv_aload_n hx hb dX8_wash_98 rfl (lv_at hl 1 rfl) ?_
  refine lv_iconst (v := (1 : Int32)) hx hb dX8_wash_99 (by decide) ?_
  refine lv_iload hx hb dX8_wash_100 (lv_at hl 5 rfl) ?_
  refine lv_ishl hx hb dX8_wash_102 ?_
  obtain ⟨t18, ht18, h⟩ := Option.bind_eq_some_iff.mp h
  refine xr_callS (rest := [.int (5 : Int32), .ref (κ.1 + v5)]) X O (T_X8_besides l κ v1 ((1 : Int32) <<< (v6 &&& 31)) t17 _ _ ht18) lk_X8_63 (Nat.le_of_ble_eq_true rfl) rfl hl.1 rfl (Nat.le_of_ble_eq_true rfl) dX8_wash_103 ⟨Nat.le_of_ble_eq_true rfl, Nat.le_of_ble_eq_true rfl⟩ (fun H locs O => ?_)
  refine W.eq (g2 := F0 m 106 ls [.int t18.1, .int (5 : Int32), .ref (κ.1 + v5)]) rfl ?_
  refine lv_iload hx hb dX8_wash_106 (lv_at hl 3 rfl) ?_
  refine lv_iand hx hb dX8_wash_108 ?_
  obtain ⟨t19, ht19, h⟩ := Option.bind_eq_some_iff.mp h
  refine xr_callS (rest := [.int (5 : Int32), .ref (κ.1 + v5)]) X O (T_J6_bitCount_0f7a4 l κ (t18.1 &&& v4) t18.2 _ _ ht19) lk_X8_107 (Nat.le_of_ble_eq_true rfl) rfl hl.1 rfl (Nat.le_of_ble_eq_true rfl) dX8_wash_109 ⟨Nat.le_of_ble_eq_true rfl, Nat.le_of_ble_eq_true rfl⟩ (fun H locs O => ?_)
  refine W.eq (g2 := F0 m 112 ls [.int t19.1, .int (5 : Int32), .ref (κ.1 + v5)]) rfl ?_
  obtain ⟨t20, ht20, h⟩ := Option.bind_eq_some_iff.mp h
  refine xr_stI X O ht20 dX8_wash_112 (fun H locs O => ?_)
  refine lv_aload_n hx hb dX8_wash_113 rfl (lv_at hl 0 rfl) ?_
  obtain ⟨t21, ht21, h⟩ := Option.bind_eq_some_iff.mp h
  refine xr_getP X O ht21 fl_X8_12 dX8_wash_114 ?_
  refine lv_aload_n hx hb dX8_wash_117 rfl (lv_at hl 1 rfl) ?_
  obtain ⟨t22, ht22, h⟩ := Option.bind_eq_some_iff.mp h
  refine xr_getP X O ht22 fl_X8_43 dX8_wash_118 ?_
  refine lv_aload_n hx hb dX8_wash_121 rfl (lv_at hl 1 rfl) ?_
  obtain ⟨t23, ht23, h⟩ := Option.bind_eq_some_iff.mp h
  refine xr_getI X O ht23 fl_X8_97 (Or.inl rfl) dX8_wash_122 ?_
  refine lv_aload_n hx hb dX8_wash_125 rfl (lv_at hl 1 rfl) ?_
  obtain ⟨t24, ht24, h⟩ := Option.bind_eq_some_iff.mp h
  refine xr_getI X O ht24 fl_X8_100 (Or.inl rfl) dX8_wash_126 ?_
  obtain ⟨_, hut25, h⟩ := Option.bind_eq_some_iff.mp h
  obtain ⟨t26, ht26, h⟩ := Option.bind_eq_some_iff.mp h
  refine xr_callV (rest := []) X O (T_X4_tell l κ t21 t22 t23 t24 t20 _ _ ht26) lk_X8_46 hut25 (Nat.le_of_ble_eq_true rfl) rfl hl.1 rfl (Nat.le_of_ble_eq_true rfl) dX8_wash_129 ⟨Nat.le_of_ble_eq_true rfl, Nat.le_of_ble_eq_true rfl⟩ (fun H locs O => ?_)
  refine W.eq (g2 := F0 m 132 ls [.int t26.1]) rfl ?_
  refine lv_istore (lv' := [(7, .int t26.1), (0, .ref (κ.1 + v0)), (1, .ref (κ.1 + v1)), (2, .ref (κ.1 + v2)), (4, .int v4), (5, .ref (κ.1 + v5)), (6, .int v6)]) hx hb dX8_wash_132 hl (by decide) rfl (fun ls hl => ?_)
  refine lv_aload_n hx hb dX8_wash_134 rfl (lv_at hl 1 rfl) ?_
  obtain ⟨t27, ht27, h⟩ := Option.bind_eq_some_iff.mp h
  refine xr_getP X O ht27 fl_X8_18 dX8_wash_135 ?_
  refine lv_iload hx hb dX8_wash_138 (lv_at hl 6 rfl) ?_
  refine lv_iconst (v := (0 : Int32)) hx hb dX8_wash_140 (by decide) ?_
  refine lv_bipush (v := (9 : Int32)) hx hb dX8_wash_141 (by decide) ?_
  refine lv_iload hx hb dX8_wash_143 (lv_at hl 0 rfl) ?_
  obtain ⟨t28, ht28, h⟩ := Option.bind_eq_some_iff.mp h
  refine xr_callS (rest := [.int (0 : Int32), .int v6, .ref (κ.1 + t27)]) X O (T_J9_min_7cf53 l κ (9 : Int32) t26.1 t26.2 _ _ ht28) lk_X8_50 (Nat.le_of_ble_eq_true rfl) rfl hl.1 rfl (Nat.le_of_ble_eq_true rfl) dX8_wash_145 ⟨Nat.le_of_ble_eq_true rfl, Nat.le_of_ble_eq_true rfl⟩ (fun H locs O => ?_)
  refine W.eq (g2 := F0 m 148 ls [.int t28.1, .int (0 : Int32), .int v6, .ref (κ.1 + t27)]) rfl ?_
  obtain ⟨t29, ht29, h⟩ := Option.bind_eq_some_iff.mp h
  refine xr_callS (rest := [.int v6, .ref (κ.1 + t27)]) X O (T_J9_max_7cf53 l κ (0 : Int32) t28.1 t28.2 _ _ ht29) lk_X8_53 (Nat.le_of_ble_eq_true rfl) rfl hl.1 rfl (Nat.le_of_ble_eq_true rfl) dX8_wash_148 ⟨Nat.le_of_ble_eq_true rfl, Nat.le_of_ble_eq_true rfl⟩ (fun H locs O => ?_)
  refine W.eq (g2 := F0 m 151 ls [.int t29.1, .int v6, .ref (κ.1 + t27)]) rfl ?_
  obtain ⟨t30, ht30, h⟩ := Option.bind_eq_some_iff.mp h
  refine xr_stI X O ht30 dX8_wash_151 (fun H locs O => ?_)
  exact F_X8_wash_152_ok X hr hlk v0 v1 v2 v4 v5 v6 hW42 t30 _ h hK H locs ls O (lv_sub hl [1, 2, 3, 4, 5, 6] rfl)
set_option maxRecDepth 100000 in
set_option maxHeartbeats 4000000 in
theorem F_X8_wash_42_ok (X : xX p s m args c cX8_wash 8 RX8 κ) (hr : meth.sig.returnType = none) (hlk : meth.locks = false) {mo : xM} (v0 : Nat) (v1 : Nat) (v2 : Nat) (v4 : Int32) (v5 : Nat) (v6 : Int32) (M : xM) (x : xM) (h : F_X8_wash_42 v0 v1 v2 v4 v5 v6 M = some x) (hK : (fun o => o = mo) x) (H : Heap) (locs : List Loc) (ls : Array Slot) (O : xO κ s M H locs) (hl : lv_has ls 8 [(0, .ref (κ.1 + v0)), (1, .ref (κ.1 + v1)), (2, .ref (κ.1 + v2)), (4, .int v4), (5, .ref (κ.1 + v5)), (6, .int v6)]) : W p l e (xRm 4 0 0) s m args below meth c H locs 0 0 (xQf below args s 0 0 κ none mo) (F0 m 42 ls []) := by
  refine xit_K (Wh := fun x => ∀ (H : Heap) (locs : List Loc) (ls : Array Slot), xO κ s x.2 H locs → lv_has ls 8 [(0, .ref (κ.1 + v0)), (1, .ref (κ.1 + v1)), (2, .ref (κ.1 + v2)), (4, .int v4), (5, .ref (κ.1 + v5)), (6, .int x.1)] → W p l e (xRm 4 0 0) s m args below meth c H locs 0 0 (xQf below args s 0 0 κ none mo) (F0 m 42 ls [])) (Kp := (fun o => o = mo)) ?_ xFU (v6, M) x h hK H locs ls O hl
  intro y x h hK H locs ls O hl
  exact F_X8_wash_42_bok X hr hlk v0 v1 v2 v4 v5 y.1 (fun _ _ hw => hw) y.2 x h hK H locs ls O hl
set_option maxRecDepth 100000 in
set_option maxHeartbeats 4000000 in
theorem T_X8_wash (l : Launch) (κ : xQ) (a0 : Nat) (a1 : Nat) (a2 : Nat) (a3 : Int32) (a4 : Int32) (M : xM) (mo : xM) (h : F_X8_wash a0 a1 a2 a3 a4 M = some mo) : xC l yX8_wash cX8_wash 8 none 4 0 0 κ [.ref (κ.1 + a0), .ref (κ.1 + a1), .ref (κ.1 + a2), .int a3, .int a4] M none mo := by
  refine xC_of rfl (Nat.le_of_ble_eq_true rfl) fun p e s m args below meth c X hr hlk hnm H locs ls O hl => ?_
  have X : xX p s m args c cX8_wash 8 RX8 κ := X
  have hl : lv_has ls 8 [(0, .ref (κ.1 + a0)), (1, .ref (κ.1 + a1)), (2, .ref (κ.1 + a2)), (3, .int a3), (4, .int a4)] := hl
  have hx := X.1
  have hb := X.2.1
  obtain ⟨x, hx0⟩ : ∃ x, mo = x := ⟨_, rfl⟩
  rw [hx0] at h
  have hK : x = mo := hx0.symm
  unfold F_X8_wash at h
  refine lv_aload_n hx hb dX8_wash_0 rfl (lv_at hl 1 rfl) ?_
  obtain ⟨t1, ht1, h⟩ := Option.bind_eq_some_iff.mp h
  refine xr_getI X O ht1 fl_X8_60 (Or.inl rfl) dX8_wash_1 ?_
  refine lv_iconst (v := (1 : Int32)) hx hb dX8_wash_4 (by decide) ?_
  refine lv_icmp_ge (tgt := 9) hx hb dX8_wash_5 (by decide) (fun hc5 => ?_) (fun hc5 => ?_)
  · rw [if_pos hc5] at h
    refine lv_aload_n hx hb dX8_wash_9 rfl (lv_at hl 0 rfl) ?_
    obtain ⟨t2, ht2, h⟩ := Option.bind_eq_some_iff.mp h
    refine xr_getP X O ht2 fl_X8_12 dX8_wash_10 ?_
    obtain ⟨t3, ht3, h⟩ := Option.bind_eq_some_iff.mp h
    refine xr_getP X O ht3 fl_X8_40 dX8_wash_13 ?_
    refine lv_astore (lv' := [(5, .ref (κ.1 + t3)), (0, .ref (κ.1 + a0)), (1, .ref (κ.1 + a1)), (2, .ref (κ.1 + a2)), (3, .int a3), (4, .int a4)]) hx hb dX8_wash_16 hl (by decide) rfl (fun ls hl => ?_)
    refine lv_aload hx hb dX8_wash_18 (lv_at hl 0 rfl) ?_
    refine lv_iconst (v := (0 : Int32)) hx hb dX8_wash_20 (by decide) ?_
    refine lv_aload_n hx hb dX8_wash_21 rfl (lv_at hl 3 rfl) ?_
    obtain ⟨t4, ht4, h⟩ := Option.bind_eq_some_iff.mp h
    refine xr_getI X O ht4 fl_X8_70 (Or.inl rfl) dX8_wash_22 ?_
    obtain ⟨t5, ht5, h⟩ := Option.bind_eq_some_iff.mp h
    refine xr_stI X O ht5 dX8_wash_25 (fun H locs O => ?_)
    refine lv_aload hx hb dX8_wash_26 (lv_at hl 0 rfl) ?_
    refine lv_iconst (v := (1 : Int32)) hx hb dX8_wash_28 (by decide) ?_
    refine lv_aload_n hx hb dX8_wash_29 rfl (lv_at hl 3 rfl) ?_
    obtain ⟨t6, ht6, h⟩ := Option.bind_eq_some_iff.mp h
    refine xr_getI X O ht6 fl_X8_75 (Or.inl rfl) dX8_wash_30 ?_
    obtain ⟨t7, ht7, h⟩ := Option.bind_eq_some_iff.mp h
    refine xr_stI X O ht7 dX8_wash_33 (fun H locs O => ?_)
    refine lv_aload hx hb dX8_wash_34 (lv_at hl 0 rfl) ?_
    refine lv_iconst (v := (4 : Int32)) hx hb dX8_wash_36 (by decide) ?_
    refine lv_iload_n hx hb dX8_wash_37 rfl (lv_at hl 4 rfl) ?_
    obtain ⟨t8, ht8, h⟩ := Option.bind_eq_some_iff.mp h
    refine xr_stI X O ht8 dX8_wash_38 (fun H locs O => ?_)
    refine lv_iconst (v := (0 : Int32)) hx hb dX8_wash_39 (by decide) ?_
    refine lv_istore (lv' := [(6, .int (0 : Int32)), (5, .ref (κ.1 + t3)), (0, .ref (κ.1 + a0)), (1, .ref (κ.1 + a1)), (2, .ref (κ.1 + a2)), (3, .int a3), (4, .int a4)]) hx hb dX8_wash_40 hl (by decide) rfl (fun ls hl => ?_)
    exact F_X8_wash_42_ok X hr hlk a0 a1 a2 a4 t3 (0 : Int32) t8 _ h hK H locs ls O (lv_sub hl [2, 3, 4, 6, 1, 0] rfl)
  rw [if_neg hc5] at h
  rw [← Option.some.inj h] at hK
  have hK : M = mo := hK
  rw [hK] at O
  exact xr_vret X hr hlk O dX8_wash_8
def F_X8_tickAt (a0 : Nat) (a1 : Nat) (a2 : Nat) (a3 : Int32) (M : xM) : Option (Int32 × xM) :=
(xgI M a2 0 6).bind fun t1 =>
(xpI M a2 0 6 (t1 + (1 : Int32))).bind fun t2 =>
(xgP t2 a2 0 0).bind fun t3 =>
(F_X8_wetAt a1 t3 a3 t2).bind fun t4 =>
(xck t4.2 a2 0).bind fun _ =>
(F_X0_fell a2 t4.1 t4.2).bind fun t6 =>
if t4.1 = 0 then (
some (t4.1, t6))
else (
(xgI t6 a1 3 10).bind fun t7 =>
(xgI t6 a1 3 11).bind fun t8 =>
if t8 ≤ t7 then (
some (t4.1, t6))
else (
(xck t6 a0 8).bind fun _ =>
(F_X8_wash a0 a1 a2 a3 t4.1 t6).bind fun t10 =>
some (t4.1, t10)))
set_option maxRecDepth 100000 in
set_option maxHeartbeats 4000000 in
theorem T_X8_tickAt (l : Launch) (κ : xQ) (a0 : Nat) (a1 : Nat) (a2 : Nat) (a3 : Int32) (M : xM) (ro : Int32) (mo : xM) (h : F_X8_tickAt a0 a1 a2 a3 M = some (ro, mo)) : xC l yX8_tickAt cX8_tickAt 5 (some .int) 5 0 0 κ [.ref (κ.1 + a0), .ref (κ.1 + a1), .ref (κ.1 + a2), .int a3] M (some (.int ro)) mo := by
  refine xC_of rfl (Nat.le_of_ble_eq_true rfl) fun p e s m args below meth c X hr hlk hnm H locs ls O hl => ?_
  have X : xX p s m args c cX8_tickAt 5 RX8 κ := X
  have hl : lv_has ls 5 [(0, .ref (κ.1 + a0)), (1, .ref (κ.1 + a1)), (2, .ref (κ.1 + a2)), (3, .int a3)] := hl
  have hx := X.1
  have hb := X.2.1
  obtain ⟨x, hx0⟩ : ∃ x, (ro, mo) = x := ⟨_, rfl⟩
  rw [hx0] at h
  have hK : x = (ro, mo) := hx0.symm
  unfold F_X8_tickAt at h
  refine lv_aload_n hx hb dX8_tickAt_0 rfl (lv_at hl 2 rfl) ?_
  refine lv_dup hx hb dX8_tickAt_1 rfl ?_
  obtain ⟨t1, ht1, h⟩ := Option.bind_eq_some_iff.mp h
  refine xr_getI X O ht1 fl_X8_70 (Or.inl rfl) dX8_tickAt_2 ?_
  refine lv_iconst (v := (1 : Int32)) hx hb dX8_tickAt_5 (by decide) ?_
  refine lv_iadd hx hb dX8_tickAt_6 ?_
  obtain ⟨t2, ht2, h⟩ := Option.bind_eq_some_iff.mp h
  refine xr_putI X O ht2 fl_X8_70 dX8_tickAt_7 (fun H locs O => ?_)
  refine lv_aload_n hx hb dX8_tickAt_10 rfl (lv_at hl 1 rfl) ?_
  refine lv_aload_n hx hb dX8_tickAt_11 rfl (lv_at hl 2 rfl) ?_
  obtain ⟨t3, ht3, h⟩ := Option.bind_eq_some_iff.mp h
  refine xr_getP X O ht3 fl_X8_86 dX8_tickAt_12 ?_
  refine lv_iload_n hx hb dX8_tickAt_15 rfl (lv_at hl 3 rfl) ?_
  obtain ⟨t4, ht4, h⟩ := Option.bind_eq_some_iff.mp h
  refine xr_callS (rest := []) X O (T_X8_wetAt l κ a1 t3 a3 t2 _ _ ht4) lk_X8_89 (Nat.le_of_ble_eq_true rfl) rfl hl.1 rfl (Nat.le_of_ble_eq_true rfl) dX8_tickAt_16 ⟨Nat.le_of_ble_eq_true rfl, Nat.le_of_ble_eq_true rfl⟩ (fun H locs O => ?_)
  refine W.eq (g2 := F0 m 19 ls [.int t4.1]) rfl ?_
  refine lv_istore (lv' := [(4, .int t4.1), (0, .ref (κ.1 + a0)), (1, .ref (κ.1 + a1)), (2, .ref (κ.1 + a2)), (3, .int a3)]) hx hb dX8_tickAt_19 hl (by decide) rfl (fun ls hl => ?_)
  refine lv_aload_n hx hb dX8_tickAt_21 rfl (lv_at hl 3 rfl) ?_
  refine lv_iload hx hb dX8_tickAt_22 (lv_at hl 0 rfl) ?_
  obtain ⟨_, hut5, h⟩ := Option.bind_eq_some_iff.mp h
  obtain ⟨t6, ht6, h⟩ := Option.bind_eq_some_iff.mp h
  refine xr_callV (rest := []) X O (T_X0_fell l κ a2 t4.1 t4.2 _ ht6) lk_X8_93 hut5 (Nat.le_of_ble_eq_true rfl) rfl hl.1 rfl (Nat.le_of_ble_eq_true rfl) dX8_tickAt_24 ⟨Nat.le_of_ble_eq_true rfl, Nat.le_of_ble_eq_true rfl⟩ (fun H locs O => ?_)
  refine W.eq (g2 := F0 m 27 ls []) rfl ?_
  refine lv_iload hx hb dX8_tickAt_27 (lv_at hl 0 rfl) ?_
  refine lv_if_eq (tgt := 52) hx hb dX8_tickAt_29 (by decide) (fun hc29 => ?_) (fun hc29 => ?_)
  · rw [if_pos hc29] at h
    refine lv_iload hx hb dX8_tickAt_52 (lv_at hl 0 rfl) ?_
    rw [← Option.some.inj h] at hK
    have hK : (t4.1, t6) = (ro, mo) := hK
    obtain ⟨hK1, hK2⟩ := Prod.mk.inj hK
    rw [hK2] at O
    refine xr_top (w := .int ro) (by rw [hK1]) ?_
    exact xr_iret X hr hlk O dX8_tickAt_54
  rw [if_neg hc29] at h
  refine lv_aload_n hx hb dX8_tickAt_32 rfl (lv_at hl 2 rfl) ?_
  obtain ⟨t7, ht7, h⟩ := Option.bind_eq_some_iff.mp h
  refine xr_getI X O ht7 fl_X8_97 (Or.inl rfl) dX8_tickAt_33 ?_
  refine lv_aload_n hx hb dX8_tickAt_36 rfl (lv_at hl 2 rfl) ?_
  obtain ⟨t8, ht8, h⟩ := Option.bind_eq_some_iff.mp h
  refine xr_getI X O ht8 fl_X8_100 (Or.inl rfl) dX8_tickAt_37 ?_
  refine lv_icmp_ge (tgt := 52) hx hb dX8_tickAt_40 (by decide) (fun hc40 => ?_) (fun hc40 => ?_)
  · rw [if_pos hc40] at h
    refine lv_iload hx hb dX8_tickAt_52 (lv_at hl 0 rfl) ?_
    rw [← Option.some.inj h] at hK
    have hK : (t4.1, t6) = (ro, mo) := hK
    obtain ⟨hK1, hK2⟩ := Prod.mk.inj hK
    rw [hK2] at O
    refine xr_top (w := .int ro) (by rw [hK1]) ?_
    exact xr_iret X hr hlk O dX8_tickAt_54
  rw [if_neg hc40] at h
  refine lv_aload_n hx hb dX8_tickAt_43 rfl (lv_at hl 1 rfl) ?_
  refine lv_aload_n hx hb dX8_tickAt_44 rfl (lv_at hl 2 rfl) ?_
  refine lv_aload_n hx hb dX8_tickAt_45 rfl (lv_at hl 3 rfl) ?_
  refine lv_iload_n hx hb dX8_tickAt_46 rfl (lv_at hl 4 rfl) ?_
  refine lv_iload hx hb dX8_tickAt_47 (lv_at hl 0 rfl) ?_
  obtain ⟨_, hut9, h⟩ := Option.bind_eq_some_iff.mp h
  obtain ⟨t10, ht10, h⟩ := Option.bind_eq_some_iff.mp h
  refine xr_callV (rest := []) X O (T_X8_wash l κ a0 a1 a2 a3 t4.1 t6 _ ht10) lk_X8_103 hut9 (Nat.le_of_ble_eq_true rfl) rfl hl.1 rfl (Nat.le_of_ble_eq_true rfl) dX8_tickAt_49 ⟨Nat.le_of_ble_eq_true rfl, Nat.le_of_ble_eq_true rfl⟩ (fun H locs O => ?_)
  refine W.eq (g2 := F0 m 52 ls []) rfl ?_
  refine lv_iload hx hb dX8_tickAt_52 (lv_at hl 0 rfl) ?_
  rw [← Option.some.inj h] at hK
  have hK : (t4.1, t10) = (ro, mo) := hK
  obtain ⟨hK1, hK2⟩ := Prod.mk.inj hK
  rw [hK2] at O
  refine xr_top (w := .int ro) (by rw [hK1]) ?_
  exact xr_iret X hr hlk O dX8_tickAt_54
def F_X2_blow_124 (rc : Nat → Nat → Nat → Int32 → Int32 → Int64 → xM → Option (xM)) (v0 : Nat) (v1 : Nat) (v2 : Nat) (v3 : Int32) (v4 : Int32) (v5 : Int64) (v7 : Nat) (v8 : Int32) (v9 : Int32) (M : xM) : Option (xM) :=
if v9 ≤ 0 then (
some M)
else (
(xgP M v0 2 1).bind fun t21 =>
(xaP M 30 t21 (v3 + (1 : Int32))).bind fun t22 =>
(xck M t22 0).bind fun _ =>
(F_X0_take t22 v7 M).bind fun t24 =>
(xgP t24 v0 2 1).bind fun t25 =>
(xaP t24 30 t25 (v3 + (1 : Int32))).bind fun t26 =>
(xck t24 v2 8).bind fun _ =>
(F_X8_tickAt v2 v1 t26 (v8 + (1 : Int32)) t24).bind fun t28 =>
(xck t28.2 v0 2).bind fun _ =>
(rc v0 v1 v2 (v3 + (1 : Int32)) v4 (v5 * v9.toInt64) t28.2).bind fun t30 =>
some t30)
def F_X2_blow_66 (rc : Nat → Nat → Nat → Int32 → Int32 → Int64 → xM → Option (xM)) (v0 : Nat) (v1 : Nat) (v2 : Nat) (v3 : Int32) (v4 : Int32) (v5 : Int64) (v7 : Nat) (v8 : Int32) (s0 : Int32) (M : xM) : Option (xM) :=
if (10 : Int32) ≤ s0 then (
F_X2_blow_124 rc v0 v1 v2 v3 v4 v5 v7 v8 s0 M)
else (
(xgP M v0 2 1).bind fun t11 =>
(xaP M 30 t11 (v3 + (1 : Int32))).bind fun t12 =>
(xck M t12 0).bind fun _ =>
(F_X0_take t12 v7 M).bind fun t14 =>
(xgP t14 v0 2 1).bind fun t15 =>
(xaP t14 30 t15 (v3 + (1 : Int32))).bind fun t16 =>
(xck t14 v2 8).bind fun _ =>
(F_X8_tickAt v2 v1 t16 v8 t14).bind fun t18 =>
(xck t18.2 v0 2).bind fun _ =>
(rc v0 v1 v2 (v3 + (1 : Int32)) v4 (v5 * ((10 : Int32) - s0).toInt64) t18.2).bind fun t20 =>
F_X2_blow_124 rc v0 v1 v2 v3 v4 v5 v7 v8 s0 t20)
def F_X2_blow (rc : Nat → Nat → Nat → Int32 → Int32 → Int64 → xM → Option (xM)) (a0 : Nat) (a1 : Nat) (a2 : Nat) (a3 : Int32) (a4 : Int32) (a5 : Int64) (M : xM) : Option (xM) :=
(xgP M a0 2 1).bind fun t1 =>
(xaP M 30 t1 a3).bind fun t2 =>
(xgI M t2 0 4).bind fun t3 =>
if t3 = 0 then (
some M)
else (
if a3 < a4 then (
(xgI M t2 0 6).bind fun t4 =>
(xgI M t2 0 5).bind fun t5 =>
(xck M a2 8).bind fun _ =>
(F_X8_tideAt a2 a1 (t4 + (1 : Int32)) t5 M).bind fun t7 =>
if (10 : Int32) ≤ t7.1 then (
F_X2_blow_66 rc a0 a1 a2 a3 a4 a5 t2 t7.1 (0 : Int32) t7.2)
else (
(xgI t7.2 a1 3 4).bind fun t8 =>
F_X2_blow_66 rc a0 a1 a2 a3 a4 a5 t2 t7.1 t8 t7.2))
else (
(xck M a0 2).bind fun _ =>
(F_X2_tally a0 t2 a5 M).bind fun t10 =>
some t10))
def R_X2_blow : Nat → Nat → Nat → Nat → Int32 → Int32 → Int64 → xM → Option (xM)
  | 0 => fun _ _ _ _ _ _ _ => none
  | n + 1 => F_X2_blow (R_X2_blow n)
def F_X2_blow_top : Nat → Nat → Nat → Int32 → Int32 → Int64 → xM → Option (xM) := R_X2_blow 10
def Fx_X2_blow (a0 : Nat) (a1 : Nat) (a2 : Nat) (a3 : Int32) (a4 : Int32) (a5 : Int64) (M : xM) : Option (xM) := R_X2_blow 10 a0 a1 a2 a3 a4 a5 M
set_option maxRecDepth 100000 in
set_option maxHeartbeats 4000000 in
theorem F_X2_blow_124_ok {dd : Nat} (hdd : 5 ≤ dd) {rc : Nat → Nat → Nat → Int32 → Int32 → Int64 → xM → Option (xM)} (hrc0 : ∀ (κ : xQ) (a0 : Nat) (a1 : Nat) (a2 : Nat) (a3 : Int32) (a4 : Int32) (a5 : Int64) (M mo : xM), rc a0 a1 a2 a3 a4 a5 M = some mo → xC l yX2_blow cX2_blow 10 none dd 0 0 κ [.ref (κ.1 + a0), .ref (κ.1 + a1), .ref (κ.1 + a2), .int a3, .int a4, .long a5] M none mo) (X : xX p s m args c cX2_blow 10 RX2 κ) (hr : meth.sig.returnType = none) (hlk : meth.locks = false) {mo : xM} (v0 : Nat) (v1 : Nat) (v2 : Nat) (v3 : Int32) (v4 : Int32) (v5 : Int64) (v7 : Nat) (v8 : Int32) (v9 : Int32) (M : xM) (x : xM) (h : F_X2_blow_124 rc v0 v1 v2 v3 v4 v5 v7 v8 v9 M = some x) (hK : (fun o => o = mo) x) (H : Heap) (locs : List Loc) (ls : Array Slot) (O : xO κ s M H locs) (hl : lv_has ls 10 [(0, .ref (κ.1 + v0)), (1, .ref (κ.1 + v1)), (2, .ref (κ.1 + v2)), (3, .int v3), (4, .int v4), (5, .long v5), (7, .ref (κ.1 + v7)), (8, .int v8), (9, .int v9)]) : W p l e (xRm (dd + 1) 0 0) s m args below meth c H locs 0 0 (xQf below args s 0 0 κ none mo) (F0 m 124 ls []) := by
  unfold F_X2_blow_124 at h
  have hx := X.1
  have hb := X.2.1
  refine lv_iload hx hb dX2_blow_124 (lv_at hl 8 rfl) ?_
  refine lv_if_le (tgt := 177) hx hb dX2_blow_126 (by decide) (fun hc126 => ?_) (fun hc126 => ?_)
  · rw [if_pos hc126] at h
    rw [← Option.some.inj h] at hK
    have hK : M = mo := hK
    rw [hK] at O
    exact xr_vret X hr hlk O dX2_blow_177
  rw [if_neg hc126] at h
  refine lv_aload_n hx hb dX2_blow_129 rfl (lv_at hl 0 rfl) ?_
  obtain ⟨t21, ht21, h⟩ := Option.bind_eq_some_iff.mp h
  refine xr_getP X O ht21 fl_X2_17 dX2_blow_130 ?_
  refine lv_iload_n hx hb dX2_blow_133 rfl (lv_at hl 3 rfl) ?_
  refine lv_iconst (v := (1 : Int32)) hx hb dX2_blow_134 (by decide) ?_
  refine lv_iadd hx hb dX2_blow_135 ?_
  obtain ⟨t22, ht22, h⟩ := Option.bind_eq_some_iff.mp h
  refine xr_aldP (t0 := 4) (C := RX0) X O ht22 (by simp [xRk]) dX2_blow_136 ?_
  refine lv_aload hx hb dX2_blow_137 (lv_at hl 6 rfl) ?_
  obtain ⟨_, hut23, h⟩ := Option.bind_eq_some_iff.mp h
  obtain ⟨t24, ht24, h⟩ := Option.bind_eq_some_iff.mp h
  refine xr_callV (rest := []) X O (T_X0_take l κ t22 v7 M _ ht24) lk_X2_28 hut23 (by omega) rfl hl.1 rfl (Nat.le_of_ble_eq_true rfl) dX2_blow_139 ⟨Nat.le_of_ble_eq_true rfl, Nat.le_of_ble_eq_true rfl⟩ (fun H locs O => ?_)
  refine W.eq (g2 := F0 m 142 ls []) rfl ?_
  refine lv_aload_n hx hb dX2_blow_142 rfl (lv_at hl 2 rfl) ?_
  refine lv_aload_n hx hb dX2_blow_143 rfl (lv_at hl 1 rfl) ?_
  refine lv_aload_n hx hb dX2_blow_144 rfl (lv_at hl 0 rfl) ?_
  obtain ⟨t25, ht25, h⟩ := Option.bind_eq_some_iff.mp h
  refine xr_getP X O ht25 fl_X2_17 dX2_blow_145 ?_
  refine lv_iload_n hx hb dX2_blow_148 rfl (lv_at hl 3 rfl) ?_
  refine lv_iconst (v := (1 : Int32)) hx hb dX2_blow_149 (by decide) ?_
  refine lv_iadd hx hb dX2_blow_150 ?_
  obtain ⟨t26, ht26, h⟩ := Option.bind_eq_some_iff.mp h
  refine xr_aldP (t0 := 4) (C := RX0) X O ht26 (by simp [xRk]) dX2_blow_151 ?_
  refine lv_iload hx hb dX2_blow_152 (lv_at hl 7 rfl) ?_
  refine lv_iconst (v := (1 : Int32)) hx hb dX2_blow_154 (by decide) ?_
  refine lv_iadd hx hb dX2_blow_155 ?_
  obtain ⟨_, hut27, h⟩ := Option.bind_eq_some_iff.mp h
  obtain ⟨t28, ht28, h⟩ := Option.bind_eq_some_iff.mp h
  refine xr_callV (rest := []) X O (T_X8_tickAt l κ v2 v1 t26 (v8 + (1 : Int32)) t24 _ _ ht28) lk_X2_67 hut27 (by omega) rfl hl.1 rfl (Nat.le_of_ble_eq_true rfl) dX2_blow_156 ⟨Nat.le_of_ble_eq_true rfl, Nat.le_of_ble_eq_true rfl⟩ (fun H locs O => ?_)
  refine W.eq (g2 := F0 m 159 ls [.int t28.1]) rfl ?_
  refine lv_pop hx hb dX2_blow_159 rfl ?_
  refine lv_aload_n hx hb dX2_blow_160 rfl (lv_at hl 0 rfl) ?_
  refine lv_aload_n hx hb dX2_blow_161 rfl (lv_at hl 1 rfl) ?_
  refine lv_aload_n hx hb dX2_blow_162 rfl (lv_at hl 2 rfl) ?_
  refine lv_iload_n hx hb dX2_blow_163 rfl (lv_at hl 3 rfl) ?_
  refine lv_iconst (v := (1 : Int32)) hx hb dX2_blow_164 (by decide) ?_
  refine lv_iadd hx hb dX2_blow_165 ?_
  refine lv_iload hx hb dX2_blow_166 (lv_at hl 4 rfl) ?_
  refine lv_lload hx hb dX2_blow_168 (lv_at hl 5 rfl) ?_
  refine lv_iload hx hb dX2_blow_170 (lv_at hl 8 rfl) ?_
  refine lv_i2l (v := v9.toInt64) hx hb dX2_blow_172 rfl ?_
  refine lv_lmul hx hb dX2_blow_173 ?_
  obtain ⟨_, hut29, h⟩ := Option.bind_eq_some_iff.mp h
  obtain ⟨t30, ht30, h⟩ := Option.bind_eq_some_iff.mp h
  refine xr_callV (rest := []) X O (hrc0 κ v0 v1 v2 (v3 + (1 : Int32)) v4 (v5 * v9.toInt64) t28.2 _ ht30) lk_X2_38 hut29 (Nat.le_refl _) rfl hl.1 rfl (Nat.le_of_ble_eq_true rfl) dX2_blow_174 ⟨Nat.le_of_ble_eq_true rfl, Nat.le_of_ble_eq_true rfl⟩ (fun H locs O => ?_)
  refine W.eq (g2 := F0 m 177 ls []) rfl ?_
  rw [← Option.some.inj h] at hK
  have hK : t30 = mo := hK
  rw [hK] at O
  exact xr_vret X hr hlk O dX2_blow_177
set_option maxRecDepth 100000 in
set_option maxHeartbeats 4000000 in
theorem F_X2_blow_66_ok {dd : Nat} (hdd : 5 ≤ dd) {rc : Nat → Nat → Nat → Int32 → Int32 → Int64 → xM → Option (xM)} (hrc0 : ∀ (κ : xQ) (a0 : Nat) (a1 : Nat) (a2 : Nat) (a3 : Int32) (a4 : Int32) (a5 : Int64) (M mo : xM), rc a0 a1 a2 a3 a4 a5 M = some mo → xC l yX2_blow cX2_blow 10 none dd 0 0 κ [.ref (κ.1 + a0), .ref (κ.1 + a1), .ref (κ.1 + a2), .int a3, .int a4, .long a5] M none mo) (X : xX p s m args c cX2_blow 10 RX2 κ) (hr : meth.sig.returnType = none) (hlk : meth.locks = false) {mo : xM} (v0 : Nat) (v1 : Nat) (v2 : Nat) (v3 : Int32) (v4 : Int32) (v5 : Int64) (v7 : Nat) (v8 : Int32) (s0 : Int32) (M : xM) (x : xM) (h : F_X2_blow_66 rc v0 v1 v2 v3 v4 v5 v7 v8 s0 M = some x) (hK : (fun o => o = mo) x) (H : Heap) (locs : List Loc) (ls : Array Slot) (O : xO κ s M H locs) (hl : lv_has ls 10 [(0, .ref (κ.1 + v0)), (1, .ref (κ.1 + v1)), (2, .ref (κ.1 + v2)), (3, .int v3), (4, .int v4), (5, .long v5), (7, .ref (κ.1 + v7)), (8, .int v8)]) : W p l e (xRm (dd + 1) 0 0) s m args below meth c H locs 0 0 (xQf below args s 0 0 κ none mo) (F0 m 66 ls [.int s0]) := by
  unfold F_X2_blow_66 at h
  have hx := X.1
  have hb := X.2.1
  refine lv_istore (lv' := [(9, .int s0), (0, .ref (κ.1 + v0)), (1, .ref (κ.1 + v1)), (2, .ref (κ.1 + v2)), (3, .int v3), (4, .int v4), (5, .long v5), (7, .ref (κ.1 + v7)), (8, .int v8)]) hx hb dX2_blow_66 hl (by decide) rfl (fun ls hl => ?_)
  refine lv_iload hx hb dX2_blow_68 (lv_at hl 0 rfl) ?_
  refine lv_bipush (v := (10 : Int32)) hx hb dX2_blow_70 (by decide) ?_
  refine lv_icmp_ge (tgt := 124) hx hb dX2_blow_72 (by decide) (fun hc72 => ?_) (fun hc72 => ?_)
  · rw [if_pos hc72] at h
    exact F_X2_blow_124_ok hdd hrc0 X hr hlk v0 v1 v2 v3 v4 v5 v7 v8 s0 M _ h hK H locs ls O (lv_sub hl [1, 2, 3, 4, 5, 6, 7, 8, 0] rfl)
  rw [if_neg hc72] at h
  refine lv_aload_n hx hb dX2_blow_75 rfl (lv_at hl 1 rfl) ?_
  obtain ⟨t11, ht11, h⟩ := Option.bind_eq_some_iff.mp h
  refine xr_getP X O ht11 fl_X2_17 dX2_blow_76 ?_
  refine lv_iload_n hx hb dX2_blow_79 rfl (lv_at hl 4 rfl) ?_
  refine lv_iconst (v := (1 : Int32)) hx hb dX2_blow_80 (by decide) ?_
  refine lv_iadd hx hb dX2_blow_81 ?_
  obtain ⟨t12, ht12, h⟩ := Option.bind_eq_some_iff.mp h
  refine xr_aldP (t0 := 4) (C := RX0) X O ht12 (by simp [xRk]) dX2_blow_82 ?_
  refine lv_aload hx hb dX2_blow_83 (lv_at hl 7 rfl) ?_
  obtain ⟨_, hut13, h⟩ := Option.bind_eq_some_iff.mp h
  obtain ⟨t14, ht14, h⟩ := Option.bind_eq_some_iff.mp h
  refine xr_callV (rest := []) X O (T_X0_take l κ t12 v7 M _ ht14) lk_X2_28 hut13 (by omega) rfl hl.1 rfl (Nat.le_of_ble_eq_true rfl) dX2_blow_85 ⟨Nat.le_of_ble_eq_true rfl, Nat.le_of_ble_eq_true rfl⟩ (fun H locs O => ?_)
  refine W.eq (g2 := F0 m 88 ls []) rfl ?_
  refine lv_aload_n hx hb dX2_blow_88 rfl (lv_at hl 3 rfl) ?_
  refine lv_aload_n hx hb dX2_blow_89 rfl (lv_at hl 2 rfl) ?_
  refine lv_aload_n hx hb dX2_blow_90 rfl (lv_at hl 1 rfl) ?_
  obtain ⟨t15, ht15, h⟩ := Option.bind_eq_some_iff.mp h
  refine xr_getP X O ht15 fl_X2_17 dX2_blow_91 ?_
  refine lv_iload_n hx hb dX2_blow_94 rfl (lv_at hl 4 rfl) ?_
  refine lv_iconst (v := (1 : Int32)) hx hb dX2_blow_95 (by decide) ?_
  refine lv_iadd hx hb dX2_blow_96 ?_
  obtain ⟨t16, ht16, h⟩ := Option.bind_eq_some_iff.mp h
  refine xr_aldP (t0 := 4) (C := RX0) X O ht16 (by simp [xRk]) dX2_blow_97 ?_
  refine lv_iload hx hb dX2_blow_98 (lv_at hl 8 rfl) ?_
  obtain ⟨_, hut17, h⟩ := Option.bind_eq_some_iff.mp h
  obtain ⟨t18, ht18, h⟩ := Option.bind_eq_some_iff.mp h
  refine xr_callV (rest := []) X O (T_X8_tickAt l κ v2 v1 t16 v8 t14 _ _ ht18) lk_X2_67 hut17 (by omega) rfl hl.1 rfl (Nat.le_of_ble_eq_true rfl) dX2_blow_100 ⟨Nat.le_of_ble_eq_true rfl, Nat.le_of_ble_eq_true rfl⟩ (fun H locs O => ?_)
  refine W.eq (g2 := F0 m 103 ls [.int t18.1]) rfl ?_
  refine lv_pop hx hb dX2_blow_103 rfl ?_
  refine lv_aload_n hx hb dX2_blow_104 rfl (lv_at hl 1 rfl) ?_
  refine lv_aload_n hx hb dX2_blow_105 rfl (lv_at hl 2 rfl) ?_
  refine lv_aload_n hx hb dX2_blow_106 rfl (lv_at hl 3 rfl) ?_
  refine lv_iload_n hx hb dX2_blow_107 rfl (lv_at hl 4 rfl) ?_
  refine lv_iconst (v := (1 : Int32)) hx hb dX2_blow_108 (by decide) ?_
  refine lv_iadd hx hb dX2_blow_109 ?_
  refine lv_iload hx hb dX2_blow_110 (lv_at hl 5 rfl) ?_
  refine lv_lload hx hb dX2_blow_112 (lv_at hl 6 rfl) ?_
  refine lv_bipush (v := (10 : Int32)) hx hb dX2_blow_114 (by decide) ?_
  refine lv_iload hx hb dX2_blow_116 (lv_at hl 0 rfl) ?_
  refine lv_isub hx hb dX2_blow_118 ?_
  refine lv_i2l (v := ((10 : Int32) - s0).toInt64) hx hb dX2_blow_119 rfl ?_
  refine lv_lmul hx hb dX2_blow_120 ?_
  obtain ⟨_, hut19, h⟩ := Option.bind_eq_some_iff.mp h
  obtain ⟨t20, ht20, h⟩ := Option.bind_eq_some_iff.mp h
  refine xr_callV (rest := []) X O (hrc0 κ v0 v1 v2 (v3 + (1 : Int32)) v4 (v5 * ((10 : Int32) - s0).toInt64) t18.2 _ ht20) lk_X2_38 hut19 (Nat.le_refl _) rfl hl.1 rfl (Nat.le_of_ble_eq_true rfl) dX2_blow_121 ⟨Nat.le_of_ble_eq_true rfl, Nat.le_of_ble_eq_true rfl⟩ (fun H locs O => ?_)
  refine W.eq (g2 := F0 m 124 ls []) rfl ?_
  exact F_X2_blow_124_ok hdd hrc0 X hr hlk v0 v1 v2 v3 v4 v5 v7 v8 s0 t20 _ h hK H locs ls O (lv_sub hl [1, 2, 3, 4, 5, 6, 7, 8, 0] rfl)
set_option maxRecDepth 100000 in
set_option maxHeartbeats 4000000 in
theorem To_X2_blow (l : Launch) {dd : Nat} (hdd : 5 ≤ dd) {rc : Nat → Nat → Nat → Int32 → Int32 → Int64 → xM → Option (xM)} (hrc0 : ∀ (κ : xQ) (a0 : Nat) (a1 : Nat) (a2 : Nat) (a3 : Int32) (a4 : Int32) (a5 : Int64) (M mo : xM), rc a0 a1 a2 a3 a4 a5 M = some mo → xC l yX2_blow cX2_blow 10 none dd 0 0 κ [.ref (κ.1 + a0), .ref (κ.1 + a1), .ref (κ.1 + a2), .int a3, .int a4, .long a5] M none mo) (κ : xQ) (a0 : Nat) (a1 : Nat) (a2 : Nat) (a3 : Int32) (a4 : Int32) (a5 : Int64) (M : xM) (mo : xM) (h : F_X2_blow rc a0 a1 a2 a3 a4 a5 M = some mo) : xC l yX2_blow cX2_blow 10 none (dd + 1) 0 0 κ [.ref (κ.1 + a0), .ref (κ.1 + a1), .ref (κ.1 + a2), .int a3, .int a4, .long a5] M none mo := by
  refine xC_of rfl (Nat.le_of_ble_eq_true rfl) fun p e s m args below meth c X hr hlk hnm H locs ls O hl => ?_
  have X : xX p s m args c cX2_blow 10 RX2 κ := X
  have hl : lv_has ls 10 [(0, .ref (κ.1 + a0)), (1, .ref (κ.1 + a1)), (2, .ref (κ.1 + a2)), (3, .int a3), (4, .int a4), (5, .long a5)] := hl
  have hx := X.1
  have hb := X.2.1
  obtain ⟨x, hx0⟩ : ∃ x, mo = x := ⟨_, rfl⟩
  rw [hx0] at h
  have hK : x = mo := hx0.symm
  unfold F_X2_blow at h
  refine lv_aload_n hx hb dX2_blow_0 rfl (lv_at hl 0 rfl) ?_
  obtain ⟨t1, ht1, h⟩ := Option.bind_eq_some_iff.mp h
  refine xr_getP X O ht1 fl_X2_17 dX2_blow_1 ?_
  refine lv_iload_n hx hb dX2_blow_4 rfl (lv_at hl 3 rfl) ?_
  obtain ⟨t2, ht2, h⟩ := Option.bind_eq_some_iff.mp h
  refine xr_aldP (t0 := 4) (C := RX0) X O ht2 (by simp [xRk]) dX2_blow_5 ?_
  refine lv_astore (lv' := [(7, .ref (κ.1 + t2)), (0, .ref (κ.1 + a0)), (1, .ref (κ.1 + a1)), (2, .ref (κ.1 + a2)), (3, .int a3), (4, .int a4), (5, .long a5)]) hx hb dX2_blow_6 hl (by decide) rfl (fun ls hl => ?_)
  refine lv_aload hx hb dX2_blow_8 (lv_at hl 0 rfl) ?_
  obtain ⟨t3, ht3, h⟩ := Option.bind_eq_some_iff.mp h
  refine xr_getI X O ht3 fl_X2_42 (Or.inl rfl) dX2_blow_10 ?_
  refine lv_if_ne (tgt := 17) hx hb dX2_blow_13 (by decide) (fun hc13 => ?_) (fun hc13 => ?_)
  · rw [if_neg hc13] at h
    refine lv_iload_n hx hb dX2_blow_17 rfl (lv_at hl 4 rfl) ?_
    refine lv_iload hx hb dX2_blow_18 (lv_at hl 5 rfl) ?_
    refine lv_icmp_lt (tgt := 32) hx hb dX2_blow_20 (by decide) (fun hc20 => ?_) (fun hc20 => ?_)
    · rw [if_pos hc20] at h
      refine lv_aload_n hx hb dX2_blow_32 rfl (lv_at hl 3 rfl) ?_
      refine lv_aload_n hx hb dX2_blow_33 rfl (lv_at hl 2 rfl) ?_
      refine lv_aload hx hb dX2_blow_34 (lv_at hl 0 rfl) ?_
      obtain ⟨t4, ht4, h⟩ := Option.bind_eq_some_iff.mp h
      refine xr_getI X O ht4 fl_X2_50 (Or.inl rfl) dX2_blow_36 ?_
      refine lv_iconst (v := (1 : Int32)) hx hb dX2_blow_39 (by decide) ?_
      refine lv_iadd hx hb dX2_blow_40 ?_
      refine lv_aload hx hb dX2_blow_41 (lv_at hl 0 rfl) ?_
      obtain ⟨t5, ht5, h⟩ := Option.bind_eq_some_iff.mp h
      refine xr_getI X O ht5 fl_X2_53 (Or.inl rfl) dX2_blow_43 ?_
      obtain ⟨_, hut6, h⟩ := Option.bind_eq_some_iff.mp h
      obtain ⟨t7, ht7, h⟩ := Option.bind_eq_some_iff.mp h
      refine xr_callV (rest := []) X O (T_X8_tideAt l κ a2 a1 (t4 + (1 : Int32)) t5 M _ _ ht7) lk_X2_56 hut6 (by omega) rfl hl.1 rfl (Nat.le_of_ble_eq_true rfl) dX2_blow_46 ⟨Nat.le_of_ble_eq_true rfl, Nat.le_of_ble_eq_true rfl⟩ (fun H locs O => ?_)
      refine W.eq (g2 := F0 m 49 ls [.int t7.1]) rfl ?_
      refine lv_istore (lv' := [(8, .int t7.1), (7, .ref (κ.1 + t2)), (0, .ref (κ.1 + a0)), (1, .ref (κ.1 + a1)), (2, .ref (κ.1 + a2)), (3, .int a3), (4, .int a4), (5, .long a5)]) hx hb dX2_blow_49 hl (by decide) rfl (fun ls hl => ?_)
      refine lv_iload hx hb dX2_blow_51 (lv_at hl 0 rfl) ?_
      refine lv_bipush (v := (10 : Int32)) hx hb dX2_blow_53 (by decide) ?_
      refine lv_icmp_ge (tgt := 65) hx hb dX2_blow_55 (by decide) (fun hc55 => ?_) (fun hc55 => ?_)
      · rw [if_pos hc55] at h
        refine lv_iconst (v := (0 : Int32)) hx hb dX2_blow_65 (by decide) ?_
        exact F_X2_blow_66_ok hdd hrc0 X hr hlk a0 a1 a2 a3 a4 a5 t2 t7.1 (0 : Int32) t7.2 _ h hK H locs ls O (lv_sub hl [2, 3, 4, 5, 6, 7, 1, 0] rfl)
      rw [if_neg hc55] at h
      refine lv_aload_n hx hb dX2_blow_58 rfl (lv_at hl 3 rfl) ?_
      obtain ⟨t8, ht8, h⟩ := Option.bind_eq_some_iff.mp h
      refine xr_getI X O ht8 fl_X2_62 (Or.inl rfl) dX2_blow_59 ?_
      refine lv_goto (tgt := 66) hx hb dX2_blow_62 (by decide) ?_
      exact F_X2_blow_66_ok hdd hrc0 X hr hlk a0 a1 a2 a3 a4 a5 t2 t7.1 t8 t7.2 _ h hK H locs ls O (lv_sub hl [2, 3, 4, 5, 6, 7, 1, 0] rfl)
    rw [if_neg hc20] at h
    refine lv_aload_n hx hb dX2_blow_23 rfl (lv_at hl 1 rfl) ?_
    refine lv_aload hx hb dX2_blow_24 (lv_at hl 0 rfl) ?_
    refine lv_lload hx hb dX2_blow_26 (lv_at hl 6 rfl) ?_
    obtain ⟨_, hut9, h⟩ := Option.bind_eq_some_iff.mp h
    obtain ⟨t10, ht10, h⟩ := Option.bind_eq_some_iff.mp h
    refine xr_callV (rest := []) X O (T_X2_tally l κ a0 t2 a5 M _ ht10) lk_X2_46 hut9 (by omega) rfl hl.1 rfl (Nat.le_of_ble_eq_true rfl) dX2_blow_28 ⟨Nat.le_of_ble_eq_true rfl, Nat.le_of_ble_eq_true rfl⟩ (fun H locs O => ?_)
    refine W.eq (g2 := F0 m 31 ls []) rfl ?_
    rw [← Option.some.inj h] at hK
    have hK : t10 = mo := hK
    rw [hK] at O
    exact xr_vret X hr hlk O dX2_blow_31
  rw [if_pos hc13] at h
  rw [← Option.some.inj h] at hK
  have hK : M = mo := hK
  rw [hK] at O
  exact xr_vret X hr hlk O dX2_blow_16
set_option maxRecDepth 100000 in
set_option maxHeartbeats 4000000 in
theorem K_X2_blow (l : Launch) : ∀ n : Nat, (∀ (κ : xQ) (a0 : Nat) (a1 : Nat) (a2 : Nat) (a3 : Int32) (a4 : Int32) (a5 : Int64) (M : xM) (mo : xM), R_X2_blow n a0 a1 a2 a3 a4 a5 M = some mo → xC l yX2_blow cX2_blow 10 none (5 + n) 0 0 κ [.ref (κ.1 + a0), .ref (κ.1 + a1), .ref (κ.1 + a2), .int a3, .int a4, .long a5] M none mo) := by
  intro n
  induction n with
  | zero => exact fun κ a0 a1 a2 a3 a4 a5 M mo h => (by cases h)
  | succ n h0 => exact fun κ a0 a1 a2 a3 a4 a5 M mo h => To_X2_blow l (dd := 5 + n) (Nat.le_add_right _ _) h0 κ a0 a1 a2 a3 a4 a5 M mo h
set_option maxRecDepth 100000 in
set_option maxHeartbeats 4000000 in
theorem Tx_X2_blow (l : Launch) (κ : xQ) (a0 : Nat) (a1 : Nat) (a2 : Nat) (a3 : Int32) (a4 : Int32) (a5 : Int64) (M : xM) (mo : xM) (h : Fx_X2_blow a0 a1 a2 a3 a4 a5 M = some mo) : xC l yX2_blow cX2_blow 10 none 15 0 0 κ [.ref (κ.1 + a0), .ref (κ.1 + a1), .ref (κ.1 + a2), .int a3, .int a4, .long a5] M none mo := (K_X2_blow l 10) κ a0 a1 a2 a3 a4 a5 M mo h
def F_X2_weigh (a0 : Nat) (a1 : Nat) (a2 : Nat) (a3 : Nat) (a4 : Int32) (M : xM) : Option (xM) :=
(xgP M a0 2 0).bind fun t1 =>
(F_J7_fill_d0a16 t1 (0 : Int64) M).bind fun t2 =>
(xgP t2 a0 2 1).bind fun t3 =>
(xaP t2 30 t3 (0 : Int32)).bind fun t4 =>
(xck t2 t4 0).bind fun _ =>
(F_X0_take t4 a2 t2).bind fun t6 =>
(F_J9_min_7cf53 a4 (8 : Int32) t6).bind fun t7 =>
(xck t7.2 a0 2).bind fun _ =>
(Fx_X2_blow a0 a1 a3 (0 : Int32) t7.1 (1 : Int64) t7.2).bind fun t9 =>
some t9
set_option maxRecDepth 100000 in
set_option maxHeartbeats 4000000 in
theorem T_X2_weigh (l : Launch) (κ : xQ) (a0 : Nat) (a1 : Nat) (a2 : Nat) (a3 : Nat) (a4 : Int32) (M : xM) (mo : xM) (h : F_X2_weigh a0 a1 a2 a3 a4 M = some mo) : xC l yX2_weigh cX2_weigh 5 none 16 0 0 κ [.ref (κ.1 + a0), .ref (κ.1 + a1), .ref (κ.1 + a2), .ref (κ.1 + a3), .int a4] M none mo := by
  refine xC_of rfl (Nat.le_of_ble_eq_true rfl) fun p e s m args below meth c X hr hlk hnm H locs ls O hl => ?_
  have X : xX p s m args c cX2_weigh 5 RX2 κ := X
  have hl : lv_has ls 5 [(0, .ref (κ.1 + a0)), (1, .ref (κ.1 + a1)), (2, .ref (κ.1 + a2)), (3, .ref (κ.1 + a3)), (4, .int a4)] := hl
  have hx := X.1
  have hb := X.2.1
  obtain ⟨x, hx0⟩ : ∃ x, mo = x := ⟨_, rfl⟩
  rw [hx0] at h
  have hK : x = mo := hx0.symm
  unfold F_X2_weigh at h
  refine lv_aload_n hx hb dX2_weigh_0 rfl (lv_at hl 0 rfl) ?_
  obtain ⟨t1, ht1, h⟩ := Option.bind_eq_some_iff.mp h
  refine xr_getP X O ht1 fl_X2_9 dX2_weigh_1 ?_
  refine lv_lconst (v := (0 : Int64)) hx hb dX2_weigh_4 (by decide) ?_
  obtain ⟨t2, ht2, h⟩ := Option.bind_eq_some_iff.mp h
  refine xr_callS (rest := []) X O (T_J7_fill_d0a16 l κ t1 (0 : Int64) M _ ht2) lk_X2_22 (Nat.le_of_ble_eq_true rfl) rfl hl.1 rfl (Nat.le_of_ble_eq_true rfl) dX2_weigh_5 ⟨Nat.le_of_ble_eq_true rfl, Nat.le_of_ble_eq_true rfl⟩ (fun H locs O => ?_)
  refine W.eq (g2 := F0 m 8 ls []) rfl ?_
  refine lv_aload_n hx hb dX2_weigh_8 rfl (lv_at hl 0 rfl) ?_
  obtain ⟨t3, ht3, h⟩ := Option.bind_eq_some_iff.mp h
  refine xr_getP X O ht3 fl_X2_17 dX2_weigh_9 ?_
  refine lv_iconst (v := (0 : Int32)) hx hb dX2_weigh_12 (by decide) ?_
  obtain ⟨t4, ht4, h⟩ := Option.bind_eq_some_iff.mp h
  refine xr_aldP (t0 := 4) (C := RX0) X O ht4 (by simp [xRk]) dX2_weigh_13 ?_
  refine lv_aload_n hx hb dX2_weigh_14 rfl (lv_at hl 2 rfl) ?_
  obtain ⟨_, hut5, h⟩ := Option.bind_eq_some_iff.mp h
  obtain ⟨t6, ht6, h⟩ := Option.bind_eq_some_iff.mp h
  refine xr_callV (rest := []) X O (T_X0_take l κ t4 a2 t2 _ ht6) lk_X2_28 hut5 (Nat.le_of_ble_eq_true rfl) rfl hl.1 rfl (Nat.le_of_ble_eq_true rfl) dX2_weigh_15 ⟨Nat.le_of_ble_eq_true rfl, Nat.le_of_ble_eq_true rfl⟩ (fun H locs O => ?_)
  refine W.eq (g2 := F0 m 18 ls []) rfl ?_
  refine lv_aload_n hx hb dX2_weigh_18 rfl (lv_at hl 0 rfl) ?_
  refine lv_aload_n hx hb dX2_weigh_19 rfl (lv_at hl 1 rfl) ?_
  refine lv_aload_n hx hb dX2_weigh_20 rfl (lv_at hl 3 rfl) ?_
  refine lv_iconst (v := (0 : Int32)) hx hb dX2_weigh_21 (by decide) ?_
  refine lv_iload hx hb dX2_weigh_22 (lv_at hl 4 rfl) ?_
  refine lv_bipush (v := (8 : Int32)) hx hb dX2_weigh_24 (by decide) ?_
  obtain ⟨t7, ht7, h⟩ := Option.bind_eq_some_iff.mp h
  refine xr_callS (rest := [.int (0 : Int32), .ref (κ.1 + a3), .ref (κ.1 + a1), .ref (κ.1 + a0)]) X O (T_J9_min_7cf53 l κ a4 (8 : Int32) t6 _ _ ht7) lk_X2_32 (Nat.le_of_ble_eq_true rfl) rfl hl.1 rfl (Nat.le_of_ble_eq_true rfl) dX2_weigh_26 ⟨Nat.le_of_ble_eq_true rfl, Nat.le_of_ble_eq_true rfl⟩ (fun H locs O => ?_)
  refine W.eq (g2 := F0 m 29 ls [.int t7.1, .int (0 : Int32), .ref (κ.1 + a3), .ref (κ.1 + a1), .ref (κ.1 + a0)]) rfl ?_
  refine lv_lconst (v := (1 : Int64)) hx hb dX2_weigh_29 (by decide) ?_
  obtain ⟨_, hut8, h⟩ := Option.bind_eq_some_iff.mp h
  obtain ⟨t9, ht9, h⟩ := Option.bind_eq_some_iff.mp h
  refine xr_callV (rest := []) X O (Tx_X2_blow l κ a0 a1 a3 (0 : Int32) t7.1 (1 : Int64) t7.2 _ ht9) lk_X2_38 hut8 (Nat.le_of_ble_eq_true rfl) rfl hl.1 rfl (Nat.le_of_ble_eq_true rfl) dX2_weigh_30 ⟨Nat.le_of_ble_eq_true rfl, Nat.le_of_ble_eq_true rfl⟩ (fun H locs O => ?_)
  refine W.eq (g2 := F0 m 33 ls []) rfl ?_
  rw [← Option.some.inj h] at hK
  have hK : t9 = mo := hK
  rw [hK] at O
  exact xr_vret X hr hlk O dX2_weigh_33
def F_X2_lowest_78 (v0 : Int64) (v3 : Int32) (v4 : Int64) (v6 : Int64) (M : xM) : Option (Int32 × xM) :=
if (lg_cmp v6 (0 : Int64)) = 0 then (
some ((0 : Int32), M))
else (
if v3 = 0 then (
if v6 = 0 then none else
some ((v0 / v6).toInt32, M))
else (
if v6 = 0 then none else
some ((v4 / v6).toInt32, M)))
def F_X2_lowest_43b (v0 : Int64) (v3 : Int32) (v4 : Int64) : (Int64 × Int64 × Int32 × xM) → Option ((Int64 × Int64 × Int32 × xM) ⊕ (Int32 × xM)) := fun ⟨v6, v8, v10, M⟩ =>
if (100 : Int32) ≤ v10 then (
(F_X2_lowest_78 v0 v3 v4 v6 M).map Sum.inr)
else (
if (lg_cmp v8 (0 : Int64)) = 0 then (
(F_X2_lowest_78 v0 v3 v4 v6 M).map Sum.inr)
else (
if v8 = 0 then none else
(some ((v6 - v6 / v8 * v8))).bind fun t2 =>
some (.inl (v8, t2, (v10 + 1), M))))
def F_X2_lowest_43 (v0 : Int64) (v3 : Int32) (v4 : Int64) (v6 : Int64) (v8 : Int64) (v10 : Int32) (M : xM) : Option (Int32 × xM) := xit (F_X2_lowest_43b v0 v3 v4) xFU (v6, v8, v10, M)
def F_X2_lowest_33 (v0 : Int64) (v3 : Int32) (v4 : Int64) (M : xM) : Option (Int32 × xM) :=
F_X2_lowest_43 v0 v3 v4 v4 v0 (0 : Int32) M
def F_X2_lowest_6b (v0 : Int64) (v2 : Int32) (v3 : Int32) : (Int64 × Int32 × xM) → Option ((Int64 × Int32 × xM) ⊕ (Int32 × xM)) := fun ⟨v4, v6, M⟩ =>
if v2 ≤ v6 then (
(F_X2_lowest_33 v0 v3 v4 M).map Sum.inr)
else (
if (8 : Int32) ≤ v6 then (
(F_X2_lowest_33 v0 v3 v4 M).map Sum.inr)
else (
(some ((v4 * (10 : Int64)))).bind fun t1 =>
some (.inl (t1, (v6 + 1), M))))
def F_X2_lowest_6 (v0 : Int64) (v2 : Int32) (v3 : Int32) (v4 : Int64) (v6 : Int32) (M : xM) : Option (Int32 × xM) := xit (F_X2_lowest_6b v0 v2 v3) xFU (v4, v6, M)
def F_X2_lowest (a0 : Int64) (a1 : Int32) (a2 : Int32) (M : xM) : Option (Int32 × xM) :=
F_X2_lowest_6 a0 a1 a2 (1 : Int64) (0 : Int32) M
set_option maxRecDepth 100000 in
set_option maxHeartbeats 4000000 in
theorem F_X2_lowest_78_ok (X : xX p s m args c cX2_lowest 13 RX2 κ) (hr : meth.sig.returnType = (some .int)) (hlk : meth.locks = false) {ro : Int32} {mo : xM} (v0 : Int64) (v3 : Int32) (v4 : Int64) (v6 : Int64) (M : xM) (x : Int32 × xM) (h : F_X2_lowest_78 v0 v3 v4 v6 M = some x) (hK : (fun o => o = (ro, mo)) x) (H : Heap) (locs : List Loc) (ls : Array Slot) (O : xO κ s M H locs) (hl : lv_has ls 13 [(0, .long v0), (3, .int v3), (4, .long v4), (6, .long v6)]) : W p l e (xRm 2 0 0) s m args below meth c H locs 0 0 (xQf below args s 0 0 κ (some (.int ro)) mo) (F0 m 78 ls []) := by
  unfold F_X2_lowest_78 at h
  have hx := X.1
  have hb := X.2.1
  refine lv_lload hx hb dX2_lowest_78 (lv_at hl 3 rfl) ?_
  refine lv_lconst (v := (0 : Int64)) hx hb dX2_lowest_80 (by decide) ?_
  refine W.lcmp hx hb dX2_lowest_81 ?_
  refine lv_if_ne (tgt := 87) hx hb dX2_lowest_82 (by decide) (fun hc82 => ?_) (fun hc82 => ?_)
  · rw [if_neg hc82] at h
    refine lv_iload_n hx hb dX2_lowest_87 rfl (lv_at hl 1 rfl) ?_
    refine lv_if_ne (tgt := 95) hx hb dX2_lowest_88 (by decide) (fun hc88 => ?_) (fun hc88 => ?_)
    · rw [if_neg hc88] at h
      refine lv_lload hx hb dX2_lowest_95 (lv_at hl 2 rfl) ?_
      refine lv_lload hx hb dX2_lowest_97 (lv_at hl 3 rfl) ?_
      by_cases hz99 : v6 = 0
      · rw [if_pos hz99] at h; cases h
      rw [if_neg hz99] at h
      refine lv_ldiv hx hb dX2_lowest_99 hz99 ?_
      refine lv_l2i (v := (v4 / v6).toInt32) hx hb dX2_lowest_100 rfl ?_
      rw [← Option.some.inj h] at hK
      have hK : ((v4 / v6).toInt32, M) = (ro, mo) := hK
      obtain ⟨hK1, hK2⟩ := Prod.mk.inj hK
      rw [hK2] at O
      refine xr_top (w := .int ro) (by rw [hK1]) ?_
      exact xr_iret X hr hlk O dX2_lowest_101
    rw [if_pos hc88] at h
    refine lv_lload_n hx hb dX2_lowest_91 rfl (lv_at hl 0 rfl) ?_
    refine lv_goto (tgt := 97) hx hb dX2_lowest_92 (by decide) ?_
    refine lv_lload hx hb dX2_lowest_97 (lv_at hl 3 rfl) ?_
    by_cases hz99 : v6 = 0
    · rw [if_pos hz99] at h; cases h
    rw [if_neg hz99] at h
    refine lv_ldiv hx hb dX2_lowest_99 hz99 ?_
    refine lv_l2i (v := (v0 / v6).toInt32) hx hb dX2_lowest_100 rfl ?_
    rw [← Option.some.inj h] at hK
    have hK : ((v0 / v6).toInt32, M) = (ro, mo) := hK
    obtain ⟨hK1, hK2⟩ := Prod.mk.inj hK
    rw [hK2] at O
    refine xr_top (w := .int ro) (by rw [hK1]) ?_
    exact xr_iret X hr hlk O dX2_lowest_101
  rw [if_pos hc82] at h
  refine lv_iconst (v := (0 : Int32)) hx hb dX2_lowest_85 (by decide) ?_
  rw [← Option.some.inj h] at hK
  have hK : ((0 : Int32), M) = (ro, mo) := hK
  obtain ⟨hK1, hK2⟩ := Prod.mk.inj hK
  rw [hK2] at O
  refine xr_top (w := .int ro) (by rw [hK1]) ?_
  exact xr_iret X hr hlk O dX2_lowest_86
set_option maxRecDepth 100000 in
set_option maxHeartbeats 4000000 in
theorem F_X2_lowest_43_bok (X : xX p s m args c cX2_lowest 13 RX2 κ) (hr : meth.sig.returnType = (some .int)) (hlk : meth.locks = false) {ro : Int32} {mo : xM} (v0 : Int64) (v3 : Int32) (v4 : Int64) (v6 : Int64) (v8 : Int64) (v10 : Int32) {W43 : Int64 × Int64 × Int32 × xM → Prop} (hW43 : ∀ (v6 : Int64) (v8 : Int64) (v10 : Int32) (M : xM), W43 (v6, v8, v10, M) → ∀ (H : Heap) (locs : List Loc) (ls : Array Slot), xO κ s M H locs → lv_has ls 13 [(0, .long v0), (3, .int v3), (4, .long v4), (6, .long v6), (8, .long v8), (10, .int v10)] → W p l e (xRm 2 0 0) s m args below meth c H locs 0 0 (xQf below args s 0 0 κ (some (.int ro)) mo) (F0 m 43 ls [])) (M : xM) (x : (Int64 × Int64 × Int32 × xM) ⊕ (Int32 × xM)) (h : F_X2_lowest_43b v0 v3 v4 (v6, v8, v10, M) = some x) (hK : (xKl W43 (fun o => o = (ro, mo))) x) (H : Heap) (locs : List Loc) (ls : Array Slot) (O : xO κ s M H locs) (hl : lv_has ls 13 [(0, .long v0), (3, .int v3), (4, .long v4), (6, .long v6), (8, .long v8), (10, .int v10)]) : W p l e (xRm 2 0 0) s m args below meth c H locs 0 0 (xQf below args s 0 0 κ (some (.int ro)) mo) (F0 m 43 ls []) := by
  unfold F_X2_lowest_43b at h
  dsimp only at h
  have hx := X.1
  have hb := X.2.1
  refine lv_iload hx hb dX2_lowest_43 (lv_at hl 5 rfl) ?_
  refine lv_bipush (v := (100 : Int32)) hx hb dX2_lowest_45 (by decide) ?_
  refine lv_icmp_ge (tgt := 78) hx hb dX2_lowest_47 (by decide) (fun hc47 => ?_) (fun hc47 => ?_)
  · rw [if_pos hc47] at h
    obtain ⟨_, hw0, ew0⟩ := Option.map_eq_some_iff.mp h
    rw [← ew0] at hK
    have h := hw0
    exact F_X2_lowest_78_ok X hr hlk v0 v3 v4 v6 M _ h hK H locs ls O (lv_sub hl [0, 1, 2, 3] rfl)
  rw [if_neg hc47] at h
  refine lv_lload hx hb dX2_lowest_50 (lv_at hl 4 rfl) ?_
  refine lv_lconst (v := (0 : Int64)) hx hb dX2_lowest_52 (by decide) ?_
  refine W.lcmp hx hb dX2_lowest_53 ?_
  refine lv_if_eq (tgt := 78) hx hb dX2_lowest_54 (by decide) (fun hc54 => ?_) (fun hc54 => ?_)
  · rw [if_pos hc54] at h
    obtain ⟨_, hw0, ew0⟩ := Option.map_eq_some_iff.mp h
    rw [← ew0] at hK
    have h := hw0
    exact F_X2_lowest_78_ok X hr hlk v0 v3 v4 v6 M _ h hK H locs ls O (lv_sub hl [0, 1, 2, 3] rfl)
  rw [if_neg hc54] at h
  refine lv_lload hx hb dX2_lowest_57 (lv_at hl 3 rfl) ?_
  refine lv_lload hx hb dX2_lowest_59 (lv_at hl 4 rfl) ?_
  by_cases hz61 : v8 = 0
  · rw [if_pos hz61] at h; cases h
  rw [if_neg hz61] at h
  refine lv_lrem hx hb dX2_lowest_61 hz61 ?_
  obtain ⟨t2, ht2, h⟩ := Option.bind_eq_some_iff.mp h
  refine xr_top (w := .long t2) (by rw [Option.some.inj ht2]) ?_
  refine lv_lstore (lv' := [(11, .long t2), (0, .long v0), (3, .int v3), (4, .long v4), (6, .long v6), (8, .long v8), (10, .int v10)]) hx hb dX2_lowest_62 hl (by decide) rfl (fun ls hl => ?_)
  refine lv_lload hx hb dX2_lowest_64 (lv_at hl 5 rfl) ?_
  refine lv_lstore (lv' := [(6, .long v8), (11, .long t2), (0, .long v0), (3, .int v3), (4, .long v4), (8, .long v8), (10, .int v10)]) hx hb dX2_lowest_66 hl (by decide) rfl (fun ls hl => ?_)
  refine lv_lload hx hb dX2_lowest_68 (lv_at hl 1 rfl) ?_
  refine lv_lstore (lv' := [(8, .long t2), (6, .long v8), (11, .long t2), (0, .long v0), (3, .int v3), (4, .long v4), (10, .int v10)]) hx hb dX2_lowest_70 hl (by decide) rfl (fun ls hl => ?_)
  refine lv_iinc (v := (v10 + 1)) (lv' := [(10, .int (v10 + 1)), (8, .long t2), (6, .long v8), (11, .long t2), (0, .long v0), (3, .int v3), (4, .long v4)]) hx hb dX2_lowest_72 hl (k := 6) rfl rfl (by decide) rfl (fun ls hl => ?_)
  refine lv_goto (tgt := 43) hx hb dX2_lowest_75 (by decide) ?_
  rw [← Option.some.inj h] at hK
  exact hW43 v8 t2 (v10 + 1) M hK H locs ls O (lv_sub hl [4, 5, 6, 2, 1, 0] rfl)
set_option maxRecDepth 100000 in
set_option maxHeartbeats 4000000 in
theorem F_X2_lowest_43_ok (X : xX p s m args c cX2_lowest 13 RX2 κ) (hr : meth.sig.returnType = (some .int)) (hlk : meth.locks = false) {ro : Int32} {mo : xM} (v0 : Int64) (v3 : Int32) (v4 : Int64) (v6 : Int64) (v8 : Int64) (v10 : Int32) (M : xM) (x : Int32 × xM) (h : F_X2_lowest_43 v0 v3 v4 v6 v8 v10 M = some x) (hK : (fun o => o = (ro, mo)) x) (H : Heap) (locs : List Loc) (ls : Array Slot) (O : xO κ s M H locs) (hl : lv_has ls 13 [(0, .long v0), (3, .int v3), (4, .long v4), (6, .long v6), (8, .long v8), (10, .int v10)]) : W p l e (xRm 2 0 0) s m args below meth c H locs 0 0 (xQf below args s 0 0 κ (some (.int ro)) mo) (F0 m 43 ls []) := by
  refine xit_K (Wh := fun x => ∀ (H : Heap) (locs : List Loc) (ls : Array Slot), xO κ s x.2.2.2 H locs → lv_has ls 13 [(0, .long v0), (3, .int v3), (4, .long v4), (6, .long x.1), (8, .long x.2.1), (10, .int x.2.2.1)] → W p l e (xRm 2 0 0) s m args below meth c H locs 0 0 (xQf below args s 0 0 κ (some (.int ro)) mo) (F0 m 43 ls [])) (Kp := (fun o => o = (ro, mo))) ?_ xFU (v6, v8, v10, M) x h hK H locs ls O hl
  intro y x h hK H locs ls O hl
  exact F_X2_lowest_43_bok X hr hlk v0 v3 v4 y.1 y.2.1 y.2.2.1 (fun _ _ _ _ hw => hw) y.2.2.2 x h hK H locs ls O hl
set_option maxRecDepth 100000 in
set_option maxHeartbeats 4000000 in
theorem F_X2_lowest_33_ok (X : xX p s m args c cX2_lowest 13 RX2 κ) (hr : meth.sig.returnType = (some .int)) (hlk : meth.locks = false) {ro : Int32} {mo : xM} (v0 : Int64) (v3 : Int32) (v4 : Int64) (M : xM) (x : Int32 × xM) (h : F_X2_lowest_33 v0 v3 v4 M = some x) (hK : (fun o => o = (ro, mo)) x) (H : Heap) (locs : List Loc) (ls : Array Slot) (O : xO κ s M H locs) (hl : lv_has ls 13 [(0, .long v0), (3, .int v3), (4, .long v4)]) : W p l e (xRm 2 0 0) s m args below meth c H locs 0 0 (xQf below args s 0 0 κ (some (.int ro)) mo) (F0 m 33 ls []) := by
  unfold F_X2_lowest_33 at h
  have hx := X.1
  have hb := X.2.1
  refine lv_lload hx hb dX2_lowest_33 (lv_at hl 2 rfl) ?_
  refine lv_lstore (lv' := [(6, .long v4), (0, .long v0), (3, .int v3), (4, .long v4)]) hx hb dX2_lowest_35 hl (by decide) rfl (fun ls hl => ?_)
  refine lv_lload_n hx hb dX2_lowest_37 rfl (lv_at hl 1 rfl) ?_
  refine lv_lstore (lv' := [(8, .long v0), (6, .long v4), (0, .long v0), (3, .int v3), (4, .long v4)]) hx hb dX2_lowest_38 hl (by decide) rfl (fun ls hl => ?_)
  refine lv_iconst (v := (0 : Int32)) hx hb dX2_lowest_40 (by decide) ?_
  refine lv_istore (lv' := [(10, .int (0 : Int32)), (8, .long v0), (6, .long v4), (0, .long v0), (3, .int v3), (4, .long v4)]) hx hb dX2_lowest_41 hl (by decide) rfl (fun ls hl => ?_)
  exact F_X2_lowest_43_ok X hr hlk v0 v3 v4 v4 v0 (0 : Int32) M _ h hK H locs ls O (lv_sub hl [3, 4, 5, 2, 1, 0] rfl)
set_option maxRecDepth 100000 in
set_option maxHeartbeats 4000000 in
theorem F_X2_lowest_6_bok (X : xX p s m args c cX2_lowest 13 RX2 κ) (hr : meth.sig.returnType = (some .int)) (hlk : meth.locks = false) {ro : Int32} {mo : xM} (v0 : Int64) (v2 : Int32) (v3 : Int32) (v4 : Int64) (v6 : Int32) {W6 : Int64 × Int32 × xM → Prop} (hW6 : ∀ (v4 : Int64) (v6 : Int32) (M : xM), W6 (v4, v6, M) → ∀ (H : Heap) (locs : List Loc) (ls : Array Slot), xO κ s M H locs → lv_has ls 13 [(0, .long v0), (2, .int v2), (3, .int v3), (4, .long v4), (6, .int v6)] → W p l e (xRm 2 0 0) s m args below meth c H locs 0 0 (xQf below args s 0 0 κ (some (.int ro)) mo) (F0 m 6 ls [])) (M : xM) (x : (Int64 × Int32 × xM) ⊕ (Int32 × xM)) (h : F_X2_lowest_6b v0 v2 v3 (v4, v6, M) = some x) (hK : (xKl W6 (fun o => o = (ro, mo))) x) (H : Heap) (locs : List Loc) (ls : Array Slot) (O : xO κ s M H locs) (hl : lv_has ls 13 [(0, .long v0), (2, .int v2), (3, .int v3), (4, .long v4), (6, .int v6)]) : W p l e (xRm 2 0 0) s m args below meth c H locs 0 0 (xQf below args s 0 0 κ (some (.int ro)) mo) (F0 m 6 ls []) := by
  unfold F_X2_lowest_6b at h
  dsimp only at h
  have hx := X.1
  have hb := X.2.1
  refine lv_iload hx hb dX2_lowest_6 (lv_at hl 4 rfl) ?_
  refine lv_iload_n hx hb dX2_lowest_8 rfl (lv_at hl 1 rfl) ?_
  refine lv_icmp_ge (tgt := 33) hx hb dX2_lowest_9 (by decide) (fun hc9 => ?_) (fun hc9 => ?_)
  · rw [if_pos hc9] at h
    obtain ⟨_, hw0, ew0⟩ := Option.map_eq_some_iff.mp h
    rw [← ew0] at hK
    have h := hw0
    exact F_X2_lowest_33_ok X hr hlk v0 v3 v4 M _ h hK H locs ls O (lv_sub hl [0, 2, 3] rfl)
  rw [if_neg hc9] at h
  refine lv_iload hx hb dX2_lowest_12 (lv_at hl 4 rfl) ?_
  refine lv_bipush (v := (8 : Int32)) hx hb dX2_lowest_14 (by decide) ?_
  refine lv_icmp_ge (tgt := 33) hx hb dX2_lowest_16 (by decide) (fun hc16 => ?_) (fun hc16 => ?_)
  · rw [if_pos hc16] at h
    obtain ⟨_, hw0, ew0⟩ := Option.map_eq_some_iff.mp h
    rw [← ew0] at hK
    have h := hw0
    exact F_X2_lowest_33_ok X hr hlk v0 v3 v4 M _ h hK H locs ls O (lv_sub hl [0, 2, 3] rfl)
  rw [if_neg hc16] at h
  refine lv_lload hx hb dX2_lowest_19 (lv_at hl 3 rfl) ?_
  refine lv_ldc2 (v := (10 : Int64)) hx hb X.2.2.2.1 (X.2.2.2.2.1 _ ct_X2_71) dX2_lowest_21 ?_
  refine lv_lmul hx hb dX2_lowest_24 ?_
  obtain ⟨t1, ht1, h⟩ := Option.bind_eq_some_iff.mp h
  refine xr_top (w := .long t1) (by rw [Option.some.inj ht1]) ?_
  refine lv_lstore (lv' := [(4, .long t1), (0, .long v0), (2, .int v2), (3, .int v3), (6, .int v6)]) hx hb dX2_lowest_25 hl (by decide) rfl (fun ls hl => ?_)
  refine lv_iinc (v := (v6 + 1)) (lv' := [(6, .int (v6 + 1)), (4, .long t1), (0, .long v0), (2, .int v2), (3, .int v3)]) hx hb dX2_lowest_27 hl (k := 4) rfl rfl (by decide) rfl (fun ls hl => ?_)
  refine lv_goto (tgt := 6) hx hb dX2_lowest_30 (by decide) ?_
  rw [← Option.some.inj h] at hK
  exact hW6 t1 (v6 + 1) M hK H locs ls O (lv_sub hl [2, 3, 4, 1, 0] rfl)
set_option maxRecDepth 100000 in
set_option maxHeartbeats 4000000 in
theorem F_X2_lowest_6_ok (X : xX p s m args c cX2_lowest 13 RX2 κ) (hr : meth.sig.returnType = (some .int)) (hlk : meth.locks = false) {ro : Int32} {mo : xM} (v0 : Int64) (v2 : Int32) (v3 : Int32) (v4 : Int64) (v6 : Int32) (M : xM) (x : Int32 × xM) (h : F_X2_lowest_6 v0 v2 v3 v4 v6 M = some x) (hK : (fun o => o = (ro, mo)) x) (H : Heap) (locs : List Loc) (ls : Array Slot) (O : xO κ s M H locs) (hl : lv_has ls 13 [(0, .long v0), (2, .int v2), (3, .int v3), (4, .long v4), (6, .int v6)]) : W p l e (xRm 2 0 0) s m args below meth c H locs 0 0 (xQf below args s 0 0 κ (some (.int ro)) mo) (F0 m 6 ls []) := by
  refine xit_K (Wh := fun x => ∀ (H : Heap) (locs : List Loc) (ls : Array Slot), xO κ s x.2.2 H locs → lv_has ls 13 [(0, .long v0), (2, .int v2), (3, .int v3), (4, .long x.1), (6, .int x.2.1)] → W p l e (xRm 2 0 0) s m args below meth c H locs 0 0 (xQf below args s 0 0 κ (some (.int ro)) mo) (F0 m 6 ls [])) (Kp := (fun o => o = (ro, mo))) ?_ xFU (v4, v6, M) x h hK H locs ls O hl
  intro y x h hK H locs ls O hl
  exact F_X2_lowest_6_bok X hr hlk v0 v2 v3 y.1 y.2.1 (fun _ _ _ hw => hw) y.2.2 x h hK H locs ls O hl
set_option maxRecDepth 100000 in
set_option maxHeartbeats 4000000 in
theorem T_X2_lowest (l : Launch) (κ : xQ) (a0 : Int64) (a1 : Int32) (a2 : Int32) (M : xM) (ro : Int32) (mo : xM) (h : F_X2_lowest a0 a1 a2 M = some (ro, mo)) : xC l yX2_lowest cX2_lowest 13 (some .int) 2 0 0 κ [.long a0, .int a1, .int a2] M (some (.int ro)) mo := by
  refine xC_of rfl (Nat.le_of_ble_eq_true rfl) fun p e s m args below meth c X hr hlk hnm H locs ls O hl => ?_
  have X : xX p s m args c cX2_lowest 13 RX2 κ := X
  have hl : lv_has ls 13 [(0, .long a0), (2, .int a1), (3, .int a2)] := hl
  have hx := X.1
  have hb := X.2.1
  obtain ⟨x, hx0⟩ : ∃ x, (ro, mo) = x := ⟨_, rfl⟩
  rw [hx0] at h
  have hK : x = (ro, mo) := hx0.symm
  unfold F_X2_lowest at h
  refine lv_lconst (v := (1 : Int64)) hx hb dX2_lowest_0 (by decide) ?_
  refine lv_lstore (lv' := [(4, .long (1 : Int64)), (0, .long a0), (2, .int a1), (3, .int a2)]) hx hb dX2_lowest_1 hl (by decide) rfl (fun ls hl => ?_)
  refine lv_iconst (v := (0 : Int32)) hx hb dX2_lowest_3 (by decide) ?_
  refine lv_istore (lv' := [(6, .int (0 : Int32)), (4, .long (1 : Int64)), (0, .long a0), (2, .int a1), (3, .int a2)]) hx hb dX2_lowest_4 hl (by decide) rfl (fun ls hl => ?_)
  exact F_X2_lowest_6_ok X hr hlk a0 a1 a2 (1 : Int64) (0 : Int32) M _ h hK H locs ls O (lv_sub hl [2, 3, 4, 1, 0] rfl)
def F_X3_init (a0 : Nat) (M : xM) : Option (xM) :=
(xpI M a0 3 0 (1 : Int32)).bind fun t1 =>
(xpI t1 a0 3 1 (1 : Int32)).bind fun t2 =>
(xpI t2 a0 3 2 (1 : Int32)).bind fun t3 =>
(some (xnw t3 (20, 6))).bind fun t4 =>
(xpP t4 a0 3 12 t3.1.length).bind fun t5 =>
(some (xnw t5 (20, 6))).bind fun t6 =>
(xpP t6 a0 3 13 t5.1.length).bind fun t7 =>
(some (xnw t7 (20, 6))).bind fun t8 =>
(xpP t8 a0 3 14 t7.1.length).bind fun t9 =>
(some (xnw t9 (20, 6))).bind fun t10 =>
(xpP t10 a0 3 15 t9.1.length).bind fun t11 =>
(some (xnw t11 (20, 5))).bind fun t12 =>
(xpP t12 a0 3 16 t11.1.length).bind fun t13 =>
(some (xnw t13 (20, 900))).bind fun t14 =>
(xpP t14 a0 3 17 t13.1.length).bind fun t15 =>
some t15
set_option maxRecDepth 100000 in
set_option maxHeartbeats 4000000 in
theorem T_X3_init (l : Launch) (κ : xQ) (a0 : Nat) (M : xM) (mo : xM) (h : F_X3_init a0 M = some mo) : xC l yX3_init cX3_init 1 none 2 6 929 κ [.ref (κ.1 + a0)] M none mo := by
  refine xC_of rfl (Nat.le_of_ble_eq_true rfl) fun p e s m args below meth c X hr hlk hnm H locs ls O hl => ?_
  have X : xX p s m args c cX3_init 1 RX3 κ := X
  have hl : lv_has ls 1 [(0, .ref (κ.1 + a0))] := hl
  have hx := X.1
  have hb := X.2.1
  obtain ⟨x, hx0⟩ : ∃ x, mo = x := ⟨_, rfl⟩
  rw [hx0] at h
  have hK : x = mo := hx0.symm
  unfold F_X3_init at h
  refine lv_aload_n hx hb dX3_init_0 rfl (lv_at hl 0 rfl) ?_
  refine xr_objI X lo_X3_3.1 lo_X3_3.2.1 lo_X3_3.2.2 hl.1 (by decide) dX3_init_1 ?_
  refine W.eq (g2 := F0 m 4 ls []) rfl ?_
  refine lv_aload_n hx hb dX3_init_4 rfl (lv_at hl 0 rfl) ?_
  refine lv_iconst (v := (1 : Int32)) hx hb dX3_init_5 (by decide) ?_
  obtain ⟨t1, ht1, h⟩ := Option.bind_eq_some_iff.mp h
  refine xr_putI X O ht1 fl_X3_9 dX3_init_6 (fun H locs O => ?_)
  refine lv_aload_n hx hb dX3_init_9 rfl (lv_at hl 0 rfl) ?_
  refine lv_iconst (v := (1 : Int32)) hx hb dX3_init_10 (by decide) ?_
  obtain ⟨t2, ht2, h⟩ := Option.bind_eq_some_iff.mp h
  refine xr_putI X O ht2 fl_X3_15 dX3_init_11 (fun H locs O => ?_)
  refine lv_aload_n hx hb dX3_init_14 rfl (lv_at hl 0 rfl) ?_
  refine lv_iconst (v := (1 : Int32)) hx hb dX3_init_15 (by decide) ?_
  obtain ⟨t3, ht3, h⟩ := Option.bind_eq_some_iff.mp h
  refine xr_putI X O ht3 fl_X3_18 dX3_init_16 (fun H locs O => ?_)
  refine lv_aload_n hx hb dX3_init_19 rfl (lv_at hl 0 rfl) ?_
  refine lv_bipush (v := (6 : Int32)) hx hb dX3_init_20 (by decide) ?_
  obtain ⟨t4, ht4, h⟩ := Option.bind_eq_some_iff.mp h
  refine xr_newI (N := 6) X O (xw_t1 133 (by decide +kernel) rfl) (by decide) (by decide) (by decide) (Nat.le_of_ble_eq_true rfl) (Nat.le_of_ble_eq_true rfl) dX3_init_22 (fun H locs O => ?_)
  rw [Option.some.inj ht4] at O
  refine W.eq (g2 := F0 m 24 ls [.ref (κ.1 + t3.1.length), .ref (κ.1 + a0)]) rfl ?_
  obtain ⟨t5, ht5, h⟩ := Option.bind_eq_some_iff.mp h
  refine xr_putP X O ht5 fl_X3_21 (fun _ => ⟨hnm, rfl⟩) dX3_init_24 (fun H locs O => ?_)
  refine lv_aload_n hx hb dX3_init_27 rfl (lv_at hl 0 rfl) ?_
  refine lv_bipush (v := (6 : Int32)) hx hb dX3_init_28 (by decide) ?_
  obtain ⟨t6, ht6, h⟩ := Option.bind_eq_some_iff.mp h
  refine xr_newI (N := 6) X O (xw_t1 133 (by decide +kernel) rfl) (by decide) (by decide) (by decide) (Nat.le_of_ble_eq_true rfl) (Nat.le_of_ble_eq_true rfl) dX3_init_30 (fun H locs O => ?_)
  rw [Option.some.inj ht6] at O
  refine W.eq (g2 := F0 m 32 ls [.ref (κ.1 + t5.1.length), .ref (κ.1 + a0)]) rfl ?_
  obtain ⟨t7, ht7, h⟩ := Option.bind_eq_some_iff.mp h
  refine xr_putP X O ht7 fl_X3_25 (fun _ => ⟨hnm, rfl⟩) dX3_init_32 (fun H locs O => ?_)
  refine lv_aload_n hx hb dX3_init_35 rfl (lv_at hl 0 rfl) ?_
  refine lv_bipush (v := (6 : Int32)) hx hb dX3_init_36 (by decide) ?_
  obtain ⟨t8, ht8, h⟩ := Option.bind_eq_some_iff.mp h
  refine xr_newI (N := 6) X O (xw_t1 133 (by decide +kernel) rfl) (by decide) (by decide) (by decide) (Nat.le_of_ble_eq_true rfl) (Nat.le_of_ble_eq_true rfl) dX3_init_38 (fun H locs O => ?_)
  rw [Option.some.inj ht8] at O
  refine W.eq (g2 := F0 m 40 ls [.ref (κ.1 + t7.1.length), .ref (κ.1 + a0)]) rfl ?_
  obtain ⟨t9, ht9, h⟩ := Option.bind_eq_some_iff.mp h
  refine xr_putP X O ht9 fl_X3_28 (fun _ => ⟨hnm, rfl⟩) dX3_init_40 (fun H locs O => ?_)
  refine lv_aload_n hx hb dX3_init_43 rfl (lv_at hl 0 rfl) ?_
  refine lv_bipush (v := (6 : Int32)) hx hb dX3_init_44 (by decide) ?_
  obtain ⟨t10, ht10, h⟩ := Option.bind_eq_some_iff.mp h
  refine xr_newI (N := 6) X O (xw_t1 133 (by decide +kernel) rfl) (by decide) (by decide) (by decide) (Nat.le_of_ble_eq_true rfl) (Nat.le_of_ble_eq_true rfl) dX3_init_46 (fun H locs O => ?_)
  rw [Option.some.inj ht10] at O
  refine W.eq (g2 := F0 m 48 ls [.ref (κ.1 + t9.1.length), .ref (κ.1 + a0)]) rfl ?_
  obtain ⟨t11, ht11, h⟩ := Option.bind_eq_some_iff.mp h
  refine xr_putP X O ht11 fl_X3_31 (fun _ => ⟨hnm, rfl⟩) dX3_init_48 (fun H locs O => ?_)
  refine lv_aload_n hx hb dX3_init_51 rfl (lv_at hl 0 rfl) ?_
  refine lv_iconst (v := (5 : Int32)) hx hb dX3_init_52 (by decide) ?_
  obtain ⟨t12, ht12, h⟩ := Option.bind_eq_some_iff.mp h
  refine xr_newI (N := 5) X O (xw_t1 133 (by decide +kernel) rfl) (by decide) (by decide) (by decide) (Nat.le_of_ble_eq_true rfl) (Nat.le_of_ble_eq_true rfl) dX3_init_53 (fun H locs O => ?_)
  rw [Option.some.inj ht12] at O
  refine W.eq (g2 := F0 m 55 ls [.ref (κ.1 + t11.1.length), .ref (κ.1 + a0)]) rfl ?_
  obtain ⟨t13, ht13, h⟩ := Option.bind_eq_some_iff.mp h
  refine xr_putP X O ht13 fl_X3_34 (fun _ => ⟨hnm, rfl⟩) dX3_init_55 (fun H locs O => ?_)
  refine lv_aload_n hx hb dX3_init_58 rfl (lv_at hl 0 rfl) ?_
  refine lv_sipush (v := (900 : Int32)) hx hb dX3_init_59 (by decide) ?_
  obtain ⟨t14, ht14, h⟩ := Option.bind_eq_some_iff.mp h
  refine xr_newI (N := 900) X O (xw_t1 133 (by decide +kernel) rfl) (by decide) (by decide) (by decide) (Nat.le_of_ble_eq_true rfl) (Nat.le_of_ble_eq_true rfl) dX3_init_62 (fun H locs O => ?_)
  rw [Option.some.inj ht14] at O
  refine W.eq (g2 := F0 m 64 ls [.ref (κ.1 + t13.1.length), .ref (κ.1 + a0)]) rfl ?_
  obtain ⟨t15, ht15, h⟩ := Option.bind_eq_some_iff.mp h
  refine xr_putP X O ht15 fl_X3_37 (fun _ => ⟨hnm, rfl⟩) dX3_init_64 (fun H locs O => ?_)
  rw [← Option.some.inj h] at hK
  have hK : t15 = mo := hK
  rw [hK] at O
  exact xr_vret X hr hlk O dX3_init_67
end G
