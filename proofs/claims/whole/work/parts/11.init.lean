section G
variable {p : Program} {l : Launch} {e : Env} {s : State} {m : MethodId} {args : Array Value} {below : List Frame} {meth : Method} {c : Code} {κ : xQ}
def F_X2_init (a0 : Nat) (M : xM) : Option (xM) :=
(some (xnw M (24, 6))).bind fun t1 =>
(xpP t1 a0 2 0 M.1.length).bind fun t2 =>
(some (xnw t2 (30, 9))).bind fun t3 =>
(xpP t3 a0 2 1 t2.1.length).bind fun t4 =>
(xgP t4 a0 2 1).bind fun t5 =>
(some (xnw t4 (0, 0))).bind fun t6 =>
(F_X0_init t4.1.length t6).bind fun t7 =>
(xsP t7 30 0 t5 (0 : Int32) t4.1.length).bind fun t8 =>
(xgP t8 a0 2 1).bind fun t9 =>
(some (xnw t8 (0, 0))).bind fun t10 =>
(F_X0_init t8.1.length t10).bind fun t11 =>
(xsP t11 30 0 t9 (1 : Int32) t8.1.length).bind fun t12 =>
(xgP t12 a0 2 1).bind fun t13 =>
(some (xnw t12 (0, 0))).bind fun t14 =>
(F_X0_init t12.1.length t14).bind fun t15 =>
(xsP t15 30 0 t13 (2 : Int32) t12.1.length).bind fun t16 =>
(xgP t16 a0 2 1).bind fun t17 =>
(some (xnw t16 (0, 0))).bind fun t18 =>
(F_X0_init t16.1.length t18).bind fun t19 =>
(xsP t19 30 0 t17 (3 : Int32) t16.1.length).bind fun t20 =>
(xgP t20 a0 2 1).bind fun t21 =>
(some (xnw t20 (0, 0))).bind fun t22 =>
(F_X0_init t20.1.length t22).bind fun t23 =>
(xsP t23 30 0 t21 (4 : Int32) t20.1.length).bind fun t24 =>
(xgP t24 a0 2 1).bind fun t25 =>
(some (xnw t24 (0, 0))).bind fun t26 =>
(F_X0_init t24.1.length t26).bind fun t27 =>
(xsP t27 30 0 t25 (5 : Int32) t24.1.length).bind fun t28 =>
(xgP t28 a0 2 1).bind fun t29 =>
(some (xnw t28 (0, 0))).bind fun t30 =>
(F_X0_init t28.1.length t30).bind fun t31 =>
(xsP t31 30 0 t29 (6 : Int32) t28.1.length).bind fun t32 =>
(xgP t32 a0 2 1).bind fun t33 =>
(some (xnw t32 (0, 0))).bind fun t34 =>
(F_X0_init t32.1.length t34).bind fun t35 =>
(xsP t35 30 0 t33 (7 : Int32) t32.1.length).bind fun t36 =>
(xgP t36 a0 2 1).bind fun t37 =>
(some (xnw t36 (0, 0))).bind fun t38 =>
(F_X0_init t36.1.length t38).bind fun t39 =>
(xsP t39 30 0 t37 (8 : Int32) t36.1.length).bind fun t40 =>
some t40
set_option maxRecDepth 100000 in
set_option maxHeartbeats 4000000 in
theorem T_X2_init (l : Launch) (κ : xQ) (a0 : Nat) (M : xM) (mo : xM) (h : F_X2_init a0 M = some mo) : xC l yX2_init cX2_init 2 none 3 38 411 κ [.ref (κ.1 + a0)] M none mo := by
  refine xC_of rfl (Nat.le_of_ble_eq_true rfl) fun p e s m args below meth c X hr hlk hnm H locs ls O hl => ?_
  have X : xX p s m args c cX2_init 2 RX2 κ := X
  have hl : lv_has ls 2 [(0, .ref (κ.1 + a0))] := hl
  have hx := X.1
  have hb := X.2.1
  obtain ⟨x, hx0⟩ : ∃ x, mo = x := ⟨_, rfl⟩
  rw [hx0] at h
  have hK : x = mo := hx0.symm
  unfold F_X2_init at h
  refine lv_aload_n hx hb dX2_init_0 rfl (lv_at hl 0 rfl) ?_
  refine xr_objI X lo_X2_3.1 lo_X2_3.2.1 lo_X2_3.2.2 hl.1 (by decide) dX2_init_1 ?_
  refine W.eq (g2 := F0 m 4 ls []) rfl ?_
  refine lv_aload_n hx hb dX2_init_4 rfl (lv_at hl 0 rfl) ?_
  refine lv_bipush (v := (6 : Int32)) hx hb dX2_init_5 (by decide) ?_
  obtain ⟨t1, ht1, h⟩ := Option.bind_eq_some_iff.mp h
  refine xr_newJ (N := 6) X O (xw_t2 50 (by decide +kernel) rfl) (by decide) (by decide) (by decide) (Nat.le_of_ble_eq_true rfl) (Nat.le_of_ble_eq_true rfl) dX2_init_7 (fun H locs O => ?_)
  rw [Option.some.inj ht1] at O
  refine W.eq (g2 := F0 m 9 ls [.ref (κ.1 + M.1.length), .ref (κ.1 + a0)]) rfl ?_
  obtain ⟨t2, ht2, h⟩ := Option.bind_eq_some_iff.mp h
  refine xr_putP X O ht2 fl_X2_9 (fun _ => ⟨hnm, rfl⟩) dX2_init_9 (fun H locs O => ?_)
  refine lv_aload_n hx hb dX2_init_12 rfl (lv_at hl 0 rfl) ?_
  refine lv_bipush (v := (9 : Int32)) hx hb dX2_init_13 (by decide) ?_
  obtain ⟨t3, ht3, h⟩ := Option.bind_eq_some_iff.mp h
  refine xr_newQ (t := 30) (t0 := 4) (C := RX0) (N := 9) X O (by simp [xRk]) (xw_t2 115 (by decide +kernel) rfl) (X.2.2.2.2.2.2.2.2.2.1) (by decide) (by decide) (by decide) (Nat.le_of_ble_eq_true rfl) (Nat.le_of_ble_eq_true rfl) dX2_init_15 (fun H locs O => ?_)
  rw [Option.some.inj ht3] at O
  refine W.eq (g2 := F0 m 18 ls [.ref (κ.1 + t2.1.length), .ref (κ.1 + a0)]) rfl ?_
  obtain ⟨t4, ht4, h⟩ := Option.bind_eq_some_iff.mp h
  refine xr_putP X O ht4 fl_X2_17 (fun _ => ⟨hnm, rfl⟩) dX2_init_18 (fun H locs O => ?_)
  refine lv_iconst (v := (0 : Int32)) hx hb dX2_init_21 (by decide) ?_
  refine lv_istore_n (lv' := [(1, .int (0 : Int32)), (0, .ref (κ.1 + a0))]) hx hb dX2_init_22 rfl hl (by decide) rfl (fun ls hl => ?_)
  refine lv_iload_n hx hb dX2_init_23 rfl (lv_at hl 0 rfl) ?_
  refine lv_bipush (v := (8 : Int32)) hx hb dX2_init_24 (by decide) ?_
  refine lv_icmp_gt (tgt := 48) hx hb dX2_init_26 (by decide) (fun hc => absurd hc (by decide)) (fun _ => ?_)
  refine lv_aload_n hx hb dX2_init_29 rfl (lv_at hl 1 rfl) ?_
  obtain ⟨t5, ht5, h⟩ := Option.bind_eq_some_iff.mp h
  refine xr_getP X O ht5 fl_X2_17 dX2_init_30 ?_
  refine lv_iload_n hx hb dX2_init_33 rfl (lv_at hl 0 rfl) ?_
  obtain ⟨t6, ht6, h⟩ := Option.bind_eq_some_iff.mp h
  refine xr_new X O cl_X0 (by decide) (xw_t2 115 (by decide +kernel) rfl) (xw_t1 135 (by decide +kernel) rfl) (xw_t1 4 (by decide +kernel) rfl) (by decide) (Nat.le_of_ble_eq_true rfl) (Nat.le_of_ble_eq_true rfl) dX2_init_34 (fun H locs O => ?_)
  rw [Option.some.inj ht6] at O
  refine W.eq (g2 := F0 m 37 ls [.ref (κ.1 + t4.1.length), .int (0 : Int32), .ref (κ.1 + t5)]) rfl ?_
  refine lv_dup hx hb dX2_init_37 rfl ?_
  obtain ⟨t7, ht7, h⟩ := Option.bind_eq_some_iff.mp h
  refine xr_callI (rest := [.ref (κ.1 + t4.1.length), .int (0 : Int32), .ref (κ.1 + t5)]) X O (T_X0_init l κ t4.1.length t6 _ ht7) lk_X2_21 (Nat.le_of_ble_eq_true rfl) rfl hl.1 rfl (Nat.le_of_ble_eq_true rfl) dX2_init_38 ⟨Nat.le_of_ble_eq_true rfl, Nat.le_of_ble_eq_true rfl⟩ (fun H locs O => ?_)
  refine W.eq (g2 := F0 m 41 ls [.ref (κ.1 + t4.1.length), .int (0 : Int32), .ref (κ.1 + t5)]) rfl ?_
  obtain ⟨t8, ht8, h⟩ := Option.bind_eq_some_iff.mp h
  refine xr_stP (t0 := 4) X O ht8 (by simp [xRk]) cl_X0 dX2_init_41 (fun H locs O => ?_)
  refine lv_iinc (v := (1 : Int32)) (lv' := [(1, .int (1 : Int32)), (0, .ref (κ.1 + a0))]) hx hb dX2_init_42 hl (k := 0) rfl (by decide) (by decide) rfl (fun ls hl => ?_)
  refine lv_goto (tgt := 23) hx hb dX2_init_45 (by decide) ?_
  refine lv_iload_n hx hb dX2_init_23 rfl (lv_at hl 0 rfl) ?_
  refine lv_bipush (v := (8 : Int32)) hx hb dX2_init_24 (by decide) ?_
  refine lv_icmp_gt (tgt := 48) hx hb dX2_init_26 (by decide) (fun hc => absurd hc (by decide)) (fun _ => ?_)
  refine lv_aload_n hx hb dX2_init_29 rfl (lv_at hl 1 rfl) ?_
  obtain ⟨t9, ht9, h⟩ := Option.bind_eq_some_iff.mp h
  refine xr_getP X O ht9 fl_X2_17 dX2_init_30 ?_
  refine lv_iload_n hx hb dX2_init_33 rfl (lv_at hl 0 rfl) ?_
  obtain ⟨t10, ht10, h⟩ := Option.bind_eq_some_iff.mp h
  refine xr_new X O cl_X0 (by decide) (xw_t2 115 (by decide +kernel) rfl) (xw_t1 135 (by decide +kernel) rfl) (xw_t1 4 (by decide +kernel) rfl) (by decide) (Nat.le_of_ble_eq_true rfl) (Nat.le_of_ble_eq_true rfl) dX2_init_34 (fun H locs O => ?_)
  rw [Option.some.inj ht10] at O
  refine W.eq (g2 := F0 m 37 ls [.ref (κ.1 + t8.1.length), .int (1 : Int32), .ref (κ.1 + t9)]) rfl ?_
  refine lv_dup hx hb dX2_init_37 rfl ?_
  obtain ⟨t11, ht11, h⟩ := Option.bind_eq_some_iff.mp h
  refine xr_callI (rest := [.ref (κ.1 + t8.1.length), .int (1 : Int32), .ref (κ.1 + t9)]) X O (T_X0_init l κ t8.1.length t10 _ ht11) lk_X2_21 (Nat.le_of_ble_eq_true rfl) rfl hl.1 rfl (Nat.le_of_ble_eq_true rfl) dX2_init_38 ⟨Nat.le_of_ble_eq_true rfl, Nat.le_of_ble_eq_true rfl⟩ (fun H locs O => ?_)
  refine W.eq (g2 := F0 m 41 ls [.ref (κ.1 + t8.1.length), .int (1 : Int32), .ref (κ.1 + t9)]) rfl ?_
  obtain ⟨t12, ht12, h⟩ := Option.bind_eq_some_iff.mp h
  refine xr_stP (t0 := 4) X O ht12 (by simp [xRk]) cl_X0 dX2_init_41 (fun H locs O => ?_)
  refine lv_iinc (v := (2 : Int32)) (lv' := [(1, .int (2 : Int32)), (0, .ref (κ.1 + a0))]) hx hb dX2_init_42 hl (k := 0) rfl (by decide) (by decide) rfl (fun ls hl => ?_)
  refine lv_goto (tgt := 23) hx hb dX2_init_45 (by decide) ?_
  refine lv_iload_n hx hb dX2_init_23 rfl (lv_at hl 0 rfl) ?_
  refine lv_bipush (v := (8 : Int32)) hx hb dX2_init_24 (by decide) ?_
  refine lv_icmp_gt (tgt := 48) hx hb dX2_init_26 (by decide) (fun hc => absurd hc (by decide)) (fun _ => ?_)
  refine lv_aload_n hx hb dX2_init_29 rfl (lv_at hl 1 rfl) ?_
  obtain ⟨t13, ht13, h⟩ := Option.bind_eq_some_iff.mp h
  refine xr_getP X O ht13 fl_X2_17 dX2_init_30 ?_
  refine lv_iload_n hx hb dX2_init_33 rfl (lv_at hl 0 rfl) ?_
  obtain ⟨t14, ht14, h⟩ := Option.bind_eq_some_iff.mp h
  refine xr_new X O cl_X0 (by decide) (xw_t2 115 (by decide +kernel) rfl) (xw_t1 135 (by decide +kernel) rfl) (xw_t1 4 (by decide +kernel) rfl) (by decide) (Nat.le_of_ble_eq_true rfl) (Nat.le_of_ble_eq_true rfl) dX2_init_34 (fun H locs O => ?_)
  rw [Option.some.inj ht14] at O
  refine W.eq (g2 := F0 m 37 ls [.ref (κ.1 + t12.1.length), .int (2 : Int32), .ref (κ.1 + t13)]) rfl ?_
  refine lv_dup hx hb dX2_init_37 rfl ?_
  obtain ⟨t15, ht15, h⟩ := Option.bind_eq_some_iff.mp h
  refine xr_callI (rest := [.ref (κ.1 + t12.1.length), .int (2 : Int32), .ref (κ.1 + t13)]) X O (T_X0_init l κ t12.1.length t14 _ ht15) lk_X2_21 (Nat.le_of_ble_eq_true rfl) rfl hl.1 rfl (Nat.le_of_ble_eq_true rfl) dX2_init_38 ⟨Nat.le_of_ble_eq_true rfl, Nat.le_of_ble_eq_true rfl⟩ (fun H locs O => ?_)
  refine W.eq (g2 := F0 m 41 ls [.ref (κ.1 + t12.1.length), .int (2 : Int32), .ref (κ.1 + t13)]) rfl ?_
  obtain ⟨t16, ht16, h⟩ := Option.bind_eq_some_iff.mp h
  refine xr_stP (t0 := 4) X O ht16 (by simp [xRk]) cl_X0 dX2_init_41 (fun H locs O => ?_)
  refine lv_iinc (v := (3 : Int32)) (lv' := [(1, .int (3 : Int32)), (0, .ref (κ.1 + a0))]) hx hb dX2_init_42 hl (k := 0) rfl (by decide) (by decide) rfl (fun ls hl => ?_)
  refine lv_goto (tgt := 23) hx hb dX2_init_45 (by decide) ?_
  refine lv_iload_n hx hb dX2_init_23 rfl (lv_at hl 0 rfl) ?_
  refine lv_bipush (v := (8 : Int32)) hx hb dX2_init_24 (by decide) ?_
  refine lv_icmp_gt (tgt := 48) hx hb dX2_init_26 (by decide) (fun hc => absurd hc (by decide)) (fun _ => ?_)
  refine lv_aload_n hx hb dX2_init_29 rfl (lv_at hl 1 rfl) ?_
  obtain ⟨t17, ht17, h⟩ := Option.bind_eq_some_iff.mp h
  refine xr_getP X O ht17 fl_X2_17 dX2_init_30 ?_
  refine lv_iload_n hx hb dX2_init_33 rfl (lv_at hl 0 rfl) ?_
  obtain ⟨t18, ht18, h⟩ := Option.bind_eq_some_iff.mp h
  refine xr_new X O cl_X0 (by decide) (xw_t2 115 (by decide +kernel) rfl) (xw_t1 135 (by decide +kernel) rfl) (xw_t1 4 (by decide +kernel) rfl) (by decide) (Nat.le_of_ble_eq_true rfl) (Nat.le_of_ble_eq_true rfl) dX2_init_34 (fun H locs O => ?_)
  rw [Option.some.inj ht18] at O
  refine W.eq (g2 := F0 m 37 ls [.ref (κ.1 + t16.1.length), .int (3 : Int32), .ref (κ.1 + t17)]) rfl ?_
  refine lv_dup hx hb dX2_init_37 rfl ?_
  obtain ⟨t19, ht19, h⟩ := Option.bind_eq_some_iff.mp h
  refine xr_callI (rest := [.ref (κ.1 + t16.1.length), .int (3 : Int32), .ref (κ.1 + t17)]) X O (T_X0_init l κ t16.1.length t18 _ ht19) lk_X2_21 (Nat.le_of_ble_eq_true rfl) rfl hl.1 rfl (Nat.le_of_ble_eq_true rfl) dX2_init_38 ⟨Nat.le_of_ble_eq_true rfl, Nat.le_of_ble_eq_true rfl⟩ (fun H locs O => ?_)
  refine W.eq (g2 := F0 m 41 ls [.ref (κ.1 + t16.1.length), .int (3 : Int32), .ref (κ.1 + t17)]) rfl ?_
  obtain ⟨t20, ht20, h⟩ := Option.bind_eq_some_iff.mp h
  refine xr_stP (t0 := 4) X O ht20 (by simp [xRk]) cl_X0 dX2_init_41 (fun H locs O => ?_)
  refine lv_iinc (v := (4 : Int32)) (lv' := [(1, .int (4 : Int32)), (0, .ref (κ.1 + a0))]) hx hb dX2_init_42 hl (k := 0) rfl (by decide) (by decide) rfl (fun ls hl => ?_)
  refine lv_goto (tgt := 23) hx hb dX2_init_45 (by decide) ?_
  refine lv_iload_n hx hb dX2_init_23 rfl (lv_at hl 0 rfl) ?_
  refine lv_bipush (v := (8 : Int32)) hx hb dX2_init_24 (by decide) ?_
  refine lv_icmp_gt (tgt := 48) hx hb dX2_init_26 (by decide) (fun hc => absurd hc (by decide)) (fun _ => ?_)
  refine lv_aload_n hx hb dX2_init_29 rfl (lv_at hl 1 rfl) ?_
  obtain ⟨t21, ht21, h⟩ := Option.bind_eq_some_iff.mp h
  refine xr_getP X O ht21 fl_X2_17 dX2_init_30 ?_
  refine lv_iload_n hx hb dX2_init_33 rfl (lv_at hl 0 rfl) ?_
  obtain ⟨t22, ht22, h⟩ := Option.bind_eq_some_iff.mp h
  refine xr_new X O cl_X0 (by decide) (xw_t2 115 (by decide +kernel) rfl) (xw_t1 135 (by decide +kernel) rfl) (xw_t1 4 (by decide +kernel) rfl) (by decide) (Nat.le_of_ble_eq_true rfl) (Nat.le_of_ble_eq_true rfl) dX2_init_34 (fun H locs O => ?_)
  rw [Option.some.inj ht22] at O
  refine W.eq (g2 := F0 m 37 ls [.ref (κ.1 + t20.1.length), .int (4 : Int32), .ref (κ.1 + t21)]) rfl ?_
  refine lv_dup hx hb dX2_init_37 rfl ?_
  obtain ⟨t23, ht23, h⟩ := Option.bind_eq_some_iff.mp h
  refine xr_callI (rest := [.ref (κ.1 + t20.1.length), .int (4 : Int32), .ref (κ.1 + t21)]) X O (T_X0_init l κ t20.1.length t22 _ ht23) lk_X2_21 (Nat.le_of_ble_eq_true rfl) rfl hl.1 rfl (Nat.le_of_ble_eq_true rfl) dX2_init_38 ⟨Nat.le_of_ble_eq_true rfl, Nat.le_of_ble_eq_true rfl⟩ (fun H locs O => ?_)
  refine W.eq (g2 := F0 m 41 ls [.ref (κ.1 + t20.1.length), .int (4 : Int32), .ref (κ.1 + t21)]) rfl ?_
  obtain ⟨t24, ht24, h⟩ := Option.bind_eq_some_iff.mp h
  refine xr_stP (t0 := 4) X O ht24 (by simp [xRk]) cl_X0 dX2_init_41 (fun H locs O => ?_)
  refine lv_iinc (v := (5 : Int32)) (lv' := [(1, .int (5 : Int32)), (0, .ref (κ.1 + a0))]) hx hb dX2_init_42 hl (k := 0) rfl (by decide) (by decide) rfl (fun ls hl => ?_)
  refine lv_goto (tgt := 23) hx hb dX2_init_45 (by decide) ?_
  refine lv_iload_n hx hb dX2_init_23 rfl (lv_at hl 0 rfl) ?_
  refine lv_bipush (v := (8 : Int32)) hx hb dX2_init_24 (by decide) ?_
  refine lv_icmp_gt (tgt := 48) hx hb dX2_init_26 (by decide) (fun hc => absurd hc (by decide)) (fun _ => ?_)
  refine lv_aload_n hx hb dX2_init_29 rfl (lv_at hl 1 rfl) ?_
  obtain ⟨t25, ht25, h⟩ := Option.bind_eq_some_iff.mp h
  refine xr_getP X O ht25 fl_X2_17 dX2_init_30 ?_
  refine lv_iload_n hx hb dX2_init_33 rfl (lv_at hl 0 rfl) ?_
  obtain ⟨t26, ht26, h⟩ := Option.bind_eq_some_iff.mp h
  refine xr_new X O cl_X0 (by decide) (xw_t2 115 (by decide +kernel) rfl) (xw_t1 135 (by decide +kernel) rfl) (xw_t1 4 (by decide +kernel) rfl) (by decide) (Nat.le_of_ble_eq_true rfl) (Nat.le_of_ble_eq_true rfl) dX2_init_34 (fun H locs O => ?_)
  rw [Option.some.inj ht26] at O
  refine W.eq (g2 := F0 m 37 ls [.ref (κ.1 + t24.1.length), .int (5 : Int32), .ref (κ.1 + t25)]) rfl ?_
  refine lv_dup hx hb dX2_init_37 rfl ?_
  obtain ⟨t27, ht27, h⟩ := Option.bind_eq_some_iff.mp h
  refine xr_callI (rest := [.ref (κ.1 + t24.1.length), .int (5 : Int32), .ref (κ.1 + t25)]) X O (T_X0_init l κ t24.1.length t26 _ ht27) lk_X2_21 (Nat.le_of_ble_eq_true rfl) rfl hl.1 rfl (Nat.le_of_ble_eq_true rfl) dX2_init_38 ⟨Nat.le_of_ble_eq_true rfl, Nat.le_of_ble_eq_true rfl⟩ (fun H locs O => ?_)
  refine W.eq (g2 := F0 m 41 ls [.ref (κ.1 + t24.1.length), .int (5 : Int32), .ref (κ.1 + t25)]) rfl ?_
  obtain ⟨t28, ht28, h⟩ := Option.bind_eq_some_iff.mp h
  refine xr_stP (t0 := 4) X O ht28 (by simp [xRk]) cl_X0 dX2_init_41 (fun H locs O => ?_)
  refine lv_iinc (v := (6 : Int32)) (lv' := [(1, .int (6 : Int32)), (0, .ref (κ.1 + a0))]) hx hb dX2_init_42 hl (k := 0) rfl (by decide) (by decide) rfl (fun ls hl => ?_)
  refine lv_goto (tgt := 23) hx hb dX2_init_45 (by decide) ?_
  refine lv_iload_n hx hb dX2_init_23 rfl (lv_at hl 0 rfl) ?_
  refine lv_bipush (v := (8 : Int32)) hx hb dX2_init_24 (by decide) ?_
  refine lv_icmp_gt (tgt := 48) hx hb dX2_init_26 (by decide) (fun hc => absurd hc (by decide)) (fun _ => ?_)
  refine lv_aload_n hx hb dX2_init_29 rfl (lv_at hl 1 rfl) ?_
  obtain ⟨t29, ht29, h⟩ := Option.bind_eq_some_iff.mp h
  refine xr_getP X O ht29 fl_X2_17 dX2_init_30 ?_
  refine lv_iload_n hx hb dX2_init_33 rfl (lv_at hl 0 rfl) ?_
  obtain ⟨t30, ht30, h⟩ := Option.bind_eq_some_iff.mp h
  refine xr_new X O cl_X0 (by decide) (xw_t2 115 (by decide +kernel) rfl) (xw_t1 135 (by decide +kernel) rfl) (xw_t1 4 (by decide +kernel) rfl) (by decide) (Nat.le_of_ble_eq_true rfl) (Nat.le_of_ble_eq_true rfl) dX2_init_34 (fun H locs O => ?_)
  rw [Option.some.inj ht30] at O
  refine W.eq (g2 := F0 m 37 ls [.ref (κ.1 + t28.1.length), .int (6 : Int32), .ref (κ.1 + t29)]) rfl ?_
  refine lv_dup hx hb dX2_init_37 rfl ?_
  obtain ⟨t31, ht31, h⟩ := Option.bind_eq_some_iff.mp h
  refine xr_callI (rest := [.ref (κ.1 + t28.1.length), .int (6 : Int32), .ref (κ.1 + t29)]) X O (T_X0_init l κ t28.1.length t30 _ ht31) lk_X2_21 (Nat.le_of_ble_eq_true rfl) rfl hl.1 rfl (Nat.le_of_ble_eq_true rfl) dX2_init_38 ⟨Nat.le_of_ble_eq_true rfl, Nat.le_of_ble_eq_true rfl⟩ (fun H locs O => ?_)
  refine W.eq (g2 := F0 m 41 ls [.ref (κ.1 + t28.1.length), .int (6 : Int32), .ref (κ.1 + t29)]) rfl ?_
  obtain ⟨t32, ht32, h⟩ := Option.bind_eq_some_iff.mp h
  refine xr_stP (t0 := 4) X O ht32 (by simp [xRk]) cl_X0 dX2_init_41 (fun H locs O => ?_)
  refine lv_iinc (v := (7 : Int32)) (lv' := [(1, .int (7 : Int32)), (0, .ref (κ.1 + a0))]) hx hb dX2_init_42 hl (k := 0) rfl (by decide) (by decide) rfl (fun ls hl => ?_)
  refine lv_goto (tgt := 23) hx hb dX2_init_45 (by decide) ?_
  refine lv_iload_n hx hb dX2_init_23 rfl (lv_at hl 0 rfl) ?_
  refine lv_bipush (v := (8 : Int32)) hx hb dX2_init_24 (by decide) ?_
  refine lv_icmp_gt (tgt := 48) hx hb dX2_init_26 (by decide) (fun hc => absurd hc (by decide)) (fun _ => ?_)
  refine lv_aload_n hx hb dX2_init_29 rfl (lv_at hl 1 rfl) ?_
  obtain ⟨t33, ht33, h⟩ := Option.bind_eq_some_iff.mp h
  refine xr_getP X O ht33 fl_X2_17 dX2_init_30 ?_
  refine lv_iload_n hx hb dX2_init_33 rfl (lv_at hl 0 rfl) ?_
  obtain ⟨t34, ht34, h⟩ := Option.bind_eq_some_iff.mp h
  refine xr_new X O cl_X0 (by decide) (xw_t2 115 (by decide +kernel) rfl) (xw_t1 135 (by decide +kernel) rfl) (xw_t1 4 (by decide +kernel) rfl) (by decide) (Nat.le_of_ble_eq_true rfl) (Nat.le_of_ble_eq_true rfl) dX2_init_34 (fun H locs O => ?_)
  rw [Option.some.inj ht34] at O
  refine W.eq (g2 := F0 m 37 ls [.ref (κ.1 + t32.1.length), .int (7 : Int32), .ref (κ.1 + t33)]) rfl ?_
  refine lv_dup hx hb dX2_init_37 rfl ?_
  obtain ⟨t35, ht35, h⟩ := Option.bind_eq_some_iff.mp h
  refine xr_callI (rest := [.ref (κ.1 + t32.1.length), .int (7 : Int32), .ref (κ.1 + t33)]) X O (T_X0_init l κ t32.1.length t34 _ ht35) lk_X2_21 (Nat.le_of_ble_eq_true rfl) rfl hl.1 rfl (Nat.le_of_ble_eq_true rfl) dX2_init_38 ⟨Nat.le_of_ble_eq_true rfl, Nat.le_of_ble_eq_true rfl⟩ (fun H locs O => ?_)
  refine W.eq (g2 := F0 m 41 ls [.ref (κ.1 + t32.1.length), .int (7 : Int32), .ref (κ.1 + t33)]) rfl ?_
  obtain ⟨t36, ht36, h⟩ := Option.bind_eq_some_iff.mp h
  refine xr_stP (t0 := 4) X O ht36 (by simp [xRk]) cl_X0 dX2_init_41 (fun H locs O => ?_)
  refine lv_iinc (v := (8 : Int32)) (lv' := [(1, .int (8 : Int32)), (0, .ref (κ.1 + a0))]) hx hb dX2_init_42 hl (k := 0) rfl (by decide) (by decide) rfl (fun ls hl => ?_)
  refine lv_goto (tgt := 23) hx hb dX2_init_45 (by decide) ?_
  refine lv_iload_n hx hb dX2_init_23 rfl (lv_at hl 0 rfl) ?_
  refine lv_bipush (v := (8 : Int32)) hx hb dX2_init_24 (by decide) ?_
  refine lv_icmp_gt (tgt := 48) hx hb dX2_init_26 (by decide) (fun hc => absurd hc (by decide)) (fun _ => ?_)
  refine lv_aload_n hx hb dX2_init_29 rfl (lv_at hl 1 rfl) ?_
  obtain ⟨t37, ht37, h⟩ := Option.bind_eq_some_iff.mp h
  refine xr_getP X O ht37 fl_X2_17 dX2_init_30 ?_
  refine lv_iload_n hx hb dX2_init_33 rfl (lv_at hl 0 rfl) ?_
  obtain ⟨t38, ht38, h⟩ := Option.bind_eq_some_iff.mp h
  refine xr_new X O cl_X0 (by decide) (xw_t2 115 (by decide +kernel) rfl) (xw_t1 135 (by decide +kernel) rfl) (xw_t1 4 (by decide +kernel) rfl) (by decide) (Nat.le_of_ble_eq_true rfl) (Nat.le_of_ble_eq_true rfl) dX2_init_34 (fun H locs O => ?_)
  rw [Option.some.inj ht38] at O
  refine W.eq (g2 := F0 m 37 ls [.ref (κ.1 + t36.1.length), .int (8 : Int32), .ref (κ.1 + t37)]) rfl ?_
  refine lv_dup hx hb dX2_init_37 rfl ?_
  obtain ⟨t39, ht39, h⟩ := Option.bind_eq_some_iff.mp h
  refine xr_callI (rest := [.ref (κ.1 + t36.1.length), .int (8 : Int32), .ref (κ.1 + t37)]) X O (T_X0_init l κ t36.1.length t38 _ ht39) lk_X2_21 (Nat.le_of_ble_eq_true rfl) rfl hl.1 rfl (Nat.le_of_ble_eq_true rfl) dX2_init_38 ⟨Nat.le_of_ble_eq_true rfl, Nat.le_of_ble_eq_true rfl⟩ (fun H locs O => ?_)
  refine W.eq (g2 := F0 m 41 ls [.ref (κ.1 + t36.1.length), .int (8 : Int32), .ref (κ.1 + t37)]) rfl ?_
  obtain ⟨t40, ht40, h⟩ := Option.bind_eq_some_iff.mp h
  refine xr_stP (t0 := 4) X O ht40 (by simp [xRk]) cl_X0 dX2_init_41 (fun H locs O => ?_)
  refine lv_iinc (v := (9 : Int32)) (lv' := [(1, .int (9 : Int32)), (0, .ref (κ.1 + a0))]) hx hb dX2_init_42 hl (k := 0) rfl (by decide) (by decide) rfl (fun ls hl => ?_)
  refine lv_goto (tgt := 23) hx hb dX2_init_45 (by decide) ?_
  refine lv_iload_n hx hb dX2_init_23 rfl (lv_at hl 0 rfl) ?_
  refine lv_bipush (v := (8 : Int32)) hx hb dX2_init_24 (by decide) ?_
  refine lv_icmp_gt (tgt := 48) hx hb dX2_init_26 (by decide) (fun _ => ?_) (fun hc => absurd (by decide) hc)
  rw [← Option.some.inj h] at hK
  have hK : t40 = mo := hK
  rw [hK] at O
  exact xr_vret X hr hlk O dX2_init_48
def F_X5_init (a0 : Nat) (M : xM) : Option (xM) :=
(some (xnw M (30, 11))).bind fun t1 =>
(xpP t1 a0 5 2 M.1.length).bind fun t2 =>
(xgP t2 a0 5 2).bind fun t3 =>
(some (xnw t2 (0, 0))).bind fun t4 =>
(F_X0_init t2.1.length t4).bind fun t5 =>
(xsP t5 30 0 t3 (0 : Int32) t2.1.length).bind fun t6 =>
(xgP t6 a0 5 2).bind fun t7 =>
(some (xnw t6 (0, 0))).bind fun t8 =>
(F_X0_init t6.1.length t8).bind fun t9 =>
(xsP t9 30 0 t7 (1 : Int32) t6.1.length).bind fun t10 =>
(xgP t10 a0 5 2).bind fun t11 =>
(some (xnw t10 (0, 0))).bind fun t12 =>
(F_X0_init t10.1.length t12).bind fun t13 =>
(xsP t13 30 0 t11 (2 : Int32) t10.1.length).bind fun t14 =>
(xgP t14 a0 5 2).bind fun t15 =>
(some (xnw t14 (0, 0))).bind fun t16 =>
(F_X0_init t14.1.length t16).bind fun t17 =>
(xsP t17 30 0 t15 (3 : Int32) t14.1.length).bind fun t18 =>
(xgP t18 a0 5 2).bind fun t19 =>
(some (xnw t18 (0, 0))).bind fun t20 =>
(F_X0_init t18.1.length t20).bind fun t21 =>
(xsP t21 30 0 t19 (4 : Int32) t18.1.length).bind fun t22 =>
(xgP t22 a0 5 2).bind fun t23 =>
(some (xnw t22 (0, 0))).bind fun t24 =>
(F_X0_init t22.1.length t24).bind fun t25 =>
(xsP t25 30 0 t23 (5 : Int32) t22.1.length).bind fun t26 =>
(xgP t26 a0 5 2).bind fun t27 =>
(some (xnw t26 (0, 0))).bind fun t28 =>
(F_X0_init t26.1.length t28).bind fun t29 =>
(xsP t29 30 0 t27 (6 : Int32) t26.1.length).bind fun t30 =>
(xgP t30 a0 5 2).bind fun t31 =>
(some (xnw t30 (0, 0))).bind fun t32 =>
(F_X0_init t30.1.length t32).bind fun t33 =>
(xsP t33 30 0 t31 (7 : Int32) t30.1.length).bind fun t34 =>
(xgP t34 a0 5 2).bind fun t35 =>
(some (xnw t34 (0, 0))).bind fun t36 =>
(F_X0_init t34.1.length t36).bind fun t37 =>
(xsP t37 30 0 t35 (8 : Int32) t34.1.length).bind fun t38 =>
(xgP t38 a0 5 2).bind fun t39 =>
(some (xnw t38 (0, 0))).bind fun t40 =>
(F_X0_init t38.1.length t40).bind fun t41 =>
(xsP t41 30 0 t39 (9 : Int32) t38.1.length).bind fun t42 =>
(xgP t42 a0 5 2).bind fun t43 =>
(some (xnw t42 (0, 0))).bind fun t44 =>
(F_X0_init t42.1.length t44).bind fun t45 =>
(xsP t45 30 0 t43 (10 : Int32) t42.1.length).bind fun t46 =>
some t46
set_option maxRecDepth 100000 in
set_option maxHeartbeats 4000000 in
theorem T_X5_init (l : Launch) (κ : xQ) (a0 : Nat) (M : xM) (mo : xM) (h : F_X5_init a0 M = some mo) : xC l yX5_init cX5_init 2 none 3 45 495 κ [.ref (κ.1 + a0)] M none mo := by
  refine xC_of rfl (Nat.le_of_ble_eq_true rfl) fun p e s m args below meth c X hr hlk hnm H locs ls O hl => ?_
  have X : xX p s m args c cX5_init 2 RX5 κ := X
  have hl : lv_has ls 2 [(0, .ref (κ.1 + a0))] := hl
  have hx := X.1
  have hb := X.2.1
  obtain ⟨x, hx0⟩ : ∃ x, mo = x := ⟨_, rfl⟩
  rw [hx0] at h
  have hK : x = mo := hx0.symm
  unfold F_X5_init at h
  refine lv_aload_n hx hb dX5_init_0 rfl (lv_at hl 0 rfl) ?_
  refine xr_objI X lo_X5_3.1 lo_X5_3.2.1 lo_X5_3.2.2 hl.1 (by decide) dX5_init_1 ?_
  refine W.eq (g2 := F0 m 4 ls []) rfl ?_
  refine lv_aload_n hx hb dX5_init_4 rfl (lv_at hl 0 rfl) ?_
  refine lv_bipush (v := (11 : Int32)) hx hb dX5_init_5 (by decide) ?_
  obtain ⟨t1, ht1, h⟩ := Option.bind_eq_some_iff.mp h
  refine xr_newQ (t := 30) (t0 := 4) (C := RX0) (N := 11) X O (by simp [xRk]) (xw_t2 17 (by decide +kernel) rfl) (X.2.2.2.2.2.2.2.2.2.1) (by decide) (by decide) (by decide) (Nat.le_of_ble_eq_true rfl) (Nat.le_of_ble_eq_true rfl) dX5_init_7 (fun H locs O => ?_)
  rw [Option.some.inj ht1] at O
  refine W.eq (g2 := F0 m 10 ls [.ref (κ.1 + M.1.length), .ref (κ.1 + a0)]) rfl ?_
  obtain ⟨t2, ht2, h⟩ := Option.bind_eq_some_iff.mp h
  refine xr_putP X O ht2 fl_X5_13 (fun _ => ⟨hnm, rfl⟩) dX5_init_10 (fun H locs O => ?_)
  refine lv_iconst (v := (0 : Int32)) hx hb dX5_init_13 (by decide) ?_
  refine lv_istore_n (lv' := [(1, .int (0 : Int32)), (0, .ref (κ.1 + a0))]) hx hb dX5_init_14 rfl hl (by decide) rfl (fun ls hl => ?_)
  refine lv_iload_n hx hb dX5_init_15 rfl (lv_at hl 0 rfl) ?_
  refine lv_bipush (v := (11 : Int32)) hx hb dX5_init_16 (by decide) ?_
  refine lv_icmp_ge (tgt := 40) hx hb dX5_init_18 (by decide) (fun hc => absurd hc (by decide)) (fun _ => ?_)
  refine lv_aload_n hx hb dX5_init_21 rfl (lv_at hl 1 rfl) ?_
  obtain ⟨t3, ht3, h⟩ := Option.bind_eq_some_iff.mp h
  refine xr_getP X O ht3 fl_X5_13 dX5_init_22 ?_
  refine lv_iload_n hx hb dX5_init_25 rfl (lv_at hl 0 rfl) ?_
  obtain ⟨t4, ht4, h⟩ := Option.bind_eq_some_iff.mp h
  refine xr_new X O cl_X0 (by decide) (xw_t2 17 (by decide +kernel) rfl) (xw_t1 135 (by decide +kernel) rfl) (xw_t1 4 (by decide +kernel) rfl) (by decide) (Nat.le_of_ble_eq_true rfl) (Nat.le_of_ble_eq_true rfl) dX5_init_26 (fun H locs O => ?_)
  rw [Option.some.inj ht4] at O
  refine W.eq (g2 := F0 m 29 ls [.ref (κ.1 + t2.1.length), .int (0 : Int32), .ref (κ.1 + t3)]) rfl ?_
  refine lv_dup hx hb dX5_init_29 rfl ?_
  obtain ⟨t5, ht5, h⟩ := Option.bind_eq_some_iff.mp h
  refine xr_callI (rest := [.ref (κ.1 + t2.1.length), .int (0 : Int32), .ref (κ.1 + t3)]) X O (T_X0_init l κ t2.1.length t4 _ ht5) lk_X5_17 (Nat.le_of_ble_eq_true rfl) rfl hl.1 rfl (Nat.le_of_ble_eq_true rfl) dX5_init_30 ⟨Nat.le_of_ble_eq_true rfl, Nat.le_of_ble_eq_true rfl⟩ (fun H locs O => ?_)
  refine W.eq (g2 := F0 m 33 ls [.ref (κ.1 + t2.1.length), .int (0 : Int32), .ref (κ.1 + t3)]) rfl ?_
  obtain ⟨t6, ht6, h⟩ := Option.bind_eq_some_iff.mp h
  refine xr_stP (t0 := 4) X O ht6 (by simp [xRk]) cl_X0 dX5_init_33 (fun H locs O => ?_)
  refine lv_iinc (v := (1 : Int32)) (lv' := [(1, .int (1 : Int32)), (0, .ref (κ.1 + a0))]) hx hb dX5_init_34 hl (k := 0) rfl (by decide) (by decide) rfl (fun ls hl => ?_)
  refine lv_goto (tgt := 15) hx hb dX5_init_37 (by decide) ?_
  refine lv_iload_n hx hb dX5_init_15 rfl (lv_at hl 0 rfl) ?_
  refine lv_bipush (v := (11 : Int32)) hx hb dX5_init_16 (by decide) ?_
  refine lv_icmp_ge (tgt := 40) hx hb dX5_init_18 (by decide) (fun hc => absurd hc (by decide)) (fun _ => ?_)
  refine lv_aload_n hx hb dX5_init_21 rfl (lv_at hl 1 rfl) ?_
  obtain ⟨t7, ht7, h⟩ := Option.bind_eq_some_iff.mp h
  refine xr_getP X O ht7 fl_X5_13 dX5_init_22 ?_
  refine lv_iload_n hx hb dX5_init_25 rfl (lv_at hl 0 rfl) ?_
  obtain ⟨t8, ht8, h⟩ := Option.bind_eq_some_iff.mp h
  refine xr_new X O cl_X0 (by decide) (xw_t2 17 (by decide +kernel) rfl) (xw_t1 135 (by decide +kernel) rfl) (xw_t1 4 (by decide +kernel) rfl) (by decide) (Nat.le_of_ble_eq_true rfl) (Nat.le_of_ble_eq_true rfl) dX5_init_26 (fun H locs O => ?_)
  rw [Option.some.inj ht8] at O
  refine W.eq (g2 := F0 m 29 ls [.ref (κ.1 + t6.1.length), .int (1 : Int32), .ref (κ.1 + t7)]) rfl ?_
  refine lv_dup hx hb dX5_init_29 rfl ?_
  obtain ⟨t9, ht9, h⟩ := Option.bind_eq_some_iff.mp h
  refine xr_callI (rest := [.ref (κ.1 + t6.1.length), .int (1 : Int32), .ref (κ.1 + t7)]) X O (T_X0_init l κ t6.1.length t8 _ ht9) lk_X5_17 (Nat.le_of_ble_eq_true rfl) rfl hl.1 rfl (Nat.le_of_ble_eq_true rfl) dX5_init_30 ⟨Nat.le_of_ble_eq_true rfl, Nat.le_of_ble_eq_true rfl⟩ (fun H locs O => ?_)
  refine W.eq (g2 := F0 m 33 ls [.ref (κ.1 + t6.1.length), .int (1 : Int32), .ref (κ.1 + t7)]) rfl ?_
  obtain ⟨t10, ht10, h⟩ := Option.bind_eq_some_iff.mp h
  refine xr_stP (t0 := 4) X O ht10 (by simp [xRk]) cl_X0 dX5_init_33 (fun H locs O => ?_)
  refine lv_iinc (v := (2 : Int32)) (lv' := [(1, .int (2 : Int32)), (0, .ref (κ.1 + a0))]) hx hb dX5_init_34 hl (k := 0) rfl (by decide) (by decide) rfl (fun ls hl => ?_)
  refine lv_goto (tgt := 15) hx hb dX5_init_37 (by decide) ?_
  refine lv_iload_n hx hb dX5_init_15 rfl (lv_at hl 0 rfl) ?_
  refine lv_bipush (v := (11 : Int32)) hx hb dX5_init_16 (by decide) ?_
  refine lv_icmp_ge (tgt := 40) hx hb dX5_init_18 (by decide) (fun hc => absurd hc (by decide)) (fun _ => ?_)
  refine lv_aload_n hx hb dX5_init_21 rfl (lv_at hl 1 rfl) ?_
  obtain ⟨t11, ht11, h⟩ := Option.bind_eq_some_iff.mp h
  refine xr_getP X O ht11 fl_X5_13 dX5_init_22 ?_
  refine lv_iload_n hx hb dX5_init_25 rfl (lv_at hl 0 rfl) ?_
  obtain ⟨t12, ht12, h⟩ := Option.bind_eq_some_iff.mp h
  refine xr_new X O cl_X0 (by decide) (xw_t2 17 (by decide +kernel) rfl) (xw_t1 135 (by decide +kernel) rfl) (xw_t1 4 (by decide +kernel) rfl) (by decide) (Nat.le_of_ble_eq_true rfl) (Nat.le_of_ble_eq_true rfl) dX5_init_26 (fun H locs O => ?_)
  rw [Option.some.inj ht12] at O
  refine W.eq (g2 := F0 m 29 ls [.ref (κ.1 + t10.1.length), .int (2 : Int32), .ref (κ.1 + t11)]) rfl ?_
  refine lv_dup hx hb dX5_init_29 rfl ?_
  obtain ⟨t13, ht13, h⟩ := Option.bind_eq_some_iff.mp h
  refine xr_callI (rest := [.ref (κ.1 + t10.1.length), .int (2 : Int32), .ref (κ.1 + t11)]) X O (T_X0_init l κ t10.1.length t12 _ ht13) lk_X5_17 (Nat.le_of_ble_eq_true rfl) rfl hl.1 rfl (Nat.le_of_ble_eq_true rfl) dX5_init_30 ⟨Nat.le_of_ble_eq_true rfl, Nat.le_of_ble_eq_true rfl⟩ (fun H locs O => ?_)
  refine W.eq (g2 := F0 m 33 ls [.ref (κ.1 + t10.1.length), .int (2 : Int32), .ref (κ.1 + t11)]) rfl ?_
  obtain ⟨t14, ht14, h⟩ := Option.bind_eq_some_iff.mp h
  refine xr_stP (t0 := 4) X O ht14 (by simp [xRk]) cl_X0 dX5_init_33 (fun H locs O => ?_)
  refine lv_iinc (v := (3 : Int32)) (lv' := [(1, .int (3 : Int32)), (0, .ref (κ.1 + a0))]) hx hb dX5_init_34 hl (k := 0) rfl (by decide) (by decide) rfl (fun ls hl => ?_)
  refine lv_goto (tgt := 15) hx hb dX5_init_37 (by decide) ?_
  refine lv_iload_n hx hb dX5_init_15 rfl (lv_at hl 0 rfl) ?_
  refine lv_bipush (v := (11 : Int32)) hx hb dX5_init_16 (by decide) ?_
  refine lv_icmp_ge (tgt := 40) hx hb dX5_init_18 (by decide) (fun hc => absurd hc (by decide)) (fun _ => ?_)
  refine lv_aload_n hx hb dX5_init_21 rfl (lv_at hl 1 rfl) ?_
  obtain ⟨t15, ht15, h⟩ := Option.bind_eq_some_iff.mp h
  refine xr_getP X O ht15 fl_X5_13 dX5_init_22 ?_
  refine lv_iload_n hx hb dX5_init_25 rfl (lv_at hl 0 rfl) ?_
  obtain ⟨t16, ht16, h⟩ := Option.bind_eq_some_iff.mp h
  refine xr_new X O cl_X0 (by decide) (xw_t2 17 (by decide +kernel) rfl) (xw_t1 135 (by decide +kernel) rfl) (xw_t1 4 (by decide +kernel) rfl) (by decide) (Nat.le_of_ble_eq_true rfl) (Nat.le_of_ble_eq_true rfl) dX5_init_26 (fun H locs O => ?_)
  rw [Option.some.inj ht16] at O
  refine W.eq (g2 := F0 m 29 ls [.ref (κ.1 + t14.1.length), .int (3 : Int32), .ref (κ.1 + t15)]) rfl ?_
  refine lv_dup hx hb dX5_init_29 rfl ?_
  obtain ⟨t17, ht17, h⟩ := Option.bind_eq_some_iff.mp h
  refine xr_callI (rest := [.ref (κ.1 + t14.1.length), .int (3 : Int32), .ref (κ.1 + t15)]) X O (T_X0_init l κ t14.1.length t16 _ ht17) lk_X5_17 (Nat.le_of_ble_eq_true rfl) rfl hl.1 rfl (Nat.le_of_ble_eq_true rfl) dX5_init_30 ⟨Nat.le_of_ble_eq_true rfl, Nat.le_of_ble_eq_true rfl⟩ (fun H locs O => ?_)
  refine W.eq (g2 := F0 m 33 ls [.ref (κ.1 + t14.1.length), .int (3 : Int32), .ref (κ.1 + t15)]) rfl ?_
  obtain ⟨t18, ht18, h⟩ := Option.bind_eq_some_iff.mp h
  refine xr_stP (t0 := 4) X O ht18 (by simp [xRk]) cl_X0 dX5_init_33 (fun H locs O => ?_)
  refine lv_iinc (v := (4 : Int32)) (lv' := [(1, .int (4 : Int32)), (0, .ref (κ.1 + a0))]) hx hb dX5_init_34 hl (k := 0) rfl (by decide) (by decide) rfl (fun ls hl => ?_)
  refine lv_goto (tgt := 15) hx hb dX5_init_37 (by decide) ?_
  refine lv_iload_n hx hb dX5_init_15 rfl (lv_at hl 0 rfl) ?_
  refine lv_bipush (v := (11 : Int32)) hx hb dX5_init_16 (by decide) ?_
  refine lv_icmp_ge (tgt := 40) hx hb dX5_init_18 (by decide) (fun hc => absurd hc (by decide)) (fun _ => ?_)
  refine lv_aload_n hx hb dX5_init_21 rfl (lv_at hl 1 rfl) ?_
  obtain ⟨t19, ht19, h⟩ := Option.bind_eq_some_iff.mp h
  refine xr_getP X O ht19 fl_X5_13 dX5_init_22 ?_
  refine lv_iload_n hx hb dX5_init_25 rfl (lv_at hl 0 rfl) ?_
  obtain ⟨t20, ht20, h⟩ := Option.bind_eq_some_iff.mp h
  refine xr_new X O cl_X0 (by decide) (xw_t2 17 (by decide +kernel) rfl) (xw_t1 135 (by decide +kernel) rfl) (xw_t1 4 (by decide +kernel) rfl) (by decide) (Nat.le_of_ble_eq_true rfl) (Nat.le_of_ble_eq_true rfl) dX5_init_26 (fun H locs O => ?_)
  rw [Option.some.inj ht20] at O
  refine W.eq (g2 := F0 m 29 ls [.ref (κ.1 + t18.1.length), .int (4 : Int32), .ref (κ.1 + t19)]) rfl ?_
  refine lv_dup hx hb dX5_init_29 rfl ?_
  obtain ⟨t21, ht21, h⟩ := Option.bind_eq_some_iff.mp h
  refine xr_callI (rest := [.ref (κ.1 + t18.1.length), .int (4 : Int32), .ref (κ.1 + t19)]) X O (T_X0_init l κ t18.1.length t20 _ ht21) lk_X5_17 (Nat.le_of_ble_eq_true rfl) rfl hl.1 rfl (Nat.le_of_ble_eq_true rfl) dX5_init_30 ⟨Nat.le_of_ble_eq_true rfl, Nat.le_of_ble_eq_true rfl⟩ (fun H locs O => ?_)
  refine W.eq (g2 := F0 m 33 ls [.ref (κ.1 + t18.1.length), .int (4 : Int32), .ref (κ.1 + t19)]) rfl ?_
  obtain ⟨t22, ht22, h⟩ := Option.bind_eq_some_iff.mp h
  refine xr_stP (t0 := 4) X O ht22 (by simp [xRk]) cl_X0 dX5_init_33 (fun H locs O => ?_)
  refine lv_iinc (v := (5 : Int32)) (lv' := [(1, .int (5 : Int32)), (0, .ref (κ.1 + a0))]) hx hb dX5_init_34 hl (k := 0) rfl (by decide) (by decide) rfl (fun ls hl => ?_)
  refine lv_goto (tgt := 15) hx hb dX5_init_37 (by decide) ?_
  refine lv_iload_n hx hb dX5_init_15 rfl (lv_at hl 0 rfl) ?_
  refine lv_bipush (v := (11 : Int32)) hx hb dX5_init_16 (by decide) ?_
  refine lv_icmp_ge (tgt := 40) hx hb dX5_init_18 (by decide) (fun hc => absurd hc (by decide)) (fun _ => ?_)
  refine lv_aload_n hx hb dX5_init_21 rfl (lv_at hl 1 rfl) ?_
  obtain ⟨t23, ht23, h⟩ := Option.bind_eq_some_iff.mp h
  refine xr_getP X O ht23 fl_X5_13 dX5_init_22 ?_
  refine lv_iload_n hx hb dX5_init_25 rfl (lv_at hl 0 rfl) ?_
  obtain ⟨t24, ht24, h⟩ := Option.bind_eq_some_iff.mp h
  refine xr_new X O cl_X0 (by decide) (xw_t2 17 (by decide +kernel) rfl) (xw_t1 135 (by decide +kernel) rfl) (xw_t1 4 (by decide +kernel) rfl) (by decide) (Nat.le_of_ble_eq_true rfl) (Nat.le_of_ble_eq_true rfl) dX5_init_26 (fun H locs O => ?_)
  rw [Option.some.inj ht24] at O
  refine W.eq (g2 := F0 m 29 ls [.ref (κ.1 + t22.1.length), .int (5 : Int32), .ref (κ.1 + t23)]) rfl ?_
  refine lv_dup hx hb dX5_init_29 rfl ?_
  obtain ⟨t25, ht25, h⟩ := Option.bind_eq_some_iff.mp h
  refine xr_callI (rest := [.ref (κ.1 + t22.1.length), .int (5 : Int32), .ref (κ.1 + t23)]) X O (T_X0_init l κ t22.1.length t24 _ ht25) lk_X5_17 (Nat.le_of_ble_eq_true rfl) rfl hl.1 rfl (Nat.le_of_ble_eq_true rfl) dX5_init_30 ⟨Nat.le_of_ble_eq_true rfl, Nat.le_of_ble_eq_true rfl⟩ (fun H locs O => ?_)
  refine W.eq (g2 := F0 m 33 ls [.ref (κ.1 + t22.1.length), .int (5 : Int32), .ref (κ.1 + t23)]) rfl ?_
  obtain ⟨t26, ht26, h⟩ := Option.bind_eq_some_iff.mp h
  refine xr_stP (t0 := 4) X O ht26 (by simp [xRk]) cl_X0 dX5_init_33 (fun H locs O => ?_)
  refine lv_iinc (v := (6 : Int32)) (lv' := [(1, .int (6 : Int32)), (0, .ref (κ.1 + a0))]) hx hb dX5_init_34 hl (k := 0) rfl (by decide) (by decide) rfl (fun ls hl => ?_)
  refine lv_goto (tgt := 15) hx hb dX5_init_37 (by decide) ?_
  refine lv_iload_n hx hb dX5_init_15 rfl (lv_at hl 0 rfl) ?_
  refine lv_bipush (v := (11 : Int32)) hx hb dX5_init_16 (by decide) ?_
  refine lv_icmp_ge (tgt := 40) hx hb dX5_init_18 (by decide) (fun hc => absurd hc (by decide)) (fun _ => ?_)
  refine lv_aload_n hx hb dX5_init_21 rfl (lv_at hl 1 rfl) ?_
  obtain ⟨t27, ht27, h⟩ := Option.bind_eq_some_iff.mp h
  refine xr_getP X O ht27 fl_X5_13 dX5_init_22 ?_
  refine lv_iload_n hx hb dX5_init_25 rfl (lv_at hl 0 rfl) ?_
  obtain ⟨t28, ht28, h⟩ := Option.bind_eq_some_iff.mp h
  refine xr_new X O cl_X0 (by decide) (xw_t2 17 (by decide +kernel) rfl) (xw_t1 135 (by decide +kernel) rfl) (xw_t1 4 (by decide +kernel) rfl) (by decide) (Nat.le_of_ble_eq_true rfl) (Nat.le_of_ble_eq_true rfl) dX5_init_26 (fun H locs O => ?_)
  rw [Option.some.inj ht28] at O
  refine W.eq (g2 := F0 m 29 ls [.ref (κ.1 + t26.1.length), .int (6 : Int32), .ref (κ.1 + t27)]) rfl ?_
  refine lv_dup hx hb dX5_init_29 rfl ?_
  obtain ⟨t29, ht29, h⟩ := Option.bind_eq_some_iff.mp h
  refine xr_callI (rest := [.ref (κ.1 + t26.1.length), .int (6 : Int32), .ref (κ.1 + t27)]) X O (T_X0_init l κ t26.1.length t28 _ ht29) lk_X5_17 (Nat.le_of_ble_eq_true rfl) rfl hl.1 rfl (Nat.le_of_ble_eq_true rfl) dX5_init_30 ⟨Nat.le_of_ble_eq_true rfl, Nat.le_of_ble_eq_true rfl⟩ (fun H locs O => ?_)
  refine W.eq (g2 := F0 m 33 ls [.ref (κ.1 + t26.1.length), .int (6 : Int32), .ref (κ.1 + t27)]) rfl ?_
  obtain ⟨t30, ht30, h⟩ := Option.bind_eq_some_iff.mp h
  refine xr_stP (t0 := 4) X O ht30 (by simp [xRk]) cl_X0 dX5_init_33 (fun H locs O => ?_)
  refine lv_iinc (v := (7 : Int32)) (lv' := [(1, .int (7 : Int32)), (0, .ref (κ.1 + a0))]) hx hb dX5_init_34 hl (k := 0) rfl (by decide) (by decide) rfl (fun ls hl => ?_)
  refine lv_goto (tgt := 15) hx hb dX5_init_37 (by decide) ?_
  refine lv_iload_n hx hb dX5_init_15 rfl (lv_at hl 0 rfl) ?_
  refine lv_bipush (v := (11 : Int32)) hx hb dX5_init_16 (by decide) ?_
  refine lv_icmp_ge (tgt := 40) hx hb dX5_init_18 (by decide) (fun hc => absurd hc (by decide)) (fun _ => ?_)
  refine lv_aload_n hx hb dX5_init_21 rfl (lv_at hl 1 rfl) ?_
  obtain ⟨t31, ht31, h⟩ := Option.bind_eq_some_iff.mp h
  refine xr_getP X O ht31 fl_X5_13 dX5_init_22 ?_
  refine lv_iload_n hx hb dX5_init_25 rfl (lv_at hl 0 rfl) ?_
  obtain ⟨t32, ht32, h⟩ := Option.bind_eq_some_iff.mp h
  refine xr_new X O cl_X0 (by decide) (xw_t2 17 (by decide +kernel) rfl) (xw_t1 135 (by decide +kernel) rfl) (xw_t1 4 (by decide +kernel) rfl) (by decide) (Nat.le_of_ble_eq_true rfl) (Nat.le_of_ble_eq_true rfl) dX5_init_26 (fun H locs O => ?_)
  rw [Option.some.inj ht32] at O
  refine W.eq (g2 := F0 m 29 ls [.ref (κ.1 + t30.1.length), .int (7 : Int32), .ref (κ.1 + t31)]) rfl ?_
  refine lv_dup hx hb dX5_init_29 rfl ?_
  obtain ⟨t33, ht33, h⟩ := Option.bind_eq_some_iff.mp h
  refine xr_callI (rest := [.ref (κ.1 + t30.1.length), .int (7 : Int32), .ref (κ.1 + t31)]) X O (T_X0_init l κ t30.1.length t32 _ ht33) lk_X5_17 (Nat.le_of_ble_eq_true rfl) rfl hl.1 rfl (Nat.le_of_ble_eq_true rfl) dX5_init_30 ⟨Nat.le_of_ble_eq_true rfl, Nat.le_of_ble_eq_true rfl⟩ (fun H locs O => ?_)
  refine W.eq (g2 := F0 m 33 ls [.ref (κ.1 + t30.1.length), .int (7 : Int32), .ref (κ.1 + t31)]) rfl ?_
  obtain ⟨t34, ht34, h⟩ := Option.bind_eq_some_iff.mp h
  refine xr_stP (t0 := 4) X O ht34 (by simp [xRk]) cl_X0 dX5_init_33 (fun H locs O => ?_)
  refine lv_iinc (v := (8 : Int32)) (lv' := [(1, .int (8 : Int32)), (0, .ref (κ.1 + a0))]) hx hb dX5_init_34 hl (k := 0) rfl (by decide) (by decide) rfl (fun ls hl => ?_)
  refine lv_goto (tgt := 15) hx hb dX5_init_37 (by decide) ?_
  refine lv_iload_n hx hb dX5_init_15 rfl (lv_at hl 0 rfl) ?_
  refine lv_bipush (v := (11 : Int32)) hx hb dX5_init_16 (by decide) ?_
  refine lv_icmp_ge (tgt := 40) hx hb dX5_init_18 (by decide) (fun hc => absurd hc (by decide)) (fun _ => ?_)
  refine lv_aload_n hx hb dX5_init_21 rfl (lv_at hl 1 rfl) ?_
  obtain ⟨t35, ht35, h⟩ := Option.bind_eq_some_iff.mp h
  refine xr_getP X O ht35 fl_X5_13 dX5_init_22 ?_
  refine lv_iload_n hx hb dX5_init_25 rfl (lv_at hl 0 rfl) ?_
  obtain ⟨t36, ht36, h⟩ := Option.bind_eq_some_iff.mp h
  refine xr_new X O cl_X0 (by decide) (xw_t2 17 (by decide +kernel) rfl) (xw_t1 135 (by decide +kernel) rfl) (xw_t1 4 (by decide +kernel) rfl) (by decide) (Nat.le_of_ble_eq_true rfl) (Nat.le_of_ble_eq_true rfl) dX5_init_26 (fun H locs O => ?_)
  rw [Option.some.inj ht36] at O
  refine W.eq (g2 := F0 m 29 ls [.ref (κ.1 + t34.1.length), .int (8 : Int32), .ref (κ.1 + t35)]) rfl ?_
  refine lv_dup hx hb dX5_init_29 rfl ?_
  obtain ⟨t37, ht37, h⟩ := Option.bind_eq_some_iff.mp h
  refine xr_callI (rest := [.ref (κ.1 + t34.1.length), .int (8 : Int32), .ref (κ.1 + t35)]) X O (T_X0_init l κ t34.1.length t36 _ ht37) lk_X5_17 (Nat.le_of_ble_eq_true rfl) rfl hl.1 rfl (Nat.le_of_ble_eq_true rfl) dX5_init_30 ⟨Nat.le_of_ble_eq_true rfl, Nat.le_of_ble_eq_true rfl⟩ (fun H locs O => ?_)
  refine W.eq (g2 := F0 m 33 ls [.ref (κ.1 + t34.1.length), .int (8 : Int32), .ref (κ.1 + t35)]) rfl ?_
  obtain ⟨t38, ht38, h⟩ := Option.bind_eq_some_iff.mp h
  refine xr_stP (t0 := 4) X O ht38 (by simp [xRk]) cl_X0 dX5_init_33 (fun H locs O => ?_)
  refine lv_iinc (v := (9 : Int32)) (lv' := [(1, .int (9 : Int32)), (0, .ref (κ.1 + a0))]) hx hb dX5_init_34 hl (k := 0) rfl (by decide) (by decide) rfl (fun ls hl => ?_)
  refine lv_goto (tgt := 15) hx hb dX5_init_37 (by decide) ?_
  refine lv_iload_n hx hb dX5_init_15 rfl (lv_at hl 0 rfl) ?_
  refine lv_bipush (v := (11 : Int32)) hx hb dX5_init_16 (by decide) ?_
  refine lv_icmp_ge (tgt := 40) hx hb dX5_init_18 (by decide) (fun hc => absurd hc (by decide)) (fun _ => ?_)
  refine lv_aload_n hx hb dX5_init_21 rfl (lv_at hl 1 rfl) ?_
  obtain ⟨t39, ht39, h⟩ := Option.bind_eq_some_iff.mp h
  refine xr_getP X O ht39 fl_X5_13 dX5_init_22 ?_
  refine lv_iload_n hx hb dX5_init_25 rfl (lv_at hl 0 rfl) ?_
  obtain ⟨t40, ht40, h⟩ := Option.bind_eq_some_iff.mp h
  refine xr_new X O cl_X0 (by decide) (xw_t2 17 (by decide +kernel) rfl) (xw_t1 135 (by decide +kernel) rfl) (xw_t1 4 (by decide +kernel) rfl) (by decide) (Nat.le_of_ble_eq_true rfl) (Nat.le_of_ble_eq_true rfl) dX5_init_26 (fun H locs O => ?_)
  rw [Option.some.inj ht40] at O
  refine W.eq (g2 := F0 m 29 ls [.ref (κ.1 + t38.1.length), .int (9 : Int32), .ref (κ.1 + t39)]) rfl ?_
  refine lv_dup hx hb dX5_init_29 rfl ?_
  obtain ⟨t41, ht41, h⟩ := Option.bind_eq_some_iff.mp h
  refine xr_callI (rest := [.ref (κ.1 + t38.1.length), .int (9 : Int32), .ref (κ.1 + t39)]) X O (T_X0_init l κ t38.1.length t40 _ ht41) lk_X5_17 (Nat.le_of_ble_eq_true rfl) rfl hl.1 rfl (Nat.le_of_ble_eq_true rfl) dX5_init_30 ⟨Nat.le_of_ble_eq_true rfl, Nat.le_of_ble_eq_true rfl⟩ (fun H locs O => ?_)
  refine W.eq (g2 := F0 m 33 ls [.ref (κ.1 + t38.1.length), .int (9 : Int32), .ref (κ.1 + t39)]) rfl ?_
  obtain ⟨t42, ht42, h⟩ := Option.bind_eq_some_iff.mp h
  refine xr_stP (t0 := 4) X O ht42 (by simp [xRk]) cl_X0 dX5_init_33 (fun H locs O => ?_)
  refine lv_iinc (v := (10 : Int32)) (lv' := [(1, .int (10 : Int32)), (0, .ref (κ.1 + a0))]) hx hb dX5_init_34 hl (k := 0) rfl (by decide) (by decide) rfl (fun ls hl => ?_)
  refine lv_goto (tgt := 15) hx hb dX5_init_37 (by decide) ?_
  refine lv_iload_n hx hb dX5_init_15 rfl (lv_at hl 0 rfl) ?_
  refine lv_bipush (v := (11 : Int32)) hx hb dX5_init_16 (by decide) ?_
  refine lv_icmp_ge (tgt := 40) hx hb dX5_init_18 (by decide) (fun hc => absurd hc (by decide)) (fun _ => ?_)
  refine lv_aload_n hx hb dX5_init_21 rfl (lv_at hl 1 rfl) ?_
  obtain ⟨t43, ht43, h⟩ := Option.bind_eq_some_iff.mp h
  refine xr_getP X O ht43 fl_X5_13 dX5_init_22 ?_
  refine lv_iload_n hx hb dX5_init_25 rfl (lv_at hl 0 rfl) ?_
  obtain ⟨t44, ht44, h⟩ := Option.bind_eq_some_iff.mp h
  refine xr_new X O cl_X0 (by decide) (xw_t2 17 (by decide +kernel) rfl) (xw_t1 135 (by decide +kernel) rfl) (xw_t1 4 (by decide +kernel) rfl) (by decide) (Nat.le_of_ble_eq_true rfl) (Nat.le_of_ble_eq_true rfl) dX5_init_26 (fun H locs O => ?_)
  rw [Option.some.inj ht44] at O
  refine W.eq (g2 := F0 m 29 ls [.ref (κ.1 + t42.1.length), .int (10 : Int32), .ref (κ.1 + t43)]) rfl ?_
  refine lv_dup hx hb dX5_init_29 rfl ?_
  obtain ⟨t45, ht45, h⟩ := Option.bind_eq_some_iff.mp h
  refine xr_callI (rest := [.ref (κ.1 + t42.1.length), .int (10 : Int32), .ref (κ.1 + t43)]) X O (T_X0_init l κ t42.1.length t44 _ ht45) lk_X5_17 (Nat.le_of_ble_eq_true rfl) rfl hl.1 rfl (Nat.le_of_ble_eq_true rfl) dX5_init_30 ⟨Nat.le_of_ble_eq_true rfl, Nat.le_of_ble_eq_true rfl⟩ (fun H locs O => ?_)
  refine W.eq (g2 := F0 m 33 ls [.ref (κ.1 + t42.1.length), .int (10 : Int32), .ref (κ.1 + t43)]) rfl ?_
  obtain ⟨t46, ht46, h⟩ := Option.bind_eq_some_iff.mp h
  refine xr_stP (t0 := 4) X O ht46 (by simp [xRk]) cl_X0 dX5_init_33 (fun H locs O => ?_)
  refine lv_iinc (v := (11 : Int32)) (lv' := [(1, .int (11 : Int32)), (0, .ref (κ.1 + a0))]) hx hb dX5_init_34 hl (k := 0) rfl (by decide) (by decide) rfl (fun ls hl => ?_)
  refine lv_goto (tgt := 15) hx hb dX5_init_37 (by decide) ?_
  refine lv_iload_n hx hb dX5_init_15 rfl (lv_at hl 0 rfl) ?_
  refine lv_bipush (v := (11 : Int32)) hx hb dX5_init_16 (by decide) ?_
  refine lv_icmp_ge (tgt := 40) hx hb dX5_init_18 (by decide) (fun _ => ?_) (fun hc => absurd (by decide) hc)
  rw [← Option.some.inj h] at hK
  have hK : t46 = mo := hK
  rw [hK] at O
  exact xr_vret X hr hlk O dX5_init_40
def F_X11_init (a0 : Nat) (M : xM) : Option (xM) :=
(some (xnw M (7, 0))).bind fun t1 =>
(F_X7_init M.1.length t1).bind fun t2 =>
(xpP t2 a0 11 1 M.1.length).bind fun t3 =>
(some (xnw t3 (3, 0))).bind fun t4 =>
(F_X3_init t3.1.length t4).bind fun t5 =>
(xpP t5 a0 11 2 t3.1.length).bind fun t6 =>
(some (xnw t6 (0, 0))).bind fun t7 =>
(F_X0_init t6.1.length t7).bind fun t8 =>
(xpP t8 a0 11 3 t6.1.length).bind fun t9 =>
(some (xnw t9 (0, 0))).bind fun t10 =>
(F_X0_init t9.1.length t10).bind fun t11 =>
(xpP t11 a0 11 4 t9.1.length).bind fun t12 =>
(some (xnw t12 (8, 0))).bind fun t13 =>
(F_X8_init t12.1.length t13).bind fun t14 =>
(xpP t14 a0 11 5 t12.1.length).bind fun t15 =>
(some (xnw t15 (5, 0))).bind fun t16 =>
(F_X5_init t15.1.length t16).bind fun t17 =>
(xpP t17 a0 11 6 t15.1.length).bind fun t18 =>
(some (xnw t18 (40, 4))).bind fun t19 =>
(xpP t19 a0 11 7 t18.1.length).bind fun t20 =>
(xgP t20 a0 11 7).bind fun t21 =>
(some (xnw t20 (10, 0))).bind fun t22 =>
(F_X10_init t20.1.length t22).bind fun t23 =>
(xsP t23 40 10 t21 (0 : Int32) t20.1.length).bind fun t24 =>
(xgP t24 a0 11 7).bind fun t25 =>
(some (xnw t24 (10, 0))).bind fun t26 =>
(F_X10_init t24.1.length t26).bind fun t27 =>
(xsP t27 40 10 t25 (1 : Int32) t24.1.length).bind fun t28 =>
(xgP t28 a0 11 7).bind fun t29 =>
(some (xnw t28 (10, 0))).bind fun t30 =>
(F_X10_init t28.1.length t30).bind fun t31 =>
(xsP t31 40 10 t29 (2 : Int32) t28.1.length).bind fun t32 =>
(xgP t32 a0 11 7).bind fun t33 =>
(some (xnw t32 (10, 0))).bind fun t34 =>
(F_X10_init t32.1.length t34).bind fun t35 =>
(xsP t35 40 10 t33 (3 : Int32) t32.1.length).bind fun t36 =>
(some (xnw t36 (33, 2))).bind fun t37 =>
(xpP t37 a0 11 8 t36.1.length).bind fun t38 =>
(some (xnw t38 (30, 2))).bind fun t39 =>
(xpP t39 a0 11 9 t38.1.length).bind fun t40 =>
(xgP t40 a0 11 8).bind fun t41 =>
(some (xnw t40 (3, 0))).bind fun t42 =>
(F_X3_init t40.1.length t42).bind fun t43 =>
(xsP t43 33 3 t41 (0 : Int32) t40.1.length).bind fun t44 =>
(xgP t44 a0 11 9).bind fun t45 =>
(some (xnw t44 (0, 0))).bind fun t46 =>
(F_X0_init t44.1.length t46).bind fun t47 =>
(xsP t47 30 0 t45 (0 : Int32) t44.1.length).bind fun t48 =>
(xgP t48 a0 11 8).bind fun t49 =>
(some (xnw t48 (3, 0))).bind fun t50 =>
(F_X3_init t48.1.length t50).bind fun t51 =>
(xsP t51 33 3 t49 (1 : Int32) t48.1.length).bind fun t52 =>
(xgP t52 a0 11 9).bind fun t53 =>
(some (xnw t52 (0, 0))).bind fun t54 =>
(F_X0_init t52.1.length t54).bind fun t55 =>
(xsP t55 30 0 t53 (1 : Int32) t52.1.length).bind fun t56 =>
(some (xnw t56 (1, 0))).bind fun t57 =>
(F_X1_init t56.1.length t57).bind fun t58 =>
(xpP t58 a0 11 11 t56.1.length).bind fun t59 =>
(some (xnw t59 (6, 0))).bind fun t60 =>
(F_X6_init t59.1.length t60).bind fun t61 =>
(xpP t61 a0 11 12 t59.1.length).bind fun t62 =>
(some (xnw t62 (9, 0))).bind fun t63 =>
(F_X9_init t62.1.length t63).bind fun t64 =>
(xpP t64 a0 11 13 t62.1.length).bind fun t65 =>
(F_X11_rowWorths  t65).bind fun t66 =>
(xpP t66.2 a0 11 14 t66.1).bind fun t67 =>
(some (xnw t67 (2, 0))).bind fun t68 =>
(F_X2_init t67.1.length t68).bind fun t69 =>
(xpP t69 a0 11 15 t67.1.length).bind fun t70 =>
some t70
set_option maxRecDepth 100000 in
set_option maxHeartbeats 4000000 in
theorem T_X11_init (l : Launch) (κ : xQ) (a0 : Nat) (M : xM) (mo : xM) (h : F_X11_init a0 M = some mo) : xC l yX11_init cX11_init 2 none 4 163 6984 κ [.ref (κ.1 + a0)] M none mo := by
  refine xC_of rfl (Nat.le_of_ble_eq_true rfl) fun p e s m args below meth c X hr hlk hnm H locs ls O hl => ?_
  have X : xX p s m args c cX11_init 2 RX11 κ := X
  have hl : lv_has ls 2 [(0, .ref (κ.1 + a0))] := hl
  have hx := X.1
  have hb := X.2.1
  obtain ⟨x, hx0⟩ : ∃ x, mo = x := ⟨_, rfl⟩
  rw [hx0] at h
  have hK : x = mo := hx0.symm
  unfold F_X11_init at h
  refine lv_aload_n hx hb dX11_init_0 rfl (lv_at hl 0 rfl) ?_
  refine xr_objI X lo_X11_3.1 lo_X11_3.2.1 lo_X11_3.2.2 hl.1 (by decide) dX11_init_1 ?_
  refine W.eq (g2 := F0 m 4 ls []) rfl ?_
  refine lv_aload_n hx hb dX11_init_4 rfl (lv_at hl 0 rfl) ?_
  obtain ⟨t1, ht1, h⟩ := Option.bind_eq_some_iff.mp h
  refine xr_new X O cl_X7 (by decide) (xw_t1 31 (by decide +kernel) rfl) (xw_t1 32 (by decide +kernel) rfl) (xw_t1 2 (by decide +kernel) rfl) (by decide) (Nat.le_of_ble_eq_true rfl) (Nat.le_of_ble_eq_true rfl) dX11_init_5 (fun H locs O => ?_)
  rw [Option.some.inj ht1] at O
  refine W.eq (g2 := F0 m 8 ls [.ref (κ.1 + M.1.length), .ref (κ.1 + a0)]) rfl ?_
  refine lv_dup hx hb dX11_init_8 rfl ?_
  obtain ⟨t2, ht2, h⟩ := Option.bind_eq_some_iff.mp h
  refine xr_callI (rest := [.ref (κ.1 + M.1.length), .ref (κ.1 + a0)]) X O (T_X7_init l κ M.1.length t1 _ ht2) lk_X11_11 (Nat.le_of_ble_eq_true rfl) rfl hl.1 rfl (Nat.le_of_ble_eq_true rfl) dX11_init_9 ⟨Nat.le_of_ble_eq_true rfl, Nat.le_of_ble_eq_true rfl⟩ (fun H locs O => ?_)
  refine W.eq (g2 := F0 m 12 ls [.ref (κ.1 + M.1.length), .ref (κ.1 + a0)]) rfl ?_
  obtain ⟨t3, ht3, h⟩ := Option.bind_eq_some_iff.mp h
  refine xr_putP X O ht3 fl_X11_12 (fun _ => ⟨hnm, rfl⟩) dX11_init_12 (fun H locs O => ?_)
  refine lv_aload_n hx hb dX11_init_15 rfl (lv_at hl 0 rfl) ?_
  obtain ⟨t4, ht4, h⟩ := Option.bind_eq_some_iff.mp h
  refine xr_new X O cl_X3 (by decide) (xw_t1 217 (by decide +kernel) rfl) (xw_t1 38 (by decide +kernel) rfl) (xw_t1 3 (by decide +kernel) rfl) (by decide) (Nat.le_of_ble_eq_true rfl) (Nat.le_of_ble_eq_true rfl) dX11_init_16 (fun H locs O => ?_)
  rw [Option.some.inj ht4] at O
  refine W.eq (g2 := F0 m 19 ls [.ref (κ.1 + t3.1.length), .ref (κ.1 + a0)]) rfl ?_
  refine lv_dup hx hb dX11_init_19 rfl ?_
  obtain ⟨t5, ht5, h⟩ := Option.bind_eq_some_iff.mp h
  refine xr_callI (rest := [.ref (κ.1 + t3.1.length), .ref (κ.1 + a0)]) X O (T_X3_init l κ t3.1.length t4 _ ht5) lk_X11_18 (Nat.le_of_ble_eq_true rfl) rfl hl.1 rfl (Nat.le_of_ble_eq_true rfl) dX11_init_20 ⟨Nat.le_of_ble_eq_true rfl, Nat.le_of_ble_eq_true rfl⟩ (fun H locs O => ?_)
  refine W.eq (g2 := F0 m 23 ls [.ref (κ.1 + t3.1.length), .ref (κ.1 + a0)]) rfl ?_
  obtain ⟨t6, ht6, h⟩ := Option.bind_eq_some_iff.mp h
  refine xr_putP X O ht6 fl_X11_19 (fun _ => ⟨hnm, rfl⟩) dX11_init_23 (fun H locs O => ?_)
  refine lv_aload_n hx hb dX11_init_26 rfl (lv_at hl 0 rfl) ?_
  obtain ⟨t7, ht7, h⟩ := Option.bind_eq_some_iff.mp h
  refine xr_new X O cl_X0 (by decide) (xw_t1 219 (by decide +kernel) rfl) (xw_t1 135 (by decide +kernel) rfl) (xw_t1 4 (by decide +kernel) rfl) (by decide) (Nat.le_of_ble_eq_true rfl) (Nat.le_of_ble_eq_true rfl) dX11_init_27 (fun H locs O => ?_)
  rw [Option.some.inj ht7] at O
  refine W.eq (g2 := F0 m 30 ls [.ref (κ.1 + t6.1.length), .ref (κ.1 + a0)]) rfl ?_
  refine lv_dup hx hb dX11_init_30 rfl ?_
  obtain ⟨t8, ht8, h⟩ := Option.bind_eq_some_iff.mp h
  refine xr_callI (rest := [.ref (κ.1 + t6.1.length), .ref (κ.1 + a0)]) X O (T_X0_init l κ t6.1.length t7 _ ht8) lk_X11_25 (Nat.le_of_ble_eq_true rfl) rfl hl.1 rfl (Nat.le_of_ble_eq_true rfl) dX11_init_31 ⟨Nat.le_of_ble_eq_true rfl, Nat.le_of_ble_eq_true rfl⟩ (fun H locs O => ?_)
  refine W.eq (g2 := F0 m 34 ls [.ref (κ.1 + t6.1.length), .ref (κ.1 + a0)]) rfl ?_
  obtain ⟨t9, ht9, h⟩ := Option.bind_eq_some_iff.mp h
  refine xr_putP X O ht9 fl_X11_26 (fun _ => ⟨hnm, rfl⟩) dX11_init_34 (fun H locs O => ?_)
  refine lv_aload_n hx hb dX11_init_37 rfl (lv_at hl 0 rfl) ?_
  obtain ⟨t10, ht10, h⟩ := Option.bind_eq_some_iff.mp h
  refine xr_new X O cl_X0 (by decide) (xw_t1 219 (by decide +kernel) rfl) (xw_t1 135 (by decide +kernel) rfl) (xw_t1 4 (by decide +kernel) rfl) (by decide) (Nat.le_of_ble_eq_true rfl) (Nat.le_of_ble_eq_true rfl) dX11_init_38 (fun H locs O => ?_)
  rw [Option.some.inj ht10] at O
  refine W.eq (g2 := F0 m 41 ls [.ref (κ.1 + t9.1.length), .ref (κ.1 + a0)]) rfl ?_
  refine lv_dup hx hb dX11_init_41 rfl ?_
  obtain ⟨t11, ht11, h⟩ := Option.bind_eq_some_iff.mp h
  refine xr_callI (rest := [.ref (κ.1 + t9.1.length), .ref (κ.1 + a0)]) X O (T_X0_init l κ t9.1.length t10 _ ht11) lk_X11_25 (Nat.le_of_ble_eq_true rfl) rfl hl.1 rfl (Nat.le_of_ble_eq_true rfl) dX11_init_42 ⟨Nat.le_of_ble_eq_true rfl, Nat.le_of_ble_eq_true rfl⟩ (fun H locs O => ?_)
  refine W.eq (g2 := F0 m 45 ls [.ref (κ.1 + t9.1.length), .ref (κ.1 + a0)]) rfl ?_
  obtain ⟨t12, ht12, h⟩ := Option.bind_eq_some_iff.mp h
  refine xr_putP X O ht12 fl_X11_30 (fun _ => ⟨hnm, rfl⟩) dX11_init_45 (fun H locs O => ?_)
  refine lv_aload_n hx hb dX11_init_48 rfl (lv_at hl 0 rfl) ?_
  obtain ⟨t13, ht13, h⟩ := Option.bind_eq_some_iff.mp h
  refine xr_new X O cl_X8 (by decide) (xw_t1 221 (by decide +kernel) rfl) (xw_t1 222 (by decide +kernel) rfl) (xw_t1 5 (by decide +kernel) rfl) (by decide) (Nat.le_of_ble_eq_true rfl) (Nat.le_of_ble_eq_true rfl) dX11_init_49 (fun H locs O => ?_)
  rw [Option.some.inj ht13] at O
  refine W.eq (g2 := F0 m 52 ls [.ref (κ.1 + t12.1.length), .ref (κ.1 + a0)]) rfl ?_
  refine lv_dup hx hb dX11_init_52 rfl ?_
  obtain ⟨t14, ht14, h⟩ := Option.bind_eq_some_iff.mp h
  refine xr_callI (rest := [.ref (κ.1 + t12.1.length), .ref (κ.1 + a0)]) X O (T_X8_init l κ t12.1.length t13 _ ht14) lk_X11_35 (Nat.le_of_ble_eq_true rfl) rfl hl.1 rfl (Nat.le_of_ble_eq_true rfl) dX11_init_53 ⟨Nat.le_of_ble_eq_true rfl, Nat.le_of_ble_eq_true rfl⟩ (fun H locs O => ?_)
  refine W.eq (g2 := F0 m 56 ls [.ref (κ.1 + t12.1.length), .ref (κ.1 + a0)]) rfl ?_
  obtain ⟨t15, ht15, h⟩ := Option.bind_eq_some_iff.mp h
  refine xr_putP X O ht15 fl_X11_36 (fun _ => ⟨hnm, rfl⟩) dX11_init_56 (fun H locs O => ?_)
  refine lv_aload_n hx hb dX11_init_59 rfl (lv_at hl 0 rfl) ?_
  obtain ⟨t16, ht16, h⟩ := Option.bind_eq_some_iff.mp h
  refine xr_new X O cl_X5 (by decide) (xw_t2 11 (by decide +kernel) rfl) (xw_t2 12 (by decide +kernel) rfl) (xw_t1 7 (by decide +kernel) rfl) (by decide) (Nat.le_of_ble_eq_true rfl) (Nat.le_of_ble_eq_true rfl) dX11_init_60 (fun H locs O => ?_)
  rw [Option.some.inj ht16] at O
  refine W.eq (g2 := F0 m 63 ls [.ref (κ.1 + t15.1.length), .ref (κ.1 + a0)]) rfl ?_
  refine lv_dup hx hb dX11_init_63 rfl ?_
  obtain ⟨t17, ht17, h⟩ := Option.bind_eq_some_iff.mp h
  refine xr_callI (rest := [.ref (κ.1 + t15.1.length), .ref (κ.1 + a0)]) X O (T_X5_init l κ t15.1.length t16 _ ht17) lk_X11_42 (Nat.le_of_ble_eq_true rfl) rfl hl.1 rfl (Nat.le_of_ble_eq_true rfl) dX11_init_64 ⟨Nat.le_of_ble_eq_true rfl, Nat.le_of_ble_eq_true rfl⟩ (fun H locs O => ?_)
  refine W.eq (g2 := F0 m 67 ls [.ref (κ.1 + t15.1.length), .ref (κ.1 + a0)]) rfl ?_
  obtain ⟨t18, ht18, h⟩ := Option.bind_eq_some_iff.mp h
  refine xr_putP X O ht18 fl_X11_43 (fun _ => ⟨hnm, rfl⟩) dX11_init_67 (fun H locs O => ?_)
  refine lv_aload_n hx hb dX11_init_70 rfl (lv_at hl 0 rfl) ?_
  refine lv_iconst (v := (4 : Int32)) hx hb dX11_init_71 (by decide) ?_
  obtain ⟨t19, ht19, h⟩ := Option.bind_eq_some_iff.mp h
  refine xr_newQ (t := 40) (t0 := 6) (C := RX10) (N := 4) X O (by simp [xRk]) (xw_t2 31 (by decide +kernel) rfl) (X.2.2.2.2.2.2.2.2.2.2.2) (by decide) (by decide) (by decide) (Nat.le_of_ble_eq_true rfl) (Nat.le_of_ble_eq_true rfl) dX11_init_72 (fun H locs O => ?_)
  rw [Option.some.inj ht19] at O
  refine W.eq (g2 := F0 m 75 ls [.ref (κ.1 + t18.1.length), .ref (κ.1 + a0)]) rfl ?_
  obtain ⟨t20, ht20, h⟩ := Option.bind_eq_some_iff.mp h
  refine xr_putP X O ht20 fl_X11_49 (fun _ => ⟨hnm, rfl⟩) dX11_init_75 (fun H locs O => ?_)
  refine lv_iconst (v := (0 : Int32)) hx hb dX11_init_78 (by decide) ?_
  refine lv_istore_n (lv' := [(1, .int (0 : Int32)), (0, .ref (κ.1 + a0))]) hx hb dX11_init_79 rfl hl (by decide) rfl (fun ls hl => ?_)
  refine lv_iload_n hx hb dX11_init_80 rfl (lv_at hl 0 rfl) ?_
  refine lv_iconst (v := (4 : Int32)) hx hb dX11_init_81 (by decide) ?_
  refine lv_icmp_ge (tgt := 104) hx hb dX11_init_82 (by decide) (fun hc => absurd hc (by decide)) (fun _ => ?_)
  refine lv_aload_n hx hb dX11_init_85 rfl (lv_at hl 1 rfl) ?_
  obtain ⟨t21, ht21, h⟩ := Option.bind_eq_some_iff.mp h
  refine xr_getP X O ht21 fl_X11_49 dX11_init_86 ?_
  refine lv_iload_n hx hb dX11_init_89 rfl (lv_at hl 0 rfl) ?_
  obtain ⟨t22, ht22, h⟩ := Option.bind_eq_some_iff.mp h
  refine xr_new X O cl_X10 (by decide) (xw_t2 31 (by decide +kernel) rfl) (xw_t2 33 (by decide +kernel) rfl) (xw_t1 8 (by decide +kernel) rfl) (by decide) (Nat.le_of_ble_eq_true rfl) (Nat.le_of_ble_eq_true rfl) dX11_init_90 (fun H locs O => ?_)
  rw [Option.some.inj ht22] at O
  refine W.eq (g2 := F0 m 93 ls [.ref (κ.1 + t20.1.length), .int (0 : Int32), .ref (κ.1 + t21)]) rfl ?_
  refine lv_dup hx hb dX11_init_93 rfl ?_
  obtain ⟨t23, ht23, h⟩ := Option.bind_eq_some_iff.mp h
  refine xr_callI (rest := [.ref (κ.1 + t20.1.length), .int (0 : Int32), .ref (κ.1 + t21)]) X O (T_X10_init l κ t20.1.length t22 _ ht23) lk_X11_53 (Nat.le_of_ble_eq_true rfl) rfl hl.1 rfl (Nat.le_of_ble_eq_true rfl) dX11_init_94 ⟨Nat.le_of_ble_eq_true rfl, Nat.le_of_ble_eq_true rfl⟩ (fun H locs O => ?_)
  refine W.eq (g2 := F0 m 97 ls [.ref (κ.1 + t20.1.length), .int (0 : Int32), .ref (κ.1 + t21)]) rfl ?_
  obtain ⟨t24, ht24, h⟩ := Option.bind_eq_some_iff.mp h
  refine xr_stP (t0 := 6) X O ht24 (by simp [xRk]) cl_X10 dX11_init_97 (fun H locs O => ?_)
  refine lv_iinc (v := (1 : Int32)) (lv' := [(1, .int (1 : Int32)), (0, .ref (κ.1 + a0))]) hx hb dX11_init_98 hl (k := 0) rfl (by decide) (by decide) rfl (fun ls hl => ?_)
  refine lv_goto (tgt := 80) hx hb dX11_init_101 (by decide) ?_
  refine lv_iload_n hx hb dX11_init_80 rfl (lv_at hl 0 rfl) ?_
  refine lv_iconst (v := (4 : Int32)) hx hb dX11_init_81 (by decide) ?_
  refine lv_icmp_ge (tgt := 104) hx hb dX11_init_82 (by decide) (fun hc => absurd hc (by decide)) (fun _ => ?_)
  refine lv_aload_n hx hb dX11_init_85 rfl (lv_at hl 1 rfl) ?_
  obtain ⟨t25, ht25, h⟩ := Option.bind_eq_some_iff.mp h
  refine xr_getP X O ht25 fl_X11_49 dX11_init_86 ?_
  refine lv_iload_n hx hb dX11_init_89 rfl (lv_at hl 0 rfl) ?_
  obtain ⟨t26, ht26, h⟩ := Option.bind_eq_some_iff.mp h
  refine xr_new X O cl_X10 (by decide) (xw_t2 31 (by decide +kernel) rfl) (xw_t2 33 (by decide +kernel) rfl) (xw_t1 8 (by decide +kernel) rfl) (by decide) (Nat.le_of_ble_eq_true rfl) (Nat.le_of_ble_eq_true rfl) dX11_init_90 (fun H locs O => ?_)
  rw [Option.some.inj ht26] at O
  refine W.eq (g2 := F0 m 93 ls [.ref (κ.1 + t24.1.length), .int (1 : Int32), .ref (κ.1 + t25)]) rfl ?_
  refine lv_dup hx hb dX11_init_93 rfl ?_
  obtain ⟨t27, ht27, h⟩ := Option.bind_eq_some_iff.mp h
  refine xr_callI (rest := [.ref (κ.1 + t24.1.length), .int (1 : Int32), .ref (κ.1 + t25)]) X O (T_X10_init l κ t24.1.length t26 _ ht27) lk_X11_53 (Nat.le_of_ble_eq_true rfl) rfl hl.1 rfl (Nat.le_of_ble_eq_true rfl) dX11_init_94 ⟨Nat.le_of_ble_eq_true rfl, Nat.le_of_ble_eq_true rfl⟩ (fun H locs O => ?_)
  refine W.eq (g2 := F0 m 97 ls [.ref (κ.1 + t24.1.length), .int (1 : Int32), .ref (κ.1 + t25)]) rfl ?_
  obtain ⟨t28, ht28, h⟩ := Option.bind_eq_some_iff.mp h
  refine xr_stP (t0 := 6) X O ht28 (by simp [xRk]) cl_X10 dX11_init_97 (fun H locs O => ?_)
  refine lv_iinc (v := (2 : Int32)) (lv' := [(1, .int (2 : Int32)), (0, .ref (κ.1 + a0))]) hx hb dX11_init_98 hl (k := 0) rfl (by decide) (by decide) rfl (fun ls hl => ?_)
  refine lv_goto (tgt := 80) hx hb dX11_init_101 (by decide) ?_
  refine lv_iload_n hx hb dX11_init_80 rfl (lv_at hl 0 rfl) ?_
  refine lv_iconst (v := (4 : Int32)) hx hb dX11_init_81 (by decide) ?_
  refine lv_icmp_ge (tgt := 104) hx hb dX11_init_82 (by decide) (fun hc => absurd hc (by decide)) (fun _ => ?_)
  refine lv_aload_n hx hb dX11_init_85 rfl (lv_at hl 1 rfl) ?_
  obtain ⟨t29, ht29, h⟩ := Option.bind_eq_some_iff.mp h
  refine xr_getP X O ht29 fl_X11_49 dX11_init_86 ?_
  refine lv_iload_n hx hb dX11_init_89 rfl (lv_at hl 0 rfl) ?_
  obtain ⟨t30, ht30, h⟩ := Option.bind_eq_some_iff.mp h
  refine xr_new X O cl_X10 (by decide) (xw_t2 31 (by decide +kernel) rfl) (xw_t2 33 (by decide +kernel) rfl) (xw_t1 8 (by decide +kernel) rfl) (by decide) (Nat.le_of_ble_eq_true rfl) (Nat.le_of_ble_eq_true rfl) dX11_init_90 (fun H locs O => ?_)
  rw [Option.some.inj ht30] at O
  refine W.eq (g2 := F0 m 93 ls [.ref (κ.1 + t28.1.length), .int (2 : Int32), .ref (κ.1 + t29)]) rfl ?_
  refine lv_dup hx hb dX11_init_93 rfl ?_
  obtain ⟨t31, ht31, h⟩ := Option.bind_eq_some_iff.mp h
  refine xr_callI (rest := [.ref (κ.1 + t28.1.length), .int (2 : Int32), .ref (κ.1 + t29)]) X O (T_X10_init l κ t28.1.length t30 _ ht31) lk_X11_53 (Nat.le_of_ble_eq_true rfl) rfl hl.1 rfl (Nat.le_of_ble_eq_true rfl) dX11_init_94 ⟨Nat.le_of_ble_eq_true rfl, Nat.le_of_ble_eq_true rfl⟩ (fun H locs O => ?_)
  refine W.eq (g2 := F0 m 97 ls [.ref (κ.1 + t28.1.length), .int (2 : Int32), .ref (κ.1 + t29)]) rfl ?_
  obtain ⟨t32, ht32, h⟩ := Option.bind_eq_some_iff.mp h
  refine xr_stP (t0 := 6) X O ht32 (by simp [xRk]) cl_X10 dX11_init_97 (fun H locs O => ?_)
  refine lv_iinc (v := (3 : Int32)) (lv' := [(1, .int (3 : Int32)), (0, .ref (κ.1 + a0))]) hx hb dX11_init_98 hl (k := 0) rfl (by decide) (by decide) rfl (fun ls hl => ?_)
  refine lv_goto (tgt := 80) hx hb dX11_init_101 (by decide) ?_
  refine lv_iload_n hx hb dX11_init_80 rfl (lv_at hl 0 rfl) ?_
  refine lv_iconst (v := (4 : Int32)) hx hb dX11_init_81 (by decide) ?_
  refine lv_icmp_ge (tgt := 104) hx hb dX11_init_82 (by decide) (fun hc => absurd hc (by decide)) (fun _ => ?_)
  refine lv_aload_n hx hb dX11_init_85 rfl (lv_at hl 1 rfl) ?_
  obtain ⟨t33, ht33, h⟩ := Option.bind_eq_some_iff.mp h
  refine xr_getP X O ht33 fl_X11_49 dX11_init_86 ?_
  refine lv_iload_n hx hb dX11_init_89 rfl (lv_at hl 0 rfl) ?_
  obtain ⟨t34, ht34, h⟩ := Option.bind_eq_some_iff.mp h
  refine xr_new X O cl_X10 (by decide) (xw_t2 31 (by decide +kernel) rfl) (xw_t2 33 (by decide +kernel) rfl) (xw_t1 8 (by decide +kernel) rfl) (by decide) (Nat.le_of_ble_eq_true rfl) (Nat.le_of_ble_eq_true rfl) dX11_init_90 (fun H locs O => ?_)
  rw [Option.some.inj ht34] at O
  refine W.eq (g2 := F0 m 93 ls [.ref (κ.1 + t32.1.length), .int (3 : Int32), .ref (κ.1 + t33)]) rfl ?_
  refine lv_dup hx hb dX11_init_93 rfl ?_
  obtain ⟨t35, ht35, h⟩ := Option.bind_eq_some_iff.mp h
  refine xr_callI (rest := [.ref (κ.1 + t32.1.length), .int (3 : Int32), .ref (κ.1 + t33)]) X O (T_X10_init l κ t32.1.length t34 _ ht35) lk_X11_53 (Nat.le_of_ble_eq_true rfl) rfl hl.1 rfl (Nat.le_of_ble_eq_true rfl) dX11_init_94 ⟨Nat.le_of_ble_eq_true rfl, Nat.le_of_ble_eq_true rfl⟩ (fun H locs O => ?_)
  refine W.eq (g2 := F0 m 97 ls [.ref (κ.1 + t32.1.length), .int (3 : Int32), .ref (κ.1 + t33)]) rfl ?_
  obtain ⟨t36, ht36, h⟩ := Option.bind_eq_some_iff.mp h
  refine xr_stP (t0 := 6) X O ht36 (by simp [xRk]) cl_X10 dX11_init_97 (fun H locs O => ?_)
  refine lv_iinc (v := (4 : Int32)) (lv' := [(1, .int (4 : Int32)), (0, .ref (κ.1 + a0))]) hx hb dX11_init_98 hl (k := 0) rfl (by decide) (by decide) rfl (fun ls hl => ?_)
  refine lv_goto (tgt := 80) hx hb dX11_init_101 (by decide) ?_
  refine lv_iload_n hx hb dX11_init_80 rfl (lv_at hl 0 rfl) ?_
  refine lv_iconst (v := (4 : Int32)) hx hb dX11_init_81 (by decide) ?_
  refine lv_icmp_ge (tgt := 104) hx hb dX11_init_82 (by decide) (fun _ => ?_) (fun hc => absurd (by decide) hc)
  refine lv_aload_n hx hb dX11_init_104 rfl (lv_at hl 1 rfl) ?_
  refine lv_iconst (v := (2 : Int32)) hx hb dX11_init_105 (by decide) ?_
  obtain ⟨t37, ht37, h⟩ := Option.bind_eq_some_iff.mp h
  refine xr_newQ (t := 33) (t0 := 5) (C := RX3) (N := 2) X O (by simp [xRk]) (xw_t1 217 (by decide +kernel) rfl) (X.2.2.2.2.2.2.2.2.2.2.1) (by decide) (by decide) (by decide) (Nat.le_of_ble_eq_true rfl) (Nat.le_of_ble_eq_true rfl) dX11_init_106 (fun H locs O => ?_)
  rw [Option.some.inj ht37] at O
  refine W.eq (g2 := F0 m 109 ls [.ref (κ.1 + t36.1.length), .ref (κ.1 + a0)]) rfl ?_
  obtain ⟨t38, ht38, h⟩ := Option.bind_eq_some_iff.mp h
  refine xr_putP X O ht38 fl_X11_54 (fun _ => ⟨hnm, rfl⟩) dX11_init_109 (fun H locs O => ?_)
  refine lv_aload_n hx hb dX11_init_112 rfl (lv_at hl 1 rfl) ?_
  refine lv_iconst (v := (2 : Int32)) hx hb dX11_init_113 (by decide) ?_
  obtain ⟨t39, ht39, h⟩ := Option.bind_eq_some_iff.mp h
  refine xr_newQ (t := 30) (t0 := 4) (C := RX0) (N := 2) X O (by simp [xRk]) (xw_t1 219 (by decide +kernel) rfl) (X.2.2.2.2.2.2.2.2.2.1) (by decide) (by decide) (by decide) (Nat.le_of_ble_eq_true rfl) (Nat.le_of_ble_eq_true rfl) dX11_init_114 (fun H locs O => ?_)
  rw [Option.some.inj ht39] at O
  refine W.eq (g2 := F0 m 117 ls [.ref (κ.1 + t38.1.length), .ref (κ.1 + a0)]) rfl ?_
  obtain ⟨t40, ht40, h⟩ := Option.bind_eq_some_iff.mp h
  refine xr_putP X O ht40 fl_X11_58 (fun _ => ⟨hnm, rfl⟩) dX11_init_117 (fun H locs O => ?_)
  refine lv_iconst (v := (0 : Int32)) hx hb dX11_init_120 (by decide) ?_
  refine lv_istore_n (lv' := [(1, .int (0 : Int32)), (0, .ref (κ.1 + a0))]) hx hb dX11_init_121 rfl hl (by decide) rfl (fun ls hl => ?_)
  refine lv_iload_n hx hb dX11_init_122 rfl (lv_at hl 0 rfl) ?_
  refine lv_iconst (v := (2 : Int32)) hx hb dX11_init_123 (by decide) ?_
  refine lv_icmp_ge (tgt := 159) hx hb dX11_init_124 (by decide) (fun hc => absurd hc (by decide)) (fun _ => ?_)
  refine lv_aload_n hx hb dX11_init_127 rfl (lv_at hl 1 rfl) ?_
  obtain ⟨t41, ht41, h⟩ := Option.bind_eq_some_iff.mp h
  refine xr_getP X O ht41 fl_X11_54 dX11_init_128 ?_
  refine lv_iload_n hx hb dX11_init_131 rfl (lv_at hl 0 rfl) ?_
  obtain ⟨t42, ht42, h⟩ := Option.bind_eq_some_iff.mp h
  refine xr_new X O cl_X3 (by decide) (xw_t1 217 (by decide +kernel) rfl) (xw_t1 38 (by decide +kernel) rfl) (xw_t1 3 (by decide +kernel) rfl) (by decide) (Nat.le_of_ble_eq_true rfl) (Nat.le_of_ble_eq_true rfl) dX11_init_132 (fun H locs O => ?_)
  rw [Option.some.inj ht42] at O
  refine W.eq (g2 := F0 m 135 ls [.ref (κ.1 + t40.1.length), .int (0 : Int32), .ref (κ.1 + t41)]) rfl ?_
  refine lv_dup hx hb dX11_init_135 rfl ?_
  obtain ⟨t43, ht43, h⟩ := Option.bind_eq_some_iff.mp h
  refine xr_callI (rest := [.ref (κ.1 + t40.1.length), .int (0 : Int32), .ref (κ.1 + t41)]) X O (T_X3_init l κ t40.1.length t42 _ ht43) lk_X11_18 (Nat.le_of_ble_eq_true rfl) rfl hl.1 rfl (Nat.le_of_ble_eq_true rfl) dX11_init_136 ⟨Nat.le_of_ble_eq_true rfl, Nat.le_of_ble_eq_true rfl⟩ (fun H locs O => ?_)
  refine W.eq (g2 := F0 m 139 ls [.ref (κ.1 + t40.1.length), .int (0 : Int32), .ref (κ.1 + t41)]) rfl ?_
  obtain ⟨t44, ht44, h⟩ := Option.bind_eq_some_iff.mp h
  refine xr_stP (t0 := 5) X O ht44 (by simp [xRk]) cl_X3 dX11_init_139 (fun H locs O => ?_)
  refine lv_aload_n hx hb dX11_init_140 rfl (lv_at hl 1 rfl) ?_
  obtain ⟨t45, ht45, h⟩ := Option.bind_eq_some_iff.mp h
  refine xr_getP X O ht45 fl_X11_58 dX11_init_141 ?_
  refine lv_iload_n hx hb dX11_init_144 rfl (lv_at hl 0 rfl) ?_
  obtain ⟨t46, ht46, h⟩ := Option.bind_eq_some_iff.mp h
  refine xr_new X O cl_X0 (by decide) (xw_t1 219 (by decide +kernel) rfl) (xw_t1 135 (by decide +kernel) rfl) (xw_t1 4 (by decide +kernel) rfl) (by decide) (Nat.le_of_ble_eq_true rfl) (Nat.le_of_ble_eq_true rfl) dX11_init_145 (fun H locs O => ?_)
  rw [Option.some.inj ht46] at O
  refine W.eq (g2 := F0 m 148 ls [.ref (κ.1 + t44.1.length), .int (0 : Int32), .ref (κ.1 + t45)]) rfl ?_
  refine lv_dup hx hb dX11_init_148 rfl ?_
  obtain ⟨t47, ht47, h⟩ := Option.bind_eq_some_iff.mp h
  refine xr_callI (rest := [.ref (κ.1 + t44.1.length), .int (0 : Int32), .ref (κ.1 + t45)]) X O (T_X0_init l κ t44.1.length t46 _ ht47) lk_X11_25 (Nat.le_of_ble_eq_true rfl) rfl hl.1 rfl (Nat.le_of_ble_eq_true rfl) dX11_init_149 ⟨Nat.le_of_ble_eq_true rfl, Nat.le_of_ble_eq_true rfl⟩ (fun H locs O => ?_)
  refine W.eq (g2 := F0 m 152 ls [.ref (κ.1 + t44.1.length), .int (0 : Int32), .ref (κ.1 + t45)]) rfl ?_
  obtain ⟨t48, ht48, h⟩ := Option.bind_eq_some_iff.mp h
  refine xr_stP (t0 := 4) X O ht48 (by simp [xRk]) cl_X0 dX11_init_152 (fun H locs O => ?_)
  refine lv_iinc (v := (1 : Int32)) (lv' := [(1, .int (1 : Int32)), (0, .ref (κ.1 + a0))]) hx hb dX11_init_153 hl (k := 0) rfl (by decide) (by decide) rfl (fun ls hl => ?_)
  refine lv_goto (tgt := 122) hx hb dX11_init_156 (by decide) ?_
  refine lv_iload_n hx hb dX11_init_122 rfl (lv_at hl 0 rfl) ?_
  refine lv_iconst (v := (2 : Int32)) hx hb dX11_init_123 (by decide) ?_
  refine lv_icmp_ge (tgt := 159) hx hb dX11_init_124 (by decide) (fun hc => absurd hc (by decide)) (fun _ => ?_)
  refine lv_aload_n hx hb dX11_init_127 rfl (lv_at hl 1 rfl) ?_
  obtain ⟨t49, ht49, h⟩ := Option.bind_eq_some_iff.mp h
  refine xr_getP X O ht49 fl_X11_54 dX11_init_128 ?_
  refine lv_iload_n hx hb dX11_init_131 rfl (lv_at hl 0 rfl) ?_
  obtain ⟨t50, ht50, h⟩ := Option.bind_eq_some_iff.mp h
  refine xr_new X O cl_X3 (by decide) (xw_t1 217 (by decide +kernel) rfl) (xw_t1 38 (by decide +kernel) rfl) (xw_t1 3 (by decide +kernel) rfl) (by decide) (Nat.le_of_ble_eq_true rfl) (Nat.le_of_ble_eq_true rfl) dX11_init_132 (fun H locs O => ?_)
  rw [Option.some.inj ht50] at O
  refine W.eq (g2 := F0 m 135 ls [.ref (κ.1 + t48.1.length), .int (1 : Int32), .ref (κ.1 + t49)]) rfl ?_
  refine lv_dup hx hb dX11_init_135 rfl ?_
  obtain ⟨t51, ht51, h⟩ := Option.bind_eq_some_iff.mp h
  refine xr_callI (rest := [.ref (κ.1 + t48.1.length), .int (1 : Int32), .ref (κ.1 + t49)]) X O (T_X3_init l κ t48.1.length t50 _ ht51) lk_X11_18 (Nat.le_of_ble_eq_true rfl) rfl hl.1 rfl (Nat.le_of_ble_eq_true rfl) dX11_init_136 ⟨Nat.le_of_ble_eq_true rfl, Nat.le_of_ble_eq_true rfl⟩ (fun H locs O => ?_)
  refine W.eq (g2 := F0 m 139 ls [.ref (κ.1 + t48.1.length), .int (1 : Int32), .ref (κ.1 + t49)]) rfl ?_
  obtain ⟨t52, ht52, h⟩ := Option.bind_eq_some_iff.mp h
  refine xr_stP (t0 := 5) X O ht52 (by simp [xRk]) cl_X3 dX11_init_139 (fun H locs O => ?_)
  refine lv_aload_n hx hb dX11_init_140 rfl (lv_at hl 1 rfl) ?_
  obtain ⟨t53, ht53, h⟩ := Option.bind_eq_some_iff.mp h
  refine xr_getP X O ht53 fl_X11_58 dX11_init_141 ?_
  refine lv_iload_n hx hb dX11_init_144 rfl (lv_at hl 0 rfl) ?_
  obtain ⟨t54, ht54, h⟩ := Option.bind_eq_some_iff.mp h
  refine xr_new X O cl_X0 (by decide) (xw_t1 219 (by decide +kernel) rfl) (xw_t1 135 (by decide +kernel) rfl) (xw_t1 4 (by decide +kernel) rfl) (by decide) (Nat.le_of_ble_eq_true rfl) (Nat.le_of_ble_eq_true rfl) dX11_init_145 (fun H locs O => ?_)
  rw [Option.some.inj ht54] at O
  refine W.eq (g2 := F0 m 148 ls [.ref (κ.1 + t52.1.length), .int (1 : Int32), .ref (κ.1 + t53)]) rfl ?_
  refine lv_dup hx hb dX11_init_148 rfl ?_
  obtain ⟨t55, ht55, h⟩ := Option.bind_eq_some_iff.mp h
  refine xr_callI (rest := [.ref (κ.1 + t52.1.length), .int (1 : Int32), .ref (κ.1 + t53)]) X O (T_X0_init l κ t52.1.length t54 _ ht55) lk_X11_25 (Nat.le_of_ble_eq_true rfl) rfl hl.1 rfl (Nat.le_of_ble_eq_true rfl) dX11_init_149 ⟨Nat.le_of_ble_eq_true rfl, Nat.le_of_ble_eq_true rfl⟩ (fun H locs O => ?_)
  refine W.eq (g2 := F0 m 152 ls [.ref (κ.1 + t52.1.length), .int (1 : Int32), .ref (κ.1 + t53)]) rfl ?_
  obtain ⟨t56, ht56, h⟩ := Option.bind_eq_some_iff.mp h
  refine xr_stP (t0 := 4) X O ht56 (by simp [xRk]) cl_X0 dX11_init_152 (fun H locs O => ?_)
  refine lv_iinc (v := (2 : Int32)) (lv' := [(1, .int (2 : Int32)), (0, .ref (κ.1 + a0))]) hx hb dX11_init_153 hl (k := 0) rfl (by decide) (by decide) rfl (fun ls hl => ?_)
  refine lv_goto (tgt := 122) hx hb dX11_init_156 (by decide) ?_
  refine lv_iload_n hx hb dX11_init_122 rfl (lv_at hl 0 rfl) ?_
  refine lv_iconst (v := (2 : Int32)) hx hb dX11_init_123 (by decide) ?_
  refine lv_icmp_ge (tgt := 159) hx hb dX11_init_124 (by decide) (fun _ => ?_) (fun hc => absurd (by decide) hc)
  refine lv_aload_n hx hb dX11_init_159 rfl (lv_at hl 1 rfl) ?_
  obtain ⟨t57, ht57, h⟩ := Option.bind_eq_some_iff.mp h
  refine xr_new X O cl_X1 (by decide) (xw_t2 52 (by decide +kernel) rfl) (xw_t2 53 (by decide +kernel) rfl) (xw_t1 9 (by decide +kernel) rfl) (by decide) (Nat.le_of_ble_eq_true rfl) (Nat.le_of_ble_eq_true rfl) dX11_init_160 (fun H locs O => ?_)
  rw [Option.some.inj ht57] at O
  refine W.eq (g2 := F0 m 163 ls [.ref (κ.1 + t56.1.length), .ref (κ.1 + a0)]) rfl ?_
  refine lv_dup hx hb dX11_init_163 rfl ?_
  obtain ⟨t58, ht58, h⟩ := Option.bind_eq_some_iff.mp h
  refine xr_callI (rest := [.ref (κ.1 + t56.1.length), .ref (κ.1 + a0)]) X O (T_X1_init l κ t56.1.length t57 _ ht58) lk_X11_64 (Nat.le_of_ble_eq_true rfl) rfl hl.1 rfl (Nat.le_of_ble_eq_true rfl) dX11_init_164 ⟨Nat.le_of_ble_eq_true rfl, Nat.le_of_ble_eq_true rfl⟩ (fun H locs O => ?_)
  refine W.eq (g2 := F0 m 167 ls [.ref (κ.1 + t56.1.length), .ref (κ.1 + a0)]) rfl ?_
  obtain ⟨t59, ht59, h⟩ := Option.bind_eq_some_iff.mp h
  refine xr_putP X O ht59 fl_X11_65 (fun _ => ⟨hnm, rfl⟩) dX11_init_167 (fun H locs O => ?_)
  refine lv_aload_n hx hb dX11_init_170 rfl (lv_at hl 1 rfl) ?_
  obtain ⟨t60, ht60, h⟩ := Option.bind_eq_some_iff.mp h
  refine xr_new X O cl_X6 (by decide) (xw_t2 77 (by decide +kernel) rfl) (xw_t2 78 (by decide +kernel) rfl) (xw_t1 10 (by decide +kernel) rfl) (by decide) (Nat.le_of_ble_eq_true rfl) (Nat.le_of_ble_eq_true rfl) dX11_init_171 (fun H locs O => ?_)
  rw [Option.some.inj ht60] at O
  refine W.eq (g2 := F0 m 174 ls [.ref (κ.1 + t59.1.length), .ref (κ.1 + a0)]) rfl ?_
  refine lv_dup hx hb dX11_init_174 rfl ?_
  obtain ⟨t61, ht61, h⟩ := Option.bind_eq_some_iff.mp h
  refine xr_callI (rest := [.ref (κ.1 + t59.1.length), .ref (κ.1 + a0)]) X O (T_X6_init l κ t59.1.length t60 _ ht61) lk_X11_71 (Nat.le_of_ble_eq_true rfl) rfl hl.1 rfl (Nat.le_of_ble_eq_true rfl) dX11_init_175 ⟨Nat.le_of_ble_eq_true rfl, Nat.le_of_ble_eq_true rfl⟩ (fun H locs O => ?_)
  refine W.eq (g2 := F0 m 178 ls [.ref (κ.1 + t59.1.length), .ref (κ.1 + a0)]) rfl ?_
  obtain ⟨t62, ht62, h⟩ := Option.bind_eq_some_iff.mp h
  refine xr_putP X O ht62 fl_X11_72 (fun _ => ⟨hnm, rfl⟩) dX11_init_178 (fun H locs O => ?_)
  refine lv_aload_n hx hb dX11_init_181 rfl (lv_at hl 1 rfl) ?_
  obtain ⟨t63, ht63, h⟩ := Option.bind_eq_some_iff.mp h
  refine xr_new X O cl_X9 (by decide) (xw_t2 88 (by decide +kernel) rfl) (xw_t2 89 (by decide +kernel) rfl) (xw_t1 11 (by decide +kernel) rfl) (by decide) (Nat.le_of_ble_eq_true rfl) (Nat.le_of_ble_eq_true rfl) dX11_init_182 (fun H locs O => ?_)
  rw [Option.some.inj ht63] at O
  refine W.eq (g2 := F0 m 185 ls [.ref (κ.1 + t62.1.length), .ref (κ.1 + a0)]) rfl ?_
  refine lv_dup hx hb dX11_init_185 rfl ?_
  obtain ⟨t64, ht64, h⟩ := Option.bind_eq_some_iff.mp h
  refine xr_callI (rest := [.ref (κ.1 + t62.1.length), .ref (κ.1 + a0)]) X O (T_X9_init l κ t62.1.length t63 _ ht64) lk_X11_78 (Nat.le_of_ble_eq_true rfl) rfl hl.1 rfl (Nat.le_of_ble_eq_true rfl) dX11_init_186 ⟨Nat.le_of_ble_eq_true rfl, Nat.le_of_ble_eq_true rfl⟩ (fun H locs O => ?_)
  refine W.eq (g2 := F0 m 189 ls [.ref (κ.1 + t62.1.length), .ref (κ.1 + a0)]) rfl ?_
  obtain ⟨t65, ht65, h⟩ := Option.bind_eq_some_iff.mp h
  refine xr_putP X O ht65 fl_X11_79 (fun _ => ⟨hnm, rfl⟩) dX11_init_189 (fun H locs O => ?_)
  refine lv_aload_n hx hb dX11_init_192 rfl (lv_at hl 1 rfl) ?_
  obtain ⟨t66, ht66, h⟩ := Option.bind_eq_some_iff.mp h
  refine xr_callS (rest := [.ref (κ.1 + a0)]) X O (T_X11_rowWorths l κ  t65 _ _ ht66) lk_X11_83 (Nat.le_of_ble_eq_true rfl) rfl hl.1 rfl (Nat.le_of_ble_eq_true rfl) dX11_init_193 ⟨Nat.le_of_ble_eq_true rfl, Nat.le_of_ble_eq_true rfl⟩ (fun H locs O => ?_)
  refine W.eq (g2 := F0 m 196 ls [.ref (κ.1 + t66.1), .ref (κ.1 + a0)]) rfl ?_
  obtain ⟨t67, ht67, h⟩ := Option.bind_eq_some_iff.mp h
  refine xr_putP X O ht67 fl_X11_87 (fun _ => ⟨hnm, rfl⟩) dX11_init_196 (fun H locs O => ?_)
  refine lv_aload_n hx hb dX11_init_199 rfl (lv_at hl 1 rfl) ?_
  obtain ⟨t68, ht68, h⟩ := Option.bind_eq_some_iff.mp h
  refine xr_new X O cl_X2 (by decide) (xw_t2 109 (by decide +kernel) rfl) (xw_t2 110 (by decide +kernel) rfl) (xw_t1 13 (by decide +kernel) rfl) (by decide) (Nat.le_of_ble_eq_true rfl) (Nat.le_of_ble_eq_true rfl) dX11_init_200 (fun H locs O => ?_)
  rw [Option.some.inj ht68] at O
  refine W.eq (g2 := F0 m 203 ls [.ref (κ.1 + t67.1.length), .ref (κ.1 + a0)]) rfl ?_
  refine lv_dup hx hb dX11_init_203 rfl ?_
  obtain ⟨t69, ht69, h⟩ := Option.bind_eq_some_iff.mp h
  refine xr_callI (rest := [.ref (κ.1 + t67.1.length), .ref (κ.1 + a0)]) X O (T_X2_init l κ t67.1.length t68 _ ht69) lk_X11_93 (Nat.le_of_ble_eq_true rfl) rfl hl.1 rfl (Nat.le_of_ble_eq_true rfl) dX11_init_204 ⟨Nat.le_of_ble_eq_true rfl, Nat.le_of_ble_eq_true rfl⟩ (fun H locs O => ?_)
  refine W.eq (g2 := F0 m 207 ls [.ref (κ.1 + t67.1.length), .ref (κ.1 + a0)]) rfl ?_
  obtain ⟨t70, ht70, h⟩ := Option.bind_eq_some_iff.mp h
  refine xr_putP X O ht70 fl_X11_94 (fun _ => ⟨hnm, rfl⟩) dX11_init_207 (fun H locs O => ?_)
  rw [← Option.some.inj h] at hK
  have hK : t70 = mo := hK
  rw [hK] at O
  exact xr_vret X hr hlk O dX11_init_210
end G
