section G
variable {p : Program} {l : Launch} {e : Env} {s : State} {m : MethodId} {args : Array Value} {below : List Frame} {meth : Method} {c : Code} {κ : xQ}
def F_X11_judge_70 (v0 : Nat) (v1 : Int32) (v2 : Int32) (v4 : Int32) (s0 : Int32) (M : xM) : Option (Int32 × xM) :=
if v2 = (0 : Int32) then (
if s0 = 0 then (
some (v4, M))
else (
some ((-1 : Int32), M)))
else if v2 = (1 : Int32) then (
if s0 = 0 then (
(xgP M v0 11 5).bind fun t15 =>
(xgP M v0 11 2).bind fun t16 =>
(xgP M v0 11 4).bind fun t17 =>
(xgP M v0 11 7).bind fun t18 =>
(xaP M 40 t18 v1).bind fun t19 =>
(xgP M t19 10 2).bind fun t20 =>
(xaJ M t20 v4).bind fun t21 =>
(xck M t15 8).bind fun _ =>
(F_X8_attempt t15 t16 t17 t21 M).bind fun t23 =>
some (t23.1, t23.2))
else (
some ((0 : Int32), M)))
else if v2 = (2 : Int32) then (
(xgP M v0 11 4).bind fun t24 =>
(xgP M v0 11 2).bind fun t25 =>
(xck M t25 3).bind fun _ =>
(F_X3_cells t25 M).bind fun t27 =>
(xck t27.2 t24 0).bind fun _ =>
(F_X0_sandInAll t24 t27.1 t27.2).bind fun t29 =>
some (t29.1, t29.2))
else (
(xgP M v0 11 4).bind fun t30 =>
(xgI M t30 0 4).bind fun t31 =>
some (t31, M))
def F_X11_judge (a0 : Nat) (a1 : Int32) (a2 : Int32) (M : xM) : Option (Int32 × xM) :=
if a2 < 0 then (
some ((-2 : Int32), M))
else (
if a2 ≤ (3 : Int32) then (
(xck M a0 11).bind fun _ =>
(F_X11_refusedTray a0 a1 M).bind fun t2 =>
if t2.1 = 0 then (
(xgP t2.2 a0 11 4).bind fun t3 =>
(xgP t2.2 a0 11 3).bind fun t4 =>
(xck t2.2 t3 0).bind fun _ =>
(F_X0_take t3 t4 t2.2).bind fun t6 =>
(xgP t6 a0 11 7).bind fun t7 =>
(xaP t6 40 t7 a1).bind fun t8 =>
(xgP t6 a0 11 4).bind fun t9 =>
(xck t6 a0 11).bind fun _ =>
(F_X11_doDeeds a0 t8 t9 t6).bind fun t11 =>
(xgP t11.2 a0 11 7).bind fun t12 =>
(xaP t11.2 40 t12 a1).bind fun t13 =>
(xgI t11.2 t13 10 0).bind fun t14 =>
if t11.1 = t14 then (
F_X11_judge_70 a0 a1 a2 t11.1 (1 : Int32) t11.2)
else (
F_X11_judge_70 a0 a1 a2 t11.1 (0 : Int32) t11.2))
else (
some (t2.1, t2.2)))
else (
some ((-2 : Int32), M)))
set_option maxRecDepth 100000 in
set_option maxHeartbeats 4000000 in
theorem F_X11_judge_70_ok (X : xX p s m args c cX11_judge 6 RX11 κ) (hr : meth.sig.returnType = (some .int)) (hlk : meth.locks = false) {ro : Int32} {mo : xM} (v0 : Nat) (v1 : Int32) (v2 : Int32) (v4 : Int32) (s0 : Int32) (M : xM) (x : Int32 × xM) (h : F_X11_judge_70 v0 v1 v2 v4 s0 M = some x) (hK : (fun o => o = (ro, mo)) x) (H : Heap) (locs : List Loc) (ls : Array Slot) (O : xO κ s M H locs) (hl : lv_has ls 6 [(0, .ref (κ.1 + v0)), (1, .int v1), (2, .int v2), (4, .int v4)]) : W p l e (xRm 9 0 0) s m args below meth c H locs 0 0 (xQf below args s 0 0 κ (some (.int ro)) mo) (F0 m 70 ls [.int s0]) := by
  unfold F_X11_judge_70 at h
  have hx := X.1
  have hb := X.2.1
  refine lv_istore (lv' := [(5, .int s0), (0, .ref (κ.1 + v0)), (1, .int v1), (2, .int v2), (4, .int v4)]) hx hb dX11_judge_70 hl (by decide) rfl (fun ls hl => ?_)
  refine lv_iload_n hx hb dX11_judge_72 rfl (lv_at hl 3 rfl) ?_
  by_cases hs73_0 : v2 = (0 : Int32)
  · rw [if_pos hs73_0] at h
    refine xr_tabIn (tgt := 100) (off := 27) X dX11_judge_73 hs73_0 (by decide +kernel) (by decide +kernel) (by decide +kernel) (by decide) ?_
    refine lv_iload hx hb dX11_judge_100 (lv_at hl 0 rfl) ?_
    refine lv_if_eq (tgt := 109) hx hb dX11_judge_102 (by decide) (fun hc102 => ?_) (fun hc102 => ?_)
    · rw [if_pos hc102] at h
      refine lv_iload hx hb dX11_judge_109 (lv_at hl 4 rfl) ?_
      rw [← Option.some.inj h] at hK
      have hK : (v4, M) = (ro, mo) := hK
      obtain ⟨hK1, hK2⟩ := Prod.mk.inj hK
      rw [hK2] at O
      refine xr_top (w := .int ro) (by rw [hK1]) ?_
      exact xr_iret X hr hlk O dX11_judge_111
    rw [if_neg hc102] at h
    refine lv_iconst (v := (-1 : Int32)) hx hb dX11_judge_105 (by decide) ?_
    refine lv_goto (tgt := 111) hx hb dX11_judge_106 (by decide) ?_
    rw [← Option.some.inj h] at hK
    have hK : ((-1 : Int32), M) = (ro, mo) := hK
    obtain ⟨hK1, hK2⟩ := Prod.mk.inj hK
    rw [hK2] at O
    refine xr_top (w := .int ro) (by rw [hK1]) ?_
    exact xr_iret X hr hlk O dX11_judge_111
  rw [if_neg hs73_0] at h
  by_cases hs73_1 : v2 = (1 : Int32)
  · rw [if_pos hs73_1] at h
    refine xr_tabIn (tgt := 112) (off := 39) X dX11_judge_73 hs73_1 (by decide +kernel) (by decide +kernel) (by decide +kernel) (by decide) ?_
    refine lv_iload hx hb dX11_judge_112 (lv_at hl 0 rfl) ?_
    refine lv_if_eq (tgt := 121) hx hb dX11_judge_114 (by decide) (fun hc114 => ?_) (fun hc114 => ?_)
    · rw [if_pos hc114] at h
      refine lv_aload_n hx hb dX11_judge_121 rfl (lv_at hl 1 rfl) ?_
      obtain ⟨t15, ht15, h⟩ := Option.bind_eq_some_iff.mp h
      refine xr_getP X O ht15 fl_X11_36 dX11_judge_122 ?_
      refine lv_aload_n hx hb dX11_judge_125 rfl (lv_at hl 1 rfl) ?_
      obtain ⟨t16, ht16, h⟩ := Option.bind_eq_some_iff.mp h
      refine xr_getP X O ht16 fl_X11_19 dX11_judge_126 ?_
      refine lv_aload_n hx hb dX11_judge_129 rfl (lv_at hl 1 rfl) ?_
      obtain ⟨t17, ht17, h⟩ := Option.bind_eq_some_iff.mp h
      refine xr_getP X O ht17 fl_X11_30 dX11_judge_130 ?_
      refine lv_aload_n hx hb dX11_judge_133 rfl (lv_at hl 1 rfl) ?_
      obtain ⟨t18, ht18, h⟩ := Option.bind_eq_some_iff.mp h
      refine xr_getP X O ht18 fl_X11_49 dX11_judge_134 ?_
      refine lv_iload_n hx hb dX11_judge_137 rfl (lv_at hl 2 rfl) ?_
      obtain ⟨t19, ht19, h⟩ := Option.bind_eq_some_iff.mp h
      refine xr_aldP (t0 := 6) (C := RX10) X O ht19 (by simp [xRk]) dX11_judge_138 ?_
      obtain ⟨t20, ht20, h⟩ := Option.bind_eq_some_iff.mp h
      refine xr_getP X O ht20 fl_X11_233 dX11_judge_139 ?_
      refine lv_iload hx hb dX11_judge_142 (lv_at hl 4 rfl) ?_
      obtain ⟨t21, ht21, h⟩ := Option.bind_eq_some_iff.mp h
      refine xr_aldJ X O ht21 dX11_judge_144 ?_
      obtain ⟨_, hut22, h⟩ := Option.bind_eq_some_iff.mp h
      obtain ⟨t23, ht23, h⟩ := Option.bind_eq_some_iff.mp h
      refine xr_callV (rest := []) X O (T_X8_attempt l κ t15 t16 t17 t21 M _ _ ht23) lk_X11_237 hut22 (Nat.le_of_ble_eq_true rfl) rfl hl.1 rfl (Nat.le_of_ble_eq_true rfl) dX11_judge_145 ⟨Nat.le_of_ble_eq_true rfl, Nat.le_of_ble_eq_true rfl⟩ (fun H locs O => ?_)
      refine W.eq (g2 := F0 m 148 ls [.int t23.1]) rfl ?_
      rw [← Option.some.inj h] at hK
      have hK : (t23.1, t23.2) = (ro, mo) := hK
      obtain ⟨hK1, hK2⟩ := Prod.mk.inj hK
      rw [hK2] at O
      refine xr_top (w := .int ro) (by rw [hK1]) ?_
      exact xr_iret X hr hlk O dX11_judge_148
    rw [if_neg hc114] at h
    refine lv_iconst (v := (0 : Int32)) hx hb dX11_judge_117 (by decide) ?_
    refine lv_goto (tgt := 148) hx hb dX11_judge_118 (by decide) ?_
    rw [← Option.some.inj h] at hK
    have hK : ((0 : Int32), M) = (ro, mo) := hK
    obtain ⟨hK1, hK2⟩ := Prod.mk.inj hK
    rw [hK2] at O
    refine xr_top (w := .int ro) (by rw [hK1]) ?_
    exact xr_iret X hr hlk O dX11_judge_148
  rw [if_neg hs73_1] at h
  by_cases hs73_2 : v2 = (2 : Int32)
  · rw [if_pos hs73_2] at h
    refine xr_tabIn (tgt := 149) (off := 76) X dX11_judge_73 hs73_2 (by decide +kernel) (by decide +kernel) (by decide +kernel) (by decide) ?_
    refine lv_aload_n hx hb dX11_judge_149 rfl (lv_at hl 1 rfl) ?_
    obtain ⟨t24, ht24, h⟩ := Option.bind_eq_some_iff.mp h
    refine xr_getP X O ht24 fl_X11_30 dX11_judge_150 ?_
    refine lv_aload_n hx hb dX11_judge_153 rfl (lv_at hl 1 rfl) ?_
    obtain ⟨t25, ht25, h⟩ := Option.bind_eq_some_iff.mp h
    refine xr_getP X O ht25 fl_X11_19 dX11_judge_154 ?_
    obtain ⟨_, hut26, h⟩ := Option.bind_eq_some_iff.mp h
    obtain ⟨t27, ht27, h⟩ := Option.bind_eq_some_iff.mp h
    refine xr_callV (rest := [.ref (κ.1 + t24)]) X O (T_X3_cells l κ t25 M _ _ ht27) lk_X11_194 hut26 (Nat.le_of_ble_eq_true rfl) rfl hl.1 rfl (Nat.le_of_ble_eq_true rfl) dX11_judge_157 ⟨Nat.le_of_ble_eq_true rfl, Nat.le_of_ble_eq_true rfl⟩ (fun H locs O => ?_)
    refine W.eq (g2 := F0 m 160 ls [.int t27.1, .ref (κ.1 + t24)]) rfl ?_
    obtain ⟨_, hut28, h⟩ := Option.bind_eq_some_iff.mp h
    obtain ⟨t29, ht29, h⟩ := Option.bind_eq_some_iff.mp h
    refine xr_callV (rest := []) X O (T_X0_sandInAll l κ t24 t27.1 t27.2 _ _ ht29) lk_X11_241 hut28 (Nat.le_of_ble_eq_true rfl) rfl hl.1 rfl (Nat.le_of_ble_eq_true rfl) dX11_judge_160 ⟨Nat.le_of_ble_eq_true rfl, Nat.le_of_ble_eq_true rfl⟩ (fun H locs O => ?_)
    refine W.eq (g2 := F0 m 163 ls [.int t29.1]) rfl ?_
    rw [← Option.some.inj h] at hK
    have hK : (t29.1, t29.2) = (ro, mo) := hK
    obtain ⟨hK1, hK2⟩ := Prod.mk.inj hK
    rw [hK2] at O
    refine xr_top (w := .int ro) (by rw [hK1]) ?_
    exact xr_iret X hr hlk O dX11_judge_163
  rw [if_neg hs73_2] at h
  have ihs73_0 := xr_nei (k := 0) (by decide) hs73_0
  have ihs73_1 := xr_nei (k := 1) (by decide) hs73_1
  have ihs73_2 := xr_nei (k := 2) (by decide) hs73_2
  refine lv_tableOut (tgt := 164) hx hb dX11_judge_73 (by omega) (by decide) ?_
  refine lv_aload_n hx hb dX11_judge_164 rfl (lv_at hl 1 rfl) ?_
  obtain ⟨t30, ht30, h⟩ := Option.bind_eq_some_iff.mp h
  refine xr_getP X O ht30 fl_X11_30 dX11_judge_165 ?_
  obtain ⟨t31, ht31, h⟩ := Option.bind_eq_some_iff.mp h
  refine xr_getI X O ht31 fl_X11_148 (Or.inl rfl) dX11_judge_168 ?_
  rw [← Option.some.inj h] at hK
  have hK : (t31, M) = (ro, mo) := hK
  obtain ⟨hK1, hK2⟩ := Prod.mk.inj hK
  rw [hK2] at O
  refine xr_top (w := .int ro) (by rw [hK1]) ?_
  exact xr_iret X hr hlk O dX11_judge_171
set_option maxRecDepth 100000 in
set_option maxHeartbeats 4000000 in
theorem T_X11_judge (l : Launch) (κ : xQ) (a0 : Nat) (a1 : Int32) (a2 : Int32) (M : xM) (ro : Int32) (mo : xM) (h : F_X11_judge a0 a1 a2 M = some (ro, mo)) : xC l yX11_judge cX11_judge 6 (some .int) 9 0 0 κ [.ref (κ.1 + a0), .int a1, .int a2] M (some (.int ro)) mo := by
  refine xC_of rfl (Nat.le_of_ble_eq_true rfl) fun p e s m args below meth c X hr hlk hnm H locs ls O hl => ?_
  have X : xX p s m args c cX11_judge 6 RX11 κ := X
  have hl : lv_has ls 6 [(0, .ref (κ.1 + a0)), (1, .int a1), (2, .int a2)] := hl
  have hx := X.1
  have hb := X.2.1
  obtain ⟨x, hx0⟩ : ∃ x, (ro, mo) = x := ⟨_, rfl⟩
  rw [hx0] at h
  have hK : x = (ro, mo) := hx0.symm
  unfold F_X11_judge at h
  refine lv_iload_n hx hb dX11_judge_0 rfl (lv_at hl 2 rfl) ?_
  refine lv_if_lt (tgt := 9) hx hb dX11_judge_1 (by decide) (fun hc1 => ?_) (fun hc1 => ?_)
  · rw [if_pos hc1] at h
    refine lv_bipush (v := (-2 : Int32)) hx hb dX11_judge_9 (by decide) ?_
    rw [← Option.some.inj h] at hK
    have hK : ((-2 : Int32), M) = (ro, mo) := hK
    obtain ⟨hK1, hK2⟩ := Prod.mk.inj hK
    rw [hK2] at O
    refine xr_top (w := .int ro) (by rw [hK1]) ?_
    exact xr_iret X hr hlk O dX11_judge_11
  rw [if_neg hc1] at h
  refine lv_iload_n hx hb dX11_judge_4 rfl (lv_at hl 2 rfl) ?_
  refine lv_iconst (v := (3 : Int32)) hx hb dX11_judge_5 (by decide) ?_
  refine lv_icmp_le (tgt := 12) hx hb dX11_judge_6 (by decide) (fun hc6 => ?_) (fun hc6 => ?_)
  · rw [if_pos hc6] at h
    refine lv_aload_n hx hb dX11_judge_12 rfl (lv_at hl 0 rfl) ?_
    refine lv_iload_n hx hb dX11_judge_13 rfl (lv_at hl 1 rfl) ?_
    obtain ⟨_, hut1, h⟩ := Option.bind_eq_some_iff.mp h
    obtain ⟨t2, ht2, h⟩ := Option.bind_eq_some_iff.mp h
    refine xr_callV (rest := []) X O (T_X11_refusedTray l κ a0 a1 M _ _ ht2) lk_X11_225 hut1 (Nat.le_of_ble_eq_true rfl) rfl hl.1 rfl (Nat.le_of_ble_eq_true rfl) dX11_judge_14 ⟨Nat.le_of_ble_eq_true rfl, Nat.le_of_ble_eq_true rfl⟩ (fun H locs O => ?_)
    refine W.eq (g2 := F0 m 17 ls [.int t2.1]) rfl ?_
    refine lv_istore_n (lv' := [(3, .int t2.1), (0, .ref (κ.1 + a0)), (1, .int a1), (2, .int a2)]) hx hb dX11_judge_17 rfl hl (by decide) rfl (fun ls hl => ?_)
    refine lv_iload_n hx hb dX11_judge_18 rfl (lv_at hl 0 rfl) ?_
    refine lv_if_eq (tgt := 24) hx hb dX11_judge_19 (by decide) (fun hc19 => ?_) (fun hc19 => ?_)
    · rw [if_pos hc19] at h
      refine lv_aload_n hx hb dX11_judge_24 rfl (lv_at hl 1 rfl) ?_
      obtain ⟨t3, ht3, h⟩ := Option.bind_eq_some_iff.mp h
      refine xr_getP X O ht3 fl_X11_30 dX11_judge_25 ?_
      refine lv_aload_n hx hb dX11_judge_28 rfl (lv_at hl 1 rfl) ?_
      obtain ⟨t4, ht4, h⟩ := Option.bind_eq_some_iff.mp h
      refine xr_getP X O ht4 fl_X11_26 dX11_judge_29 ?_
      obtain ⟨_, hut5, h⟩ := Option.bind_eq_some_iff.mp h
      obtain ⟨t6, ht6, h⟩ := Option.bind_eq_some_iff.mp h
      refine xr_callV (rest := []) X O (T_X0_take l κ t3 t4 t2.2 _ ht6) lk_X11_121 hut5 (Nat.le_of_ble_eq_true rfl) rfl hl.1 rfl (Nat.le_of_ble_eq_true rfl) dX11_judge_32 ⟨Nat.le_of_ble_eq_true rfl, Nat.le_of_ble_eq_true rfl⟩ (fun H locs O => ?_)
      refine W.eq (g2 := F0 m 35 ls []) rfl ?_
      refine lv_aload_n hx hb dX11_judge_35 rfl (lv_at hl 1 rfl) ?_
      refine lv_aload_n hx hb dX11_judge_36 rfl (lv_at hl 1 rfl) ?_
      obtain ⟨t7, ht7, h⟩ := Option.bind_eq_some_iff.mp h
      refine xr_getP X O ht7 fl_X11_49 dX11_judge_37 ?_
      refine lv_iload_n hx hb dX11_judge_40 rfl (lv_at hl 2 rfl) ?_
      obtain ⟨t8, ht8, h⟩ := Option.bind_eq_some_iff.mp h
      refine xr_aldP (t0 := 6) (C := RX10) X O ht8 (by simp [xRk]) dX11_judge_41 ?_
      refine lv_aload_n hx hb dX11_judge_42 rfl (lv_at hl 1 rfl) ?_
      obtain ⟨t9, ht9, h⟩ := Option.bind_eq_some_iff.mp h
      refine xr_getP X O ht9 fl_X11_30 dX11_judge_43 ?_
      obtain ⟨_, hut10, h⟩ := Option.bind_eq_some_iff.mp h
      obtain ⟨t11, ht11, h⟩ := Option.bind_eq_some_iff.mp h
      refine xr_callV (rest := []) X O (T_X11_doDeeds l κ a0 t8 t9 t6 _ _ ht11) lk_X11_228 hut10 (Nat.le_of_ble_eq_true rfl) rfl hl.1 rfl (Nat.le_of_ble_eq_true rfl) dX11_judge_46 ⟨Nat.le_of_ble_eq_true rfl, Nat.le_of_ble_eq_true rfl⟩ (fun H locs O => ?_)
      refine W.eq (g2 := F0 m 49 ls [.int t11.1]) rfl ?_
      refine lv_istore (lv' := [(4, .int t11.1), (3, .int t2.1), (0, .ref (κ.1 + a0)), (1, .int a1), (2, .int a2)]) hx hb dX11_judge_49 hl (by decide) rfl (fun ls hl => ?_)
      refine lv_iload hx hb dX11_judge_51 (lv_at hl 0 rfl) ?_
      refine lv_aload_n hx hb dX11_judge_53 rfl (lv_at hl 2 rfl) ?_
      obtain ⟨t12, ht12, h⟩ := Option.bind_eq_some_iff.mp h
      refine xr_getP X O ht12 fl_X11_49 dX11_judge_54 ?_
      refine lv_iload_n hx hb dX11_judge_57 rfl (lv_at hl 3 rfl) ?_
      obtain ⟨t13, ht13, h⟩ := Option.bind_eq_some_iff.mp h
      refine xr_aldP (t0 := 6) (C := RX10) X O ht13 (by simp [xRk]) dX11_judge_58 ?_
      obtain ⟨t14, ht14, h⟩ := Option.bind_eq_some_iff.mp h
      refine xr_getI X O ht14 fl_X11_232 (Or.inl rfl) dX11_judge_59 ?_
      refine lv_icmp_ne (tgt := 69) hx hb dX11_judge_62 (by decide) (fun hc62 => ?_) (fun hc62 => ?_)
      · rw [if_neg hc62] at h
        refine lv_iconst (v := (0 : Int32)) hx hb dX11_judge_69 (by decide) ?_
        exact F_X11_judge_70_ok X hr hlk a0 a1 a2 t11.1 (0 : Int32) t11.2 _ h hK H locs ls O (lv_sub hl [2, 3, 4, 0] rfl)
      rw [if_pos hc62] at h
      refine lv_iconst (v := (1 : Int32)) hx hb dX11_judge_65 (by decide) ?_
      refine lv_goto (tgt := 70) hx hb dX11_judge_66 (by decide) ?_
      exact F_X11_judge_70_ok X hr hlk a0 a1 a2 t11.1 (1 : Int32) t11.2 _ h hK H locs ls O (lv_sub hl [2, 3, 4, 0] rfl)
    rw [if_neg hc19] at h
    refine lv_iload_n hx hb dX11_judge_22 rfl (lv_at hl 0 rfl) ?_
    rw [← Option.some.inj h] at hK
    have hK : (t2.1, t2.2) = (ro, mo) := hK
    obtain ⟨hK1, hK2⟩ := Prod.mk.inj hK
    rw [hK2] at O
    refine xr_top (w := .int ro) (by rw [hK1]) ?_
    exact xr_iret X hr hlk O dX11_judge_23
  rw [if_neg hc6] at h
  refine lv_bipush (v := (-2 : Int32)) hx hb dX11_judge_9 (by decide) ?_
  rw [← Option.some.inj h] at hK
  have hK : ((-2 : Int32), M) = (ro, mo) := hK
  obtain ⟨hK1, hK2⟩ := Prod.mk.inj hK
  rw [hK2] at O
  refine xr_top (w := .int ro) (by rw [hK1]) ?_
  exact xr_iret X hr hlk O dX11_judge_11
def F_X11_confirmedIfAny (a0 : Nat) (a1 : Int32) (M : xM) : Option (Int32 × xM) :=
if a1 ≤ 0 then (
some (a1, M))
else (
(xck M a0 11).bind fun _ =>
(F_X11_confirmed a0 a1 M).bind fun t2 =>
some (t2.1, t2.2))
set_option maxRecDepth 100000 in
set_option maxHeartbeats 4000000 in
theorem T_X11_confirmedIfAny (l : Launch) (κ : xQ) (a0 : Nat) (a1 : Int32) (M : xM) (ro : Int32) (mo : xM) (h : F_X11_confirmedIfAny a0 a1 M = some (ro, mo)) : xC l yX11_confirmedIfAny cX11_confirmedIfAny 2 (some .int) 5 0 0 κ [.ref (κ.1 + a0), .int a1] M (some (.int ro)) mo := by
  refine xC_of rfl (Nat.le_of_ble_eq_true rfl) fun p e s m args below meth c X hr hlk hnm H locs ls O hl => ?_
  have X : xX p s m args c cX11_confirmedIfAny 2 RX11 κ := X
  have hl : lv_has ls 2 [(0, .ref (κ.1 + a0)), (1, .int a1)] := hl
  have hx := X.1
  have hb := X.2.1
  obtain ⟨x, hx0⟩ : ∃ x, (ro, mo) = x := ⟨_, rfl⟩
  rw [hx0] at h
  have hK : x = (ro, mo) := hx0.symm
  unfold F_X11_confirmedIfAny at h
  refine lv_iload_n hx hb dX11_confirmedIfAny_0 rfl (lv_at hl 1 rfl) ?_
  refine lv_if_le (tgt := 12) hx hb dX11_confirmedIfAny_1 (by decide) (fun hc1 => ?_) (fun hc1 => ?_)
  · rw [if_pos hc1] at h
    refine lv_iload_n hx hb dX11_confirmedIfAny_12 rfl (lv_at hl 1 rfl) ?_
    rw [← Option.some.inj h] at hK
    have hK : (a1, M) = (ro, mo) := hK
    obtain ⟨hK1, hK2⟩ := Prod.mk.inj hK
    rw [hK2] at O
    refine xr_top (w := .int ro) (by rw [hK1]) ?_
    exact xr_iret X hr hlk O dX11_confirmedIfAny_13
  rw [if_neg hc1] at h
  refine lv_aload_n hx hb dX11_confirmedIfAny_4 rfl (lv_at hl 0 rfl) ?_
  refine lv_iload_n hx hb dX11_confirmedIfAny_5 rfl (lv_at hl 1 rfl) ?_
  obtain ⟨_, hut1, h⟩ := Option.bind_eq_some_iff.mp h
  obtain ⟨t2, ht2, h⟩ := Option.bind_eq_some_iff.mp h
  refine xr_callV (rest := []) X O (T_X11_confirmed l κ a0 a1 M _ _ ht2) lk_X11_202 hut1 (Nat.le_of_ble_eq_true rfl) rfl hl.1 rfl (Nat.le_of_ble_eq_true rfl) dX11_confirmedIfAny_6 ⟨Nat.le_of_ble_eq_true rfl, Nat.le_of_ble_eq_true rfl⟩ (fun H locs O => ?_)
  refine W.eq (g2 := F0 m 9 ls [.int t2.1]) rfl ?_
  refine lv_goto (tgt := 13) hx hb dX11_confirmedIfAny_9 (by decide) ?_
  rw [← Option.some.inj h] at hK
  have hK : (t2.1, t2.2) = (ro, mo) := hK
  obtain ⟨hK1, hK2⟩ := Prod.mk.inj hK
  rw [hK2] at O
  refine xr_top (w := .int ro) (by rw [hK1]) ?_
  exact xr_iret X hr hlk O dX11_confirmedIfAny_13
def F_X11_perform (a0 : Nat) (a1 : Int32) (M : xM) : Option (Int32 × xM) :=
(xck M a0 11).bind fun _ =>
(F_X11_refusedTray a0 a1 M).bind fun t2 =>
if t2.1 = 0 then (
(xgP t2.2 a0 11 6).bind fun t3 =>
(xgP t2.2 a0 11 3).bind fun t4 =>
(xck t2.2 t3 5).bind fun _ =>
(F_X5_keep t3 t4 t2.2).bind fun t6 =>
(xgP t6 a0 11 7).bind fun t7 =>
(xaP t6 40 t7 a1).bind fun t8 =>
(xgP t6 a0 11 3).bind fun t9 =>
(xck t6 a0 11).bind fun _ =>
(F_X11_doDeeds a0 t8 t9 t6).bind fun t11 =>
(xck t11.2 a0 11).bind fun _ =>
(F_X11_confirmedIfAny a0 t11.1 t11.2).bind fun t13 =>
some (t13.1, t13.2))
else (
some (t2.1, t2.2))
set_option maxRecDepth 100000 in
set_option maxHeartbeats 4000000 in
theorem T_X11_perform (l : Launch) (κ : xQ) (a0 : Nat) (a1 : Int32) (M : xM) (ro : Int32) (mo : xM) (h : F_X11_perform a0 a1 M = some (ro, mo)) : xC l yX11_perform cX11_perform 3 (some .int) 9 0 0 κ [.ref (κ.1 + a0), .int a1] M (some (.int ro)) mo := by
  refine xC_of rfl (Nat.le_of_ble_eq_true rfl) fun p e s m args below meth c X hr hlk hnm H locs ls O hl => ?_
  have X : xX p s m args c cX11_perform 3 RX11 κ := X
  have hl : lv_has ls 3 [(0, .ref (κ.1 + a0)), (1, .int a1)] := hl
  have hx := X.1
  have hb := X.2.1
  obtain ⟨x, hx0⟩ : ∃ x, (ro, mo) = x := ⟨_, rfl⟩
  rw [hx0] at h
  have hK : x = (ro, mo) := hx0.symm
  unfold F_X11_perform at h
  refine lv_aload_n hx hb dX11_perform_0 rfl (lv_at hl 0 rfl) ?_
  refine lv_iload_n hx hb dX11_perform_1 rfl (lv_at hl 1 rfl) ?_
  obtain ⟨_, hut1, h⟩ := Option.bind_eq_some_iff.mp h
  obtain ⟨t2, ht2, h⟩ := Option.bind_eq_some_iff.mp h
  refine xr_callV (rest := []) X O (T_X11_refusedTray l κ a0 a1 M _ _ ht2) lk_X11_225 hut1 (Nat.le_of_ble_eq_true rfl) rfl hl.1 rfl (Nat.le_of_ble_eq_true rfl) dX11_perform_2 ⟨Nat.le_of_ble_eq_true rfl, Nat.le_of_ble_eq_true rfl⟩ (fun H locs O => ?_)
  refine W.eq (g2 := F0 m 5 ls [.int t2.1]) rfl ?_
  refine lv_istore_n (lv' := [(2, .int t2.1), (0, .ref (κ.1 + a0)), (1, .int a1)]) hx hb dX11_perform_5 rfl hl (by decide) rfl (fun ls hl => ?_)
  refine lv_iload_n hx hb dX11_perform_6 rfl (lv_at hl 0 rfl) ?_
  refine lv_if_eq (tgt := 12) hx hb dX11_perform_7 (by decide) (fun hc7 => ?_) (fun hc7 => ?_)
  · rw [if_pos hc7] at h
    refine lv_aload_n hx hb dX11_perform_12 rfl (lv_at hl 1 rfl) ?_
    obtain ⟨t3, ht3, h⟩ := Option.bind_eq_some_iff.mp h
    refine xr_getP X O ht3 fl_X11_43 dX11_perform_13 ?_
    refine lv_aload_n hx hb dX11_perform_16 rfl (lv_at hl 1 rfl) ?_
    obtain ⟨t4, ht4, h⟩ := Option.bind_eq_some_iff.mp h
    refine xr_getP X O ht4 fl_X11_26 dX11_perform_17 ?_
    obtain ⟨_, hut5, h⟩ := Option.bind_eq_some_iff.mp h
    obtain ⟨t6, ht6, h⟩ := Option.bind_eq_some_iff.mp h
    refine xr_callV (rest := []) X O (T_X5_keep l κ t3 t4 t2.2 _ ht6) lk_X11_178 hut5 (Nat.le_of_ble_eq_true rfl) rfl hl.1 rfl (Nat.le_of_ble_eq_true rfl) dX11_perform_20 ⟨Nat.le_of_ble_eq_true rfl, Nat.le_of_ble_eq_true rfl⟩ (fun H locs O => ?_)
    refine W.eq (g2 := F0 m 23 ls []) rfl ?_
    refine lv_aload_n hx hb dX11_perform_23 rfl (lv_at hl 1 rfl) ?_
    refine lv_aload_n hx hb dX11_perform_24 rfl (lv_at hl 1 rfl) ?_
    refine lv_aload_n hx hb dX11_perform_25 rfl (lv_at hl 1 rfl) ?_
    obtain ⟨t7, ht7, h⟩ := Option.bind_eq_some_iff.mp h
    refine xr_getP X O ht7 fl_X11_49 dX11_perform_26 ?_
    refine lv_iload_n hx hb dX11_perform_29 rfl (lv_at hl 2 rfl) ?_
    obtain ⟨t8, ht8, h⟩ := Option.bind_eq_some_iff.mp h
    refine xr_aldP (t0 := 6) (C := RX10) X O ht8 (by simp [xRk]) dX11_perform_30 ?_
    refine lv_aload_n hx hb dX11_perform_31 rfl (lv_at hl 1 rfl) ?_
    obtain ⟨t9, ht9, h⟩ := Option.bind_eq_some_iff.mp h
    refine xr_getP X O ht9 fl_X11_26 dX11_perform_32 ?_
    obtain ⟨_, hut10, h⟩ := Option.bind_eq_some_iff.mp h
    obtain ⟨t11, ht11, h⟩ := Option.bind_eq_some_iff.mp h
    refine xr_callV (rest := [.ref (κ.1 + a0)]) X O (T_X11_doDeeds l κ a0 t8 t9 t6 _ _ ht11) lk_X11_228 hut10 (Nat.le_of_ble_eq_true rfl) rfl hl.1 rfl (Nat.le_of_ble_eq_true rfl) dX11_perform_35 ⟨Nat.le_of_ble_eq_true rfl, Nat.le_of_ble_eq_true rfl⟩ (fun H locs O => ?_)
    refine W.eq (g2 := F0 m 38 ls [.int t11.1, .ref (κ.1 + a0)]) rfl ?_
    obtain ⟨_, hut12, h⟩ := Option.bind_eq_some_iff.mp h
    obtain ⟨t13, ht13, h⟩ := Option.bind_eq_some_iff.mp h
    refine xr_callV (rest := []) X O (T_X11_confirmedIfAny l κ a0 t11.1 t11.2 _ _ ht13) lk_X11_244 hut12 (Nat.le_of_ble_eq_true rfl) rfl hl.1 rfl (Nat.le_of_ble_eq_true rfl) dX11_perform_38 ⟨Nat.le_of_ble_eq_true rfl, Nat.le_of_ble_eq_true rfl⟩ (fun H locs O => ?_)
    refine W.eq (g2 := F0 m 41 ls [.int t13.1]) rfl ?_
    rw [← Option.some.inj h] at hK
    have hK : (t13.1, t13.2) = (ro, mo) := hK
    obtain ⟨hK1, hK2⟩ := Prod.mk.inj hK
    rw [hK2] at O
    refine xr_top (w := .int ro) (by rw [hK1]) ?_
    exact xr_iret X hr hlk O dX11_perform_41
  rw [if_neg hc7] at h
  refine lv_iload_n hx hb dX11_perform_10 rfl (lv_at hl 0 rfl) ?_
  rw [← Option.some.inj h] at hK
  have hK : (t2.1, t2.2) = (ro, mo) := hK
  obtain ⟨hK1, hK2⟩ := Prod.mk.inj hK
  rw [hK2] at O
  refine xr_top (w := .int ro) (by rw [hK1]) ?_
  exact xr_iret X hr hlk O dX11_perform_11
def F_X11_draw (a0 : Nat) (a1 : Int32) (M : xM) : Option (Int32 × xM) :=
(xgI M a0 11 16).bind fun t1 =>
(xpI M a0 11 16 (((1103515245 : Int32) * t1) + (12345 : Int32))).bind fun t2 =>
if a1 ≤ 0 then (
some ((0 : Int32), t2))
else (
(xgI t2 a0 11 16).bind fun t3 =>
if a1 = 0 then none else
some (((t3.toUInt32 >>> ((16 : Int32).toUInt32 &&& Int32.toUInt32 31)).toInt32 - (t3.toUInt32 >>> ((16 : Int32).toUInt32 &&& Int32.toUInt32 31)).toInt32 / a1 * a1), t2))
set_option maxRecDepth 100000 in
set_option maxHeartbeats 4000000 in
theorem T_X11_draw (l : Launch) (κ : xQ) (a0 : Nat) (a1 : Int32) (M : xM) (ro : Int32) (mo : xM) (h : F_X11_draw a0 a1 M = some (ro, mo)) : xC l yX11_draw cX11_draw 2 (some .int) 2 0 0 κ [.ref (κ.1 + a0), .int a1] M (some (.int ro)) mo := by
  refine xC_of rfl (Nat.le_of_ble_eq_true rfl) fun p e s m args below meth c X hr hlk hnm H locs ls O hl => ?_
  have X : xX p s m args c cX11_draw 2 RX11 κ := X
  have hl : lv_has ls 2 [(0, .ref (κ.1 + a0)), (1, .int a1)] := hl
  have hx := X.1
  have hb := X.2.1
  obtain ⟨x, hx0⟩ : ∃ x, (ro, mo) = x := ⟨_, rfl⟩
  rw [hx0] at h
  have hK : x = (ro, mo) := hx0.symm
  unfold F_X11_draw at h
  refine lv_aload_n hx hb dX11_draw_0 rfl (lv_at hl 0 rfl) ?_
  refine lv_ldcw (v := (1103515245 : Int32)) hx hb X.2.2.2.1 (X.2.2.2.2.1 _ ct_X11_382) dX11_draw_1 ?_
  refine lv_aload_n hx hb dX11_draw_4 rfl (lv_at hl 0 rfl) ?_
  obtain ⟨t1, ht1, h⟩ := Option.bind_eq_some_iff.mp h
  refine xr_getI X O ht1 fl_X11_247 (Or.inl rfl) dX11_draw_5 ?_
  refine lv_imul hx hb dX11_draw_8 ?_
  refine lv_sipush (v := (12345 : Int32)) hx hb dX11_draw_9 (by decide) ?_
  refine lv_iadd hx hb dX11_draw_12 ?_
  obtain ⟨t2, ht2, h⟩ := Option.bind_eq_some_iff.mp h
  refine xr_putI X O ht2 fl_X11_247 dX11_draw_13 (fun H locs O => ?_)
  refine lv_iload_n hx hb dX11_draw_16 rfl (lv_at hl 1 rfl) ?_
  refine lv_if_le (tgt := 32) hx hb dX11_draw_17 (by decide) (fun hc17 => ?_) (fun hc17 => ?_)
  · rw [if_pos hc17] at h
    refine lv_iconst (v := (0 : Int32)) hx hb dX11_draw_32 (by decide) ?_
    rw [← Option.some.inj h] at hK
    have hK : ((0 : Int32), t2) = (ro, mo) := hK
    obtain ⟨hK1, hK2⟩ := Prod.mk.inj hK
    rw [hK2] at O
    refine xr_top (w := .int ro) (by rw [hK1]) ?_
    exact xr_iret X hr hlk O dX11_draw_33
  rw [if_neg hc17] at h
  refine lv_aload_n hx hb dX11_draw_20 rfl (lv_at hl 0 rfl) ?_
  obtain ⟨t3, ht3, h⟩ := Option.bind_eq_some_iff.mp h
  refine xr_getI X O ht3 fl_X11_247 (Or.inl rfl) dX11_draw_21 ?_
  refine lv_bipush (v := (16 : Int32)) hx hb dX11_draw_24 (by decide) ?_
  refine lv_iushr (v := (t3.toUInt32 >>> ((16 : Int32).toUInt32 &&& Int32.toUInt32 31)).toInt32) hx hb dX11_draw_26 rfl ?_
  refine lv_iload_n hx hb dX11_draw_27 rfl (lv_at hl 1 rfl) ?_
  by_cases hz28 : a1 = 0
  · rw [if_pos hz28] at h; cases h
  rw [if_neg hz28] at h
  refine lv_irem hx hb dX11_draw_28 hz28 ?_
  refine lv_goto (tgt := 33) hx hb dX11_draw_29 (by decide) ?_
  rw [← Option.some.inj h] at hK
  have hK : (((t3.toUInt32 >>> ((16 : Int32).toUInt32 &&& Int32.toUInt32 31)).toInt32 - (t3.toUInt32 >>> ((16 : Int32).toUInt32 &&& Int32.toUInt32 31)).toInt32 / a1 * a1), t2) = (ro, mo) := hK
  obtain ⟨hK1, hK2⟩ := Prod.mk.inj hK
  rw [hK2] at O
  refine xr_top (w := .int ro) (by rw [hK1]) ?_
  exact xr_iret X hr hlk O dX11_draw_33
def F_X11_drawDeed (a0 : Nat) (M : xM) : Option (Int32 × xM) :=
(xck M a0 11).bind fun _ =>
(F_X11_draw a0 (6 : Int32) M).bind fun t2 =>
if t2.1 = (2 : Int32) then (
(xck t2.2 a0 11).bind fun _ =>
(F_X11_draw a0 (25 : Int32) t2.2).bind fun t4 =>
some (((100 : Int32) + t4.1), t4.2))
else if t2.1 = (3 : Int32) then (
(xck t2.2 a0 11).bind fun _ =>
(F_X11_draw a0 (25 : Int32) t2.2).bind fun t6 =>
some (((200 : Int32) + t6.1), t6.2))
else if t2.1 = (4 : Int32) then (
(xck t2.2 a0 11).bind fun _ =>
(F_X11_draw a0 (25 : Int32) t2.2).bind fun t8 =>
(xck t8.2 a0 11).bind fun _ =>
(F_X11_draw a0 (5 : Int32) t8.2).bind fun t10 =>
some ((((1000 : Int32) + ((10 : Int32) * t8.1)) + t10.1), t10.2))
else if t2.1 = (5 : Int32) then (
(xck t2.2 a0 11).bind fun _ =>
(F_X11_draw a0 (10 : Int32) t2.2).bind fun t12 =>
some (((10 : Int32) + t12.1), t12.2))
else (
some ((0 : Int32), t2.2))
set_option maxRecDepth 100000 in
set_option maxHeartbeats 4000000 in
theorem T_X11_drawDeed (l : Launch) (κ : xQ) (a0 : Nat) (M : xM) (ro : Int32) (mo : xM) (h : F_X11_drawDeed a0 M = some (ro, mo)) : xC l yX11_drawDeed cX11_drawDeed 2 (some .int) 3 0 0 κ [.ref (κ.1 + a0)] M (some (.int ro)) mo := by
  refine xC_of rfl (Nat.le_of_ble_eq_true rfl) fun p e s m args below meth c X hr hlk hnm H locs ls O hl => ?_
  have X : xX p s m args c cX11_drawDeed 2 RX11 κ := X
  have hl : lv_has ls 2 [(0, .ref (κ.1 + a0))] := hl
  have hx := X.1
  have hb := X.2.1
  obtain ⟨x, hx0⟩ : ∃ x, (ro, mo) = x := ⟨_, rfl⟩
  rw [hx0] at h
  have hK : x = (ro, mo) := hx0.symm
  unfold F_X11_drawDeed at h
  refine lv_aload_n hx hb dX11_drawDeed_0 rfl (lv_at hl 0 rfl) ?_
  refine lv_bipush (v := (6 : Int32)) hx hb dX11_drawDeed_1 (by decide) ?_
  obtain ⟨_, hut1, h⟩ := Option.bind_eq_some_iff.mp h
  obtain ⟨t2, ht2, h⟩ := Option.bind_eq_some_iff.mp h
  refine xr_callV (rest := []) X O (T_X11_draw l κ a0 (6 : Int32) M _ _ ht2) lk_X11_383 hut1 (Nat.le_of_ble_eq_true rfl) rfl hl.1 rfl (Nat.le_of_ble_eq_true rfl) dX11_drawDeed_3 ⟨Nat.le_of_ble_eq_true rfl, Nat.le_of_ble_eq_true rfl⟩ (fun H locs O => ?_)
  refine W.eq (g2 := F0 m 6 ls [.int t2.1]) rfl ?_
  by_cases hs6_2 : t2.1 = (2 : Int32)
  · rw [if_pos hs6_2] at h
    refine xr_tabIn (tgt := 36) (off := 30) X dX11_drawDeed_6 hs6_2 (by decide +kernel) (by decide +kernel) (by decide +kernel) (by decide) ?_
    refine lv_bipush (v := (100 : Int32)) hx hb dX11_drawDeed_36 (by decide) ?_
    refine lv_aload_n hx hb dX11_drawDeed_38 rfl (lv_at hl 0 rfl) ?_
    refine lv_bipush (v := (25 : Int32)) hx hb dX11_drawDeed_39 (by decide) ?_
    obtain ⟨_, hut3, h⟩ := Option.bind_eq_some_iff.mp h
    obtain ⟨t4, ht4, h⟩ := Option.bind_eq_some_iff.mp h
    refine xr_callV (rest := [.int (100 : Int32)]) X O (T_X11_draw l κ a0 (25 : Int32) t2.2 _ _ ht4) lk_X11_383 hut3 (Nat.le_of_ble_eq_true rfl) rfl hl.1 rfl (Nat.le_of_ble_eq_true rfl) dX11_drawDeed_41 ⟨Nat.le_of_ble_eq_true rfl, Nat.le_of_ble_eq_true rfl⟩ (fun H locs O => ?_)
    refine W.eq (g2 := F0 m 44 ls [.int t4.1, .int (100 : Int32)]) rfl ?_
    refine lv_iadd hx hb dX11_drawDeed_44 ?_
    rw [← Option.some.inj h] at hK
    have hK : (((100 : Int32) + t4.1), t4.2) = (ro, mo) := hK
    obtain ⟨hK1, hK2⟩ := Prod.mk.inj hK
    rw [hK2] at O
    refine xr_top (w := .int ro) (by rw [hK1]) ?_
    exact xr_iret X hr hlk O dX11_drawDeed_45
  rw [if_neg hs6_2] at h
  by_cases hs6_3 : t2.1 = (3 : Int32)
  · rw [if_pos hs6_3] at h
    refine xr_tabIn (tgt := 46) (off := 40) X dX11_drawDeed_6 hs6_3 (by decide +kernel) (by decide +kernel) (by decide +kernel) (by decide) ?_
    refine lv_sipush (v := (200 : Int32)) hx hb dX11_drawDeed_46 (by decide) ?_
    refine lv_aload_n hx hb dX11_drawDeed_49 rfl (lv_at hl 0 rfl) ?_
    refine lv_bipush (v := (25 : Int32)) hx hb dX11_drawDeed_50 (by decide) ?_
    obtain ⟨_, hut5, h⟩ := Option.bind_eq_some_iff.mp h
    obtain ⟨t6, ht6, h⟩ := Option.bind_eq_some_iff.mp h
    refine xr_callV (rest := [.int (200 : Int32)]) X O (T_X11_draw l κ a0 (25 : Int32) t2.2 _ _ ht6) lk_X11_383 hut5 (Nat.le_of_ble_eq_true rfl) rfl hl.1 rfl (Nat.le_of_ble_eq_true rfl) dX11_drawDeed_52 ⟨Nat.le_of_ble_eq_true rfl, Nat.le_of_ble_eq_true rfl⟩ (fun H locs O => ?_)
    refine W.eq (g2 := F0 m 55 ls [.int t6.1, .int (200 : Int32)]) rfl ?_
    refine lv_iadd hx hb dX11_drawDeed_55 ?_
    rw [← Option.some.inj h] at hK
    have hK : (((200 : Int32) + t6.1), t6.2) = (ro, mo) := hK
    obtain ⟨hK1, hK2⟩ := Prod.mk.inj hK
    rw [hK2] at O
    refine xr_top (w := .int ro) (by rw [hK1]) ?_
    exact xr_iret X hr hlk O dX11_drawDeed_56
  rw [if_neg hs6_3] at h
  by_cases hs6_4 : t2.1 = (4 : Int32)
  · rw [if_pos hs6_4] at h
    refine xr_tabIn (tgt := 57) (off := 51) X dX11_drawDeed_6 hs6_4 (by decide +kernel) (by decide +kernel) (by decide +kernel) (by decide) ?_
    refine lv_aload_n hx hb dX11_drawDeed_57 rfl (lv_at hl 0 rfl) ?_
    refine lv_bipush (v := (25 : Int32)) hx hb dX11_drawDeed_58 (by decide) ?_
    obtain ⟨_, hut7, h⟩ := Option.bind_eq_some_iff.mp h
    obtain ⟨t8, ht8, h⟩ := Option.bind_eq_some_iff.mp h
    refine xr_callV (rest := []) X O (T_X11_draw l κ a0 (25 : Int32) t2.2 _ _ ht8) lk_X11_383 hut7 (Nat.le_of_ble_eq_true rfl) rfl hl.1 rfl (Nat.le_of_ble_eq_true rfl) dX11_drawDeed_60 ⟨Nat.le_of_ble_eq_true rfl, Nat.le_of_ble_eq_true rfl⟩ (fun H locs O => ?_)
    refine W.eq (g2 := F0 m 63 ls [.int t8.1]) rfl ?_
    refine lv_istore_n (lv' := [(1, .int t8.1), (0, .ref (κ.1 + a0))]) hx hb dX11_drawDeed_63 rfl hl (by decide) rfl (fun ls hl => ?_)
    refine lv_sipush (v := (1000 : Int32)) hx hb dX11_drawDeed_64 (by decide) ?_
    refine lv_bipush (v := (10 : Int32)) hx hb dX11_drawDeed_67 (by decide) ?_
    refine lv_iload_n hx hb dX11_drawDeed_69 rfl (lv_at hl 0 rfl) ?_
    refine lv_imul hx hb dX11_drawDeed_70 ?_
    refine lv_iadd hx hb dX11_drawDeed_71 ?_
    refine lv_aload_n hx hb dX11_drawDeed_72 rfl (lv_at hl 1 rfl) ?_
    refine lv_iconst (v := (5 : Int32)) hx hb dX11_drawDeed_73 (by decide) ?_
    obtain ⟨_, hut9, h⟩ := Option.bind_eq_some_iff.mp h
    obtain ⟨t10, ht10, h⟩ := Option.bind_eq_some_iff.mp h
    refine xr_callV (rest := [.int ((1000 : Int32) + ((10 : Int32) * t8.1))]) X O (T_X11_draw l κ a0 (5 : Int32) t8.2 _ _ ht10) lk_X11_383 hut9 (Nat.le_of_ble_eq_true rfl) rfl hl.1 rfl (Nat.le_of_ble_eq_true rfl) dX11_drawDeed_74 ⟨Nat.le_of_ble_eq_true rfl, Nat.le_of_ble_eq_true rfl⟩ (fun H locs O => ?_)
    refine W.eq (g2 := F0 m 77 ls [.int t10.1, .int ((1000 : Int32) + ((10 : Int32) * t8.1))]) rfl ?_
    refine lv_iadd hx hb dX11_drawDeed_77 ?_
    rw [← Option.some.inj h] at hK
    have hK : ((((1000 : Int32) + ((10 : Int32) * t8.1)) + t10.1), t10.2) = (ro, mo) := hK
    obtain ⟨hK1, hK2⟩ := Prod.mk.inj hK
    rw [hK2] at O
    refine xr_top (w := .int ro) (by rw [hK1]) ?_
    exact xr_iret X hr hlk O dX11_drawDeed_78
  rw [if_neg hs6_4] at h
  by_cases hs6_5 : t2.1 = (5 : Int32)
  · rw [if_pos hs6_5] at h
    refine xr_tabIn (tgt := 79) (off := 73) X dX11_drawDeed_6 hs6_5 (by decide +kernel) (by decide +kernel) (by decide +kernel) (by decide) ?_
    refine lv_bipush (v := (10 : Int32)) hx hb dX11_drawDeed_79 (by decide) ?_
    refine lv_aload_n hx hb dX11_drawDeed_81 rfl (lv_at hl 0 rfl) ?_
    refine lv_bipush (v := (10 : Int32)) hx hb dX11_drawDeed_82 (by decide) ?_
    obtain ⟨_, hut11, h⟩ := Option.bind_eq_some_iff.mp h
    obtain ⟨t12, ht12, h⟩ := Option.bind_eq_some_iff.mp h
    refine xr_callV (rest := [.int (10 : Int32)]) X O (T_X11_draw l κ a0 (10 : Int32) t2.2 _ _ ht12) lk_X11_383 hut11 (Nat.le_of_ble_eq_true rfl) rfl hl.1 rfl (Nat.le_of_ble_eq_true rfl) dX11_drawDeed_84 ⟨Nat.le_of_ble_eq_true rfl, Nat.le_of_ble_eq_true rfl⟩ (fun H locs O => ?_)
    refine W.eq (g2 := F0 m 87 ls [.int t12.1, .int (10 : Int32)]) rfl ?_
    refine lv_iadd hx hb dX11_drawDeed_87 ?_
    rw [← Option.some.inj h] at hK
    have hK : (((10 : Int32) + t12.1), t12.2) = (ro, mo) := hK
    obtain ⟨hK1, hK2⟩ := Prod.mk.inj hK
    rw [hK2] at O
    refine xr_top (w := .int ro) (by rw [hK1]) ?_
    exact xr_iret X hr hlk O dX11_drawDeed_88
  rw [if_neg hs6_5] at h
  have ihs6_2 := xr_nei (k := 2) (by decide) hs6_2
  have ihs6_3 := xr_nei (k := 3) (by decide) hs6_3
  have ihs6_4 := xr_nei (k := 4) (by decide) hs6_4
  have ihs6_5 := xr_nei (k := 5) (by decide) hs6_5
  refine lv_tableOut (tgt := 89) hx hb dX11_drawDeed_6 (by omega) (by decide) ?_
  refine lv_iconst (v := (0 : Int32)) hx hb dX11_drawDeed_89 (by decide) ?_
  rw [← Option.some.inj h] at hK
  have hK : ((0 : Int32), t2.2) = (ro, mo) := hK
  obtain ⟨hK1, hK2⟩ := Prod.mk.inj hK
  rw [hK2] at O
  refine xr_top (w := .int ro) (by rw [hK1]) ?_
  exact xr_iret X hr hlk O dX11_drawDeed_90
def F_X11_day_67 (v0 : Nat) (v2 : Int32) (v3 : Int32) (v4 : Int32) (M : xM) : Option ((Int32 × Int32 × xM) ⊕ (Int32 × xM)) :=
some (.inl (v3, (v4 + 1), M))
def F_X11_day_73 (v0 : Nat) (v3 : Int32) (M : xM) : Option (Int32 × xM) :=
(xck M v0 11).bind fun _ =>
(F_X11_confirmedIfAny v0 v3 M).bind fun t14 =>
some (t14.1, t14.2)
def F_X11_day_35b (v0 : Nat) (v2 : Int32) : (Int32 × Int32 × xM) → Option ((Int32 × Int32 × xM) ⊕ (Int32 × xM)) := fun ⟨v3, v4, M⟩ =>
if v2 ≤ v4 then (
(F_X11_day_73 v0 v3 M).map Sum.inr)
else (
(xgP M v0 11 5).bind fun t6 =>
(xgP M v0 11 2).bind fun t7 =>
(xgP M v0 11 3).bind fun t8 =>
(xck M v0 11).bind fun _ =>
(F_X11_drawDeed v0 M).bind fun t10 =>
(xck t10.2 t6 8).bind fun _ =>
(F_X8_attempt t6 t7 t8 t10.1.toInt64 t10.2).bind fun t12 =>
if t12.1 = 0 then (
F_X11_day_67 v0 v2 (v3 + 1) v4 t12.2)
else (
F_X11_day_67 v0 v2 v3 v4 t12.2))
def F_X11_day_35 (v0 : Nat) (v2 : Int32) (v3 : Int32) (v4 : Int32) (M : xM) : Option (Int32 × xM) := xit (F_X11_day_35b v0 v2) xFU (v3, v4, M)
def F_X11_day (a0 : Nat) (a1 : Int32) (a2 : Int32) (M : xM) : Option (Int32 × xM) :=
if a2 < (1 : Int32) then (
some ((-3 : Int32), M))
else (
if a2 ≤ (40 : Int32) then (
(xgP M a0 11 6).bind fun t1 =>
(xgP M a0 11 3).bind fun t2 =>
(xck M t1 5).bind fun _ =>
(F_X5_keep t1 t2 M).bind fun t4 =>
(xpI t4 a0 11 16 a1).bind fun t5 =>
F_X11_day_35 a0 a2 (0 : Int32) (0 : Int32) t5)
else (
some ((-3 : Int32), M)))
set_option maxRecDepth 100000 in
set_option maxHeartbeats 4000000 in
theorem F_X11_day_67_ok (X : xX p s m args c cX11_day 5 RX11 κ) (hr : meth.sig.returnType = (some .int)) (hlk : meth.locks = false) {ro : Int32} {mo : xM} (v0 : Nat) (v2 : Int32) (v3 : Int32) (v4 : Int32) {W35 : Int32 × Int32 × xM → Prop} (hW35 : ∀ (v3 : Int32) (v4 : Int32) (M : xM), W35 (v3, v4, M) → ∀ (H : Heap) (locs : List Loc) (ls : Array Slot), xO κ s M H locs → lv_has ls 5 [(0, .ref (κ.1 + v0)), (2, .int v2), (3, .int v3), (4, .int v4)] → W p l e (xRm 8 0 0) s m args below meth c H locs 0 0 (xQf below args s 0 0 κ (some (.int ro)) mo) (F0 m 35 ls [])) (M : xM) (x : (Int32 × Int32 × xM) ⊕ (Int32 × xM)) (h : F_X11_day_67 v0 v2 v3 v4 M = some x) (hK : (xKl W35 (fun o => o = (ro, mo))) x) (H : Heap) (locs : List Loc) (ls : Array Slot) (O : xO κ s M H locs) (hl : lv_has ls 5 [(0, .ref (κ.1 + v0)), (2, .int v2), (3, .int v3), (4, .int v4)]) : W p l e (xRm 8 0 0) s m args below meth c H locs 0 0 (xQf below args s 0 0 κ (some (.int ro)) mo) (F0 m 67 ls []) := by
  unfold F_X11_day_67 at h
  have hx := X.1
  have hb := X.2.1
  refine lv_iinc (v := (v4 + 1)) (lv' := [(4, .int (v4 + 1)), (0, .ref (κ.1 + v0)), (2, .int v2), (3, .int v3)]) hx hb dX11_day_67 hl (k := 3) rfl rfl (by decide) rfl (fun ls hl => ?_)
  refine lv_goto (tgt := 35) hx hb dX11_day_70 (by decide) ?_
  rw [← Option.some.inj h] at hK
  exact hW35 v3 (v4 + 1) M hK H locs ls O (lv_sub hl [1, 2, 3, 0] rfl)
set_option maxRecDepth 100000 in
set_option maxHeartbeats 4000000 in
theorem F_X11_day_73_ok (X : xX p s m args c cX11_day 5 RX11 κ) (hr : meth.sig.returnType = (some .int)) (hlk : meth.locks = false) {ro : Int32} {mo : xM} (v0 : Nat) (v3 : Int32) (M : xM) (x : Int32 × xM) (h : F_X11_day_73 v0 v3 M = some x) (hK : (fun o => o = (ro, mo)) x) (H : Heap) (locs : List Loc) (ls : Array Slot) (O : xO κ s M H locs) (hl : lv_has ls 5 [(0, .ref (κ.1 + v0)), (3, .int v3)]) : W p l e (xRm 8 0 0) s m args below meth c H locs 0 0 (xQf below args s 0 0 κ (some (.int ro)) mo) (F0 m 73 ls []) := by
  unfold F_X11_day_73 at h
  have hx := X.1
  have hb := X.2.1
  refine lv_aload_n hx hb dX11_day_73 rfl (lv_at hl 0 rfl) ?_
  refine lv_iload_n hx hb dX11_day_74 rfl (lv_at hl 1 rfl) ?_
  obtain ⟨_, hut13, h⟩ := Option.bind_eq_some_iff.mp h
  obtain ⟨t14, ht14, h⟩ := Option.bind_eq_some_iff.mp h
  refine xr_callV (rest := []) X O (T_X11_confirmedIfAny l κ v0 v3 M _ _ ht14) lk_X11_244 hut13 (Nat.le_of_ble_eq_true rfl) rfl hl.1 rfl (Nat.le_of_ble_eq_true rfl) dX11_day_75 ⟨Nat.le_of_ble_eq_true rfl, Nat.le_of_ble_eq_true rfl⟩ (fun H locs O => ?_)
  refine W.eq (g2 := F0 m 78 ls [.int t14.1]) rfl ?_
  rw [← Option.some.inj h] at hK
  have hK : (t14.1, t14.2) = (ro, mo) := hK
  obtain ⟨hK1, hK2⟩ := Prod.mk.inj hK
  rw [hK2] at O
  refine xr_top (w := .int ro) (by rw [hK1]) ?_
  exact xr_iret X hr hlk O dX11_day_78
set_option maxRecDepth 100000 in
set_option maxHeartbeats 4000000 in
theorem F_X11_day_35_bok (X : xX p s m args c cX11_day 5 RX11 κ) (hr : meth.sig.returnType = (some .int)) (hlk : meth.locks = false) {ro : Int32} {mo : xM} (v0 : Nat) (v2 : Int32) (v3 : Int32) (v4 : Int32) {W35 : Int32 × Int32 × xM → Prop} (hW35 : ∀ (v3 : Int32) (v4 : Int32) (M : xM), W35 (v3, v4, M) → ∀ (H : Heap) (locs : List Loc) (ls : Array Slot), xO κ s M H locs → lv_has ls 5 [(0, .ref (κ.1 + v0)), (2, .int v2), (3, .int v3), (4, .int v4)] → W p l e (xRm 8 0 0) s m args below meth c H locs 0 0 (xQf below args s 0 0 κ (some (.int ro)) mo) (F0 m 35 ls [])) (M : xM) (x : (Int32 × Int32 × xM) ⊕ (Int32 × xM)) (h : F_X11_day_35b v0 v2 (v3, v4, M) = some x) (hK : (xKl W35 (fun o => o = (ro, mo))) x) (H : Heap) (locs : List Loc) (ls : Array Slot) (O : xO κ s M H locs) (hl : lv_has ls 5 [(0, .ref (κ.1 + v0)), (2, .int v2), (3, .int v3), (4, .int v4)]) : W p l e (xRm 8 0 0) s m args below meth c H locs 0 0 (xQf below args s 0 0 κ (some (.int ro)) mo) (F0 m 35 ls []) := by
  unfold F_X11_day_35b at h
  dsimp only at h
  have hx := X.1
  have hb := X.2.1
  refine lv_iload hx hb dX11_day_35 (lv_at hl 3 rfl) ?_
  refine lv_iload_n hx hb dX11_day_37 rfl (lv_at hl 1 rfl) ?_
  refine lv_icmp_ge (tgt := 73) hx hb dX11_day_38 (by decide) (fun hc38 => ?_) (fun hc38 => ?_)
  · rw [if_pos hc38] at h
    obtain ⟨_, hw0, ew0⟩ := Option.map_eq_some_iff.mp h
    rw [← ew0] at hK
    have h := hw0
    exact F_X11_day_73_ok X hr hlk v0 v3 M _ h hK H locs ls O (lv_sub hl [0, 2] rfl)
  rw [if_neg hc38] at h
  refine lv_aload_n hx hb dX11_day_41 rfl (lv_at hl 0 rfl) ?_
  obtain ⟨t6, ht6, h⟩ := Option.bind_eq_some_iff.mp h
  refine xr_getP X O ht6 fl_X11_36 dX11_day_42 ?_
  refine lv_aload_n hx hb dX11_day_45 rfl (lv_at hl 0 rfl) ?_
  obtain ⟨t7, ht7, h⟩ := Option.bind_eq_some_iff.mp h
  refine xr_getP X O ht7 fl_X11_19 dX11_day_46 ?_
  refine lv_aload_n hx hb dX11_day_49 rfl (lv_at hl 0 rfl) ?_
  obtain ⟨t8, ht8, h⟩ := Option.bind_eq_some_iff.mp h
  refine xr_getP X O ht8 fl_X11_26 dX11_day_50 ?_
  refine lv_aload_n hx hb dX11_day_53 rfl (lv_at hl 0 rfl) ?_
  obtain ⟨_, hut9, h⟩ := Option.bind_eq_some_iff.mp h
  obtain ⟨t10, ht10, h⟩ := Option.bind_eq_some_iff.mp h
  refine xr_callV (rest := [.ref (κ.1 + t8), .ref (κ.1 + t7), .ref (κ.1 + t6)]) X O (T_X11_drawDeed l κ v0 M _ _ ht10) lk_X11_250 hut9 (Nat.le_of_ble_eq_true rfl) rfl hl.1 rfl (Nat.le_of_ble_eq_true rfl) dX11_day_54 ⟨Nat.le_of_ble_eq_true rfl, Nat.le_of_ble_eq_true rfl⟩ (fun H locs O => ?_)
  refine W.eq (g2 := F0 m 57 ls [.int t10.1, .ref (κ.1 + t8), .ref (κ.1 + t7), .ref (κ.1 + t6)]) rfl ?_
  refine lv_i2l (v := t10.1.toInt64) hx hb dX11_day_57 rfl ?_
  obtain ⟨_, hut11, h⟩ := Option.bind_eq_some_iff.mp h
  obtain ⟨t12, ht12, h⟩ := Option.bind_eq_some_iff.mp h
  refine xr_callV (rest := []) X O (T_X8_attempt l κ t6 t7 t8 t10.1.toInt64 t10.2 _ _ ht12) lk_X11_237 hut11 (Nat.le_of_ble_eq_true rfl) rfl hl.1 rfl (Nat.le_of_ble_eq_true rfl) dX11_day_58 ⟨Nat.le_of_ble_eq_true rfl, Nat.le_of_ble_eq_true rfl⟩ (fun H locs O => ?_)
  refine W.eq (g2 := F0 m 61 ls [.int t12.1]) rfl ?_
  refine lv_if_ne (tgt := 67) hx hb dX11_day_61 (by decide) (fun hc61 => ?_) (fun hc61 => ?_)
  · rw [if_neg hc61] at h
    exact F_X11_day_67_ok X hr hlk v0 v2 v3 v4 hW35 t12.2 _ h hK H locs ls O (lv_sub hl [0, 1, 2, 3] rfl)
  rw [if_pos hc61] at h
  refine lv_iinc (v := (v3 + 1)) (lv' := [(3, .int (v3 + 1)), (0, .ref (κ.1 + v0)), (2, .int v2), (4, .int v4)]) hx hb dX11_day_64 hl (k := 2) rfl rfl (by decide) rfl (fun ls hl => ?_)
  exact F_X11_day_67_ok X hr hlk v0 v2 (v3 + 1) v4 hW35 t12.2 _ h hK H locs ls O (lv_sub hl [1, 2, 0, 3] rfl)
set_option maxRecDepth 100000 in
set_option maxHeartbeats 4000000 in
theorem F_X11_day_35_ok (X : xX p s m args c cX11_day 5 RX11 κ) (hr : meth.sig.returnType = (some .int)) (hlk : meth.locks = false) {ro : Int32} {mo : xM} (v0 : Nat) (v2 : Int32) (v3 : Int32) (v4 : Int32) (M : xM) (x : Int32 × xM) (h : F_X11_day_35 v0 v2 v3 v4 M = some x) (hK : (fun o => o = (ro, mo)) x) (H : Heap) (locs : List Loc) (ls : Array Slot) (O : xO κ s M H locs) (hl : lv_has ls 5 [(0, .ref (κ.1 + v0)), (2, .int v2), (3, .int v3), (4, .int v4)]) : W p l e (xRm 8 0 0) s m args below meth c H locs 0 0 (xQf below args s 0 0 κ (some (.int ro)) mo) (F0 m 35 ls []) := by
  refine xit_K (Wh := fun x => ∀ (H : Heap) (locs : List Loc) (ls : Array Slot), xO κ s x.2.2 H locs → lv_has ls 5 [(0, .ref (κ.1 + v0)), (2, .int v2), (3, .int x.1), (4, .int x.2.1)] → W p l e (xRm 8 0 0) s m args below meth c H locs 0 0 (xQf below args s 0 0 κ (some (.int ro)) mo) (F0 m 35 ls [])) (Kp := (fun o => o = (ro, mo))) ?_ xFU (v3, v4, M) x h hK H locs ls O hl
  intro y x h hK H locs ls O hl
  exact F_X11_day_35_bok X hr hlk v0 v2 y.1 y.2.1 (fun _ _ _ hw => hw) y.2.2 x h hK H locs ls O hl
set_option maxRecDepth 100000 in
set_option maxHeartbeats 4000000 in
theorem T_X11_day (l : Launch) (κ : xQ) (a0 : Nat) (a1 : Int32) (a2 : Int32) (M : xM) (ro : Int32) (mo : xM) (h : F_X11_day a0 a1 a2 M = some (ro, mo)) : xC l yX11_day cX11_day 5 (some .int) 8 0 0 κ [.ref (κ.1 + a0), .int a1, .int a2] M (some (.int ro)) mo := by
  refine xC_of rfl (Nat.le_of_ble_eq_true rfl) fun p e s m args below meth c X hr hlk hnm H locs ls O hl => ?_
  have X : xX p s m args c cX11_day 5 RX11 κ := X
  have hl : lv_has ls 5 [(0, .ref (κ.1 + a0)), (1, .int a1), (2, .int a2)] := hl
  have hx := X.1
  have hb := X.2.1
  obtain ⟨x, hx0⟩ : ∃ x, (ro, mo) = x := ⟨_, rfl⟩
  rw [hx0] at h
  have hK : x = (ro, mo) := hx0.symm
  unfold F_X11_day at h
  refine lv_iload_n hx hb dX11_day_0 rfl (lv_at hl 2 rfl) ?_
  refine lv_iconst (v := (1 : Int32)) hx hb dX11_day_1 (by decide) ?_
  refine lv_icmp_lt (tgt := 11) hx hb dX11_day_2 (by decide) (fun hc2 => ?_) (fun hc2 => ?_)
  · rw [if_pos hc2] at h
    refine lv_bipush (v := (-3 : Int32)) hx hb dX11_day_11 (by decide) ?_
    rw [← Option.some.inj h] at hK
    have hK : ((-3 : Int32), M) = (ro, mo) := hK
    obtain ⟨hK1, hK2⟩ := Prod.mk.inj hK
    rw [hK2] at O
    refine xr_top (w := .int ro) (by rw [hK1]) ?_
    exact xr_iret X hr hlk O dX11_day_13
  rw [if_neg hc2] at h
  refine lv_iload_n hx hb dX11_day_5 rfl (lv_at hl 2 rfl) ?_
  refine lv_bipush (v := (40 : Int32)) hx hb dX11_day_6 (by decide) ?_
  refine lv_icmp_le (tgt := 14) hx hb dX11_day_8 (by decide) (fun hc8 => ?_) (fun hc8 => ?_)
  · rw [if_pos hc8] at h
    refine lv_aload_n hx hb dX11_day_14 rfl (lv_at hl 0 rfl) ?_
    obtain ⟨t1, ht1, h⟩ := Option.bind_eq_some_iff.mp h
    refine xr_getP X O ht1 fl_X11_43 dX11_day_15 ?_
    refine lv_aload_n hx hb dX11_day_18 rfl (lv_at hl 0 rfl) ?_
    obtain ⟨t2, ht2, h⟩ := Option.bind_eq_some_iff.mp h
    refine xr_getP X O ht2 fl_X11_26 dX11_day_19 ?_
    obtain ⟨_, hut3, h⟩ := Option.bind_eq_some_iff.mp h
    obtain ⟨t4, ht4, h⟩ := Option.bind_eq_some_iff.mp h
    refine xr_callV (rest := []) X O (T_X5_keep l κ t1 t2 M _ ht4) lk_X11_178 hut3 (Nat.le_of_ble_eq_true rfl) rfl hl.1 rfl (Nat.le_of_ble_eq_true rfl) dX11_day_22 ⟨Nat.le_of_ble_eq_true rfl, Nat.le_of_ble_eq_true rfl⟩ (fun H locs O => ?_)
    refine W.eq (g2 := F0 m 25 ls []) rfl ?_
    refine lv_aload_n hx hb dX11_day_25 rfl (lv_at hl 0 rfl) ?_
    refine lv_iload_n hx hb dX11_day_26 rfl (lv_at hl 1 rfl) ?_
    obtain ⟨t5, ht5, h⟩ := Option.bind_eq_some_iff.mp h
    refine xr_putI X O ht5 fl_X11_247 dX11_day_27 (fun H locs O => ?_)
    refine lv_iconst (v := (0 : Int32)) hx hb dX11_day_30 (by decide) ?_
    refine lv_istore_n (lv' := [(3, .int (0 : Int32)), (0, .ref (κ.1 + a0)), (1, .int a1), (2, .int a2)]) hx hb dX11_day_31 rfl hl (by decide) rfl (fun ls hl => ?_)
    refine lv_iconst (v := (0 : Int32)) hx hb dX11_day_32 (by decide) ?_
    refine lv_istore (lv' := [(4, .int (0 : Int32)), (3, .int (0 : Int32)), (0, .ref (κ.1 + a0)), (1, .int a1), (2, .int a2)]) hx hb dX11_day_33 hl (by decide) rfl (fun ls hl => ?_)
    exact F_X11_day_35_ok X hr hlk a0 a2 (0 : Int32) (0 : Int32) t5 _ h hK H locs ls O (lv_sub hl [2, 4, 1, 0] rfl)
  rw [if_neg hc8] at h
  refine lv_bipush (v := (-3 : Int32)) hx hb dX11_day_11 (by decide) ?_
  rw [← Option.some.inj h] at hK
  have hK : ((-3 : Int32), M) = (ro, mo) := hK
  obtain ⟨hK1, hK2⟩ := Prod.mk.inj hK
  rw [hK2] at O
  refine xr_top (w := .int ro) (by rw [hK1]) ?_
  exact xr_iret X hr hlk O dX11_day_13
def F_X11_falls_76 (v2 : Int32) (M : xM) : Option (Int32 × xM) :=
some (v2, M)
def F_X11_falls_84 (M : xM) : Option (Int32 × xM) :=
some ((-1 : Int32), M)
def F_X11_falls_40b (v0 : Nat) (v1 : Int32) : (Int32 × xM) → Option ((Int32 × xM) ⊕ (Int32 × xM)) := fun ⟨v2, M⟩ =>
if (60 : Int32) < v2 then (
(F_X11_falls_84 M).map Sum.inr)
else (
(xgP M v0 11 5).bind fun t9 =>
(xgP M v0 11 2).bind fun t10 =>
(xgP M v0 11 4).bind fun t11 =>
(xck M t9 8).bind fun _ =>
(F_X8_tick t9 t10 t11 M).bind fun t13 =>
(xgP t13.2 v0 11 4).bind fun t14 =>
(xgI t13.2 t14 0 4).bind fun t15 =>
if ((t15 >>> (v1 &&& 31)) &&& (1 : Int32)) = 0 then (
(F_X11_falls_76 v2 t13.2).map Sum.inr)
else (
some (.inl ((v2 + 1), t13.2))))
def F_X11_falls_40 (v0 : Nat) (v1 : Int32) (v2 : Int32) (M : xM) : Option (Int32 × xM) := xit (F_X11_falls_40b v0 v1) xFU (v2, M)
def F_X11_falls (a0 : Nat) (a1 : Int32) (M : xM) : Option (Int32 × xM) :=
(xck M a0 11).bind fun _ =>
(F_X11_isHouse a0 a1 M).bind fun t2 =>
if t2.1 = 0 then (
some ((-2 : Int32), t2.2))
else (
(xgP t2.2 a0 11 3).bind fun t3 =>
(xgI t2.2 t3 0 4).bind fun t4 =>
if ((t4 >>> (a1 &&& 31)) &&& (1 : Int32)) = 0 then (
some ((-1 : Int32), t2.2))
else (
(xgP t2.2 a0 11 4).bind fun t5 =>
(xgP t2.2 a0 11 3).bind fun t6 =>
(xck t2.2 t5 0).bind fun _ =>
(F_X0_take t5 t6 t2.2).bind fun t8 =>
F_X11_falls_40 a0 a1 (1 : Int32) t8))
set_option maxRecDepth 100000 in
set_option maxHeartbeats 4000000 in
theorem F_X11_falls_76_ok (X : xX p s m args c cX11_falls 3 RX11 κ) (hr : meth.sig.returnType = (some .int)) (hlk : meth.locks = false) {ro : Int32} {mo : xM} (v2 : Int32) (M : xM) (x : Int32 × xM) (h : F_X11_falls_76 v2 M = some x) (hK : (fun o => o = (ro, mo)) x) (H : Heap) (locs : List Loc) (ls : Array Slot) (O : xO κ s M H locs) (hl : lv_has ls 3 [(2, .int v2)]) : W p l e (xRm 7 0 0) s m args below meth c H locs 0 0 (xQf below args s 0 0 κ (some (.int ro)) mo) (F0 m 76 ls []) := by
  unfold F_X11_falls_76 at h
  have hx := X.1
  have hb := X.2.1
  refine lv_iload_n hx hb dX11_falls_76 rfl (lv_at hl 0 rfl) ?_
  rw [← Option.some.inj h] at hK
  have hK : (v2, M) = (ro, mo) := hK
  obtain ⟨hK1, hK2⟩ := Prod.mk.inj hK
  rw [hK2] at O
  refine xr_top (w := .int ro) (by rw [hK1]) ?_
  exact xr_iret X hr hlk O dX11_falls_77
set_option maxRecDepth 100000 in
set_option maxHeartbeats 4000000 in
theorem F_X11_falls_84_ok (X : xX p s m args c cX11_falls 3 RX11 κ) (hr : meth.sig.returnType = (some .int)) (hlk : meth.locks = false) {ro : Int32} {mo : xM} (M : xM) (x : Int32 × xM) (h : F_X11_falls_84 M = some x) (hK : (fun o => o = (ro, mo)) x) (H : Heap) (locs : List Loc) (ls : Array Slot) (O : xO κ s M H locs) (hl : lv_has ls 3 []) : W p l e (xRm 7 0 0) s m args below meth c H locs 0 0 (xQf below args s 0 0 κ (some (.int ro)) mo) (F0 m 84 ls []) := by
  unfold F_X11_falls_84 at h
  have hx := X.1
  have hb := X.2.1
  refine lv_iconst (v := (-1 : Int32)) hx hb dX11_falls_84 (by decide) ?_
  rw [← Option.some.inj h] at hK
  have hK : ((-1 : Int32), M) = (ro, mo) := hK
  obtain ⟨hK1, hK2⟩ := Prod.mk.inj hK
  rw [hK2] at O
  refine xr_top (w := .int ro) (by rw [hK1]) ?_
  exact xr_iret X hr hlk O dX11_falls_85
set_option maxRecDepth 100000 in
set_option maxHeartbeats 4000000 in
theorem F_X11_falls_40_bok (X : xX p s m args c cX11_falls 3 RX11 κ) (hr : meth.sig.returnType = (some .int)) (hlk : meth.locks = false) {ro : Int32} {mo : xM} (v0 : Nat) (v1 : Int32) (v2 : Int32) {W40 : Int32 × xM → Prop} (hW40 : ∀ (v2 : Int32) (M : xM), W40 (v2, M) → ∀ (H : Heap) (locs : List Loc) (ls : Array Slot), xO κ s M H locs → lv_has ls 3 [(0, .ref (κ.1 + v0)), (1, .int v1), (2, .int v2)] → W p l e (xRm 7 0 0) s m args below meth c H locs 0 0 (xQf below args s 0 0 κ (some (.int ro)) mo) (F0 m 40 ls [])) (M : xM) (x : (Int32 × xM) ⊕ (Int32 × xM)) (h : F_X11_falls_40b v0 v1 (v2, M) = some x) (hK : (xKl W40 (fun o => o = (ro, mo))) x) (H : Heap) (locs : List Loc) (ls : Array Slot) (O : xO κ s M H locs) (hl : lv_has ls 3 [(0, .ref (κ.1 + v0)), (1, .int v1), (2, .int v2)]) : W p l e (xRm 7 0 0) s m args below meth c H locs 0 0 (xQf below args s 0 0 κ (some (.int ro)) mo) (F0 m 40 ls []) := by
  unfold F_X11_falls_40b at h
  dsimp only at h
  have hx := X.1
  have hb := X.2.1
  refine lv_iload_n hx hb dX11_falls_40 rfl (lv_at hl 2 rfl) ?_
  refine lv_bipush (v := (60 : Int32)) hx hb dX11_falls_41 (by decide) ?_
  refine lv_icmp_gt (tgt := 84) hx hb dX11_falls_43 (by decide) (fun hc43 => ?_) (fun hc43 => ?_)
  · rw [if_pos hc43] at h
    obtain ⟨_, hw0, ew0⟩ := Option.map_eq_some_iff.mp h
    rw [← ew0] at hK
    have h := hw0
    exact F_X11_falls_84_ok X hr hlk  M _ h hK H locs ls O (lv_sub hl [] rfl)
  rw [if_neg hc43] at h
  refine lv_aload_n hx hb dX11_falls_46 rfl (lv_at hl 0 rfl) ?_
  obtain ⟨t9, ht9, h⟩ := Option.bind_eq_some_iff.mp h
  refine xr_getP X O ht9 fl_X11_36 dX11_falls_47 ?_
  refine lv_aload_n hx hb dX11_falls_50 rfl (lv_at hl 0 rfl) ?_
  obtain ⟨t10, ht10, h⟩ := Option.bind_eq_some_iff.mp h
  refine xr_getP X O ht10 fl_X11_19 dX11_falls_51 ?_
  refine lv_aload_n hx hb dX11_falls_54 rfl (lv_at hl 0 rfl) ?_
  obtain ⟨t11, ht11, h⟩ := Option.bind_eq_some_iff.mp h
  refine xr_getP X O ht11 fl_X11_30 dX11_falls_55 ?_
  obtain ⟨_, hut12, h⟩ := Option.bind_eq_some_iff.mp h
  obtain ⟨t13, ht13, h⟩ := Option.bind_eq_some_iff.mp h
  refine xr_callV (rest := []) X O (T_X8_tick l κ t9 t10 t11 M _ _ ht13) lk_X11_181 hut12 (Nat.le_of_ble_eq_true rfl) rfl hl.1 rfl (Nat.le_of_ble_eq_true rfl) dX11_falls_58 ⟨Nat.le_of_ble_eq_true rfl, Nat.le_of_ble_eq_true rfl⟩ (fun H locs O => ?_)
  refine W.eq (g2 := F0 m 61 ls [.int t13.1]) rfl ?_
  refine lv_pop hx hb dX11_falls_61 rfl ?_
  refine lv_aload_n hx hb dX11_falls_62 rfl (lv_at hl 0 rfl) ?_
  obtain ⟨t14, ht14, h⟩ := Option.bind_eq_some_iff.mp h
  refine xr_getP X O ht14 fl_X11_30 dX11_falls_63 ?_
  obtain ⟨t15, ht15, h⟩ := Option.bind_eq_some_iff.mp h
  refine xr_getI X O ht15 fl_X11_148 (Or.inl rfl) dX11_falls_66 ?_
  refine lv_iload_n hx hb dX11_falls_69 rfl (lv_at hl 1 rfl) ?_
  refine lv_ishr hx hb dX11_falls_70 ?_
  refine lv_iconst (v := (1 : Int32)) hx hb dX11_falls_71 (by decide) ?_
  refine lv_iand hx hb dX11_falls_72 ?_
  refine lv_if_ne (tgt := 78) hx hb dX11_falls_73 (by decide) (fun hc73 => ?_) (fun hc73 => ?_)
  · rw [if_neg hc73] at h
    refine lv_iinc (v := (v2 + 1)) (lv' := [(2, .int (v2 + 1)), (0, .ref (κ.1 + v0)), (1, .int v1)]) hx hb dX11_falls_78 hl (k := 2) rfl rfl (by decide) rfl (fun ls hl => ?_)
    refine lv_goto (tgt := 40) hx hb dX11_falls_81 (by decide) ?_
    rw [← Option.some.inj h] at hK
    exact hW40 (v2 + 1) t13.2 hK H locs ls O (lv_sub hl [1, 2, 0] rfl)
  rw [if_pos hc73] at h
  obtain ⟨_, hw0, ew0⟩ := Option.map_eq_some_iff.mp h
  rw [← ew0] at hK
  have h := hw0
  exact F_X11_falls_76_ok X hr hlk v2 t13.2 _ h hK H locs ls O (lv_sub hl [2] rfl)
set_option maxRecDepth 100000 in
set_option maxHeartbeats 4000000 in
theorem F_X11_falls_40_ok (X : xX p s m args c cX11_falls 3 RX11 κ) (hr : meth.sig.returnType = (some .int)) (hlk : meth.locks = false) {ro : Int32} {mo : xM} (v0 : Nat) (v1 : Int32) (v2 : Int32) (M : xM) (x : Int32 × xM) (h : F_X11_falls_40 v0 v1 v2 M = some x) (hK : (fun o => o = (ro, mo)) x) (H : Heap) (locs : List Loc) (ls : Array Slot) (O : xO κ s M H locs) (hl : lv_has ls 3 [(0, .ref (κ.1 + v0)), (1, .int v1), (2, .int v2)]) : W p l e (xRm 7 0 0) s m args below meth c H locs 0 0 (xQf below args s 0 0 κ (some (.int ro)) mo) (F0 m 40 ls []) := by
  refine xit_K (Wh := fun x => ∀ (H : Heap) (locs : List Loc) (ls : Array Slot), xO κ s x.2 H locs → lv_has ls 3 [(0, .ref (κ.1 + v0)), (1, .int v1), (2, .int x.1)] → W p l e (xRm 7 0 0) s m args below meth c H locs 0 0 (xQf below args s 0 0 κ (some (.int ro)) mo) (F0 m 40 ls [])) (Kp := (fun o => o = (ro, mo))) ?_ xFU (v2, M) x h hK H locs ls O hl
  intro y x h hK H locs ls O hl
  exact F_X11_falls_40_bok X hr hlk v0 v1 y.1 (fun _ _ hw => hw) y.2 x h hK H locs ls O hl
set_option maxRecDepth 100000 in
set_option maxHeartbeats 4000000 in
theorem T_X11_falls (l : Launch) (κ : xQ) (a0 : Nat) (a1 : Int32) (M : xM) (ro : Int32) (mo : xM) (h : F_X11_falls a0 a1 M = some (ro, mo)) : xC l yX11_falls cX11_falls 3 (some .int) 7 0 0 κ [.ref (κ.1 + a0), .int a1] M (some (.int ro)) mo := by
  refine xC_of rfl (Nat.le_of_ble_eq_true rfl) fun p e s m args below meth c X hr hlk hnm H locs ls O hl => ?_
  have X : xX p s m args c cX11_falls 3 RX11 κ := X
  have hl : lv_has ls 3 [(0, .ref (κ.1 + a0)), (1, .int a1)] := hl
  have hx := X.1
  have hb := X.2.1
  obtain ⟨x, hx0⟩ : ∃ x, (ro, mo) = x := ⟨_, rfl⟩
  rw [hx0] at h
  have hK : x = (ro, mo) := hx0.symm
  unfold F_X11_falls at h
  refine lv_aload_n hx hb dX11_falls_0 rfl (lv_at hl 0 rfl) ?_
  refine lv_iload_n hx hb dX11_falls_1 rfl (lv_at hl 1 rfl) ?_
  obtain ⟨_, hut1, h⟩ := Option.bind_eq_some_iff.mp h
  obtain ⟨t2, ht2, h⟩ := Option.bind_eq_some_iff.mp h
  refine xr_callV (rest := []) X O (T_X11_isHouse l κ a0 a1 M _ _ ht2) lk_X11_139 hut1 (Nat.le_of_ble_eq_true rfl) rfl hl.1 rfl (Nat.le_of_ble_eq_true rfl) dX11_falls_2 ⟨Nat.le_of_ble_eq_true rfl, Nat.le_of_ble_eq_true rfl⟩ (fun H locs O => ?_)
  refine W.eq (g2 := F0 m 5 ls [.int t2.1]) rfl ?_
  refine lv_if_ne (tgt := 11) hx hb dX11_falls_5 (by decide) (fun hc5 => ?_) (fun hc5 => ?_)
  · rw [if_neg hc5] at h
    refine lv_aload_n hx hb dX11_falls_11 rfl (lv_at hl 0 rfl) ?_
    obtain ⟨t3, ht3, h⟩ := Option.bind_eq_some_iff.mp h
    refine xr_getP X O ht3 fl_X11_26 dX11_falls_12 ?_
    obtain ⟨t4, ht4, h⟩ := Option.bind_eq_some_iff.mp h
    refine xr_getI X O ht4 fl_X11_148 (Or.inl rfl) dX11_falls_15 ?_
    refine lv_iload_n hx hb dX11_falls_18 rfl (lv_at hl 1 rfl) ?_
    refine lv_ishr hx hb dX11_falls_19 ?_
    refine lv_iconst (v := (1 : Int32)) hx hb dX11_falls_20 (by decide) ?_
    refine lv_iand hx hb dX11_falls_21 ?_
    refine lv_if_ne (tgt := 27) hx hb dX11_falls_22 (by decide) (fun hc22 => ?_) (fun hc22 => ?_)
    · rw [if_neg hc22] at h
      refine lv_aload_n hx hb dX11_falls_27 rfl (lv_at hl 0 rfl) ?_
      obtain ⟨t5, ht5, h⟩ := Option.bind_eq_some_iff.mp h
      refine xr_getP X O ht5 fl_X11_30 dX11_falls_28 ?_
      refine lv_aload_n hx hb dX11_falls_31 rfl (lv_at hl 0 rfl) ?_
      obtain ⟨t6, ht6, h⟩ := Option.bind_eq_some_iff.mp h
      refine xr_getP X O ht6 fl_X11_26 dX11_falls_32 ?_
      obtain ⟨_, hut7, h⟩ := Option.bind_eq_some_iff.mp h
      obtain ⟨t8, ht8, h⟩ := Option.bind_eq_some_iff.mp h
      refine xr_callV (rest := []) X O (T_X0_take l κ t5 t6 t2.2 _ ht8) lk_X11_121 hut7 (Nat.le_of_ble_eq_true rfl) rfl hl.1 rfl (Nat.le_of_ble_eq_true rfl) dX11_falls_35 ⟨Nat.le_of_ble_eq_true rfl, Nat.le_of_ble_eq_true rfl⟩ (fun H locs O => ?_)
      refine W.eq (g2 := F0 m 38 ls []) rfl ?_
      refine lv_iconst (v := (1 : Int32)) hx hb dX11_falls_38 (by decide) ?_
      refine lv_istore_n (lv' := [(2, .int (1 : Int32)), (0, .ref (κ.1 + a0)), (1, .int a1)]) hx hb dX11_falls_39 rfl hl (by decide) rfl (fun ls hl => ?_)
      exact F_X11_falls_40_ok X hr hlk a0 a1 (1 : Int32) t8 _ h hK H locs ls O (lv_sub hl [1, 2, 0] rfl)
    rw [if_pos hc22] at h
    refine lv_iconst (v := (-1 : Int32)) hx hb dX11_falls_25 (by decide) ?_
    rw [← Option.some.inj h] at hK
    have hK : ((-1 : Int32), t2.2) = (ro, mo) := hK
    obtain ⟨hK1, hK2⟩ := Prod.mk.inj hK
    rw [hK2] at O
    refine xr_top (w := .int ro) (by rw [hK1]) ?_
    exact xr_iret X hr hlk O dX11_falls_26
  rw [if_pos hc5] at h
  refine lv_bipush (v := (-2 : Int32)) hx hb dX11_falls_8 (by decide) ?_
  rw [← Option.some.inj h] at hK
  have hK : ((-2 : Int32), t2.2) = (ro, mo) := hK
  obtain ⟨hK1, hK2⟩ := Prod.mk.inj hK
  rw [hK2] at O
  refine xr_top (w := .int ro) (by rw [hK1]) ?_
  exact xr_iret X hr hlk O dX11_falls_10
def F_X11_isAhead_14 (M : xM) : Option (Int32 × xM) :=
(xz (0 : Int32)).bind fun t2 =>
some (t2, M)
def F_X11_isAhead (a0 : Int32) (M : xM) : Option (Int32 × xM) :=
if a0 < 0 then (
F_X11_isAhead_14 M)
else (
if (60 : Int32) < a0 then (
F_X11_isAhead_14 M)
else (
(xz (1 : Int32)).bind fun t1 =>
some (t1, M)))
set_option maxRecDepth 100000 in
set_option maxHeartbeats 4000000 in
theorem F_X11_isAhead_14_ok (X : xX p s m args c cX11_isAhead 1 RX11 κ) (hr : meth.sig.returnType = (some .boolean)) (hlk : meth.locks = false) {ro : Int32} {mo : xM} (M : xM) (x : Int32 × xM) (h : F_X11_isAhead_14 M = some x) (hK : (fun o => o = (ro, mo)) x) (H : Heap) (locs : List Loc) (ls : Array Slot) (O : xO κ s M H locs) (hl : lv_has ls 1 []) : W p l e (xRm 2 0 0) s m args below meth c H locs 0 0 (xQf below args s 0 0 κ (some (.int ro)) mo) (F0 m 14 ls []) := by
  unfold F_X11_isAhead_14 at h
  have hx := X.1
  have hb := X.2.1
  refine lv_iconst (v := (0 : Int32)) hx hb dX11_isAhead_14 (by decide) ?_
  obtain ⟨t2, ht2, h⟩ := Option.bind_eq_some_iff.mp h
  rw [← Option.some.inj h] at hK
  have hK : (t2, M) = (ro, mo) := hK
  obtain ⟨hK1, hK2⟩ := Prod.mk.inj hK
  rw [hK1] at ht2
  rw [hK2] at O
  exact xr_zret X hr hlk O ht2 dX11_isAhead_15
set_option maxRecDepth 100000 in
set_option maxHeartbeats 4000000 in
theorem T_X11_isAhead (l : Launch) (κ : xQ) (a0 : Int32) (M : xM) (ro : Int32) (mo : xM) (h : F_X11_isAhead a0 M = some (ro, mo)) : xC l yX11_isAhead cX11_isAhead 1 (some .boolean) 2 0 0 κ [.int a0] M (some (.int ro)) mo := by
  refine xC_of rfl (Nat.le_of_ble_eq_true rfl) fun p e s m args below meth c X hr hlk hnm H locs ls O hl => ?_
  have X : xX p s m args c cX11_isAhead 1 RX11 κ := X
  have hl : lv_has ls 1 [(0, .int a0)] := hl
  have hx := X.1
  have hb := X.2.1
  obtain ⟨x, hx0⟩ : ∃ x, (ro, mo) = x := ⟨_, rfl⟩
  rw [hx0] at h
  have hK : x = (ro, mo) := hx0.symm
  unfold F_X11_isAhead at h
  refine lv_iload_n hx hb dX11_isAhead_0 rfl (lv_at hl 0 rfl) ?_
  refine lv_if_lt (tgt := 14) hx hb dX11_isAhead_1 (by decide) (fun hc1 => ?_) (fun hc1 => ?_)
  · rw [if_pos hc1] at h
    exact F_X11_isAhead_14_ok X hr hlk  M _ h hK H locs ls O (lv_sub hl [] rfl)
  rw [if_neg hc1] at h
  refine lv_iload_n hx hb dX11_isAhead_4 rfl (lv_at hl 0 rfl) ?_
  refine lv_bipush (v := (60 : Int32)) hx hb dX11_isAhead_5 (by decide) ?_
  refine lv_icmp_gt (tgt := 14) hx hb dX11_isAhead_7 (by decide) (fun hc7 => ?_) (fun hc7 => ?_)
  · rw [if_pos hc7] at h
    exact F_X11_isAhead_14_ok X hr hlk  M _ h hK H locs ls O (lv_sub hl [] rfl)
  rw [if_neg hc7] at h
  refine lv_iconst (v := (1 : Int32)) hx hb dX11_isAhead_10 (by decide) ?_
  refine lv_goto (tgt := 15) hx hb dX11_isAhead_11 (by decide) ?_
  obtain ⟨t1, ht1, h⟩ := Option.bind_eq_some_iff.mp h
  rw [← Option.some.inj h] at hK
  have hK : (t1, M) = (ro, mo) := hK
  obtain ⟨hK1, hK2⟩ := Prod.mk.inj hK
  rw [hK1] at ht1
  rw [hK2] at O
  exact xr_zret X hr hlk O ht1 dX11_isAhead_15
def F_X11_goOn_40 (M : xM) : Option (xM) :=
some M
def F_X11_goOn_13b (v0 : Nat) (v1 : Int32) : (Int32 × xM) → Option ((Int32 × xM) ⊕ (xM)) := fun ⟨v2, M⟩ =>
if v1 ≤ v2 then (
(F_X11_goOn_40 M).map Sum.inr)
else (
(xgP M v0 11 5).bind fun t5 =>
(xgP M v0 11 2).bind fun t6 =>
(xgP M v0 11 4).bind fun t7 =>
(xck M t5 8).bind fun _ =>
(F_X8_tick t5 t6 t7 M).bind fun t9 =>
some (.inl ((v2 + 1), t9.2)))
def F_X11_goOn_13 (v0 : Nat) (v1 : Int32) (v2 : Int32) (M : xM) : Option (xM) := xit (F_X11_goOn_13b v0 v1) xFU (v2, M)
def F_X11_goOn (a0 : Nat) (a1 : Int32) (M : xM) : Option (xM) :=
(xgP M a0 11 4).bind fun t1 =>
(xgP M a0 11 3).bind fun t2 =>
(xck M t1 0).bind fun _ =>
(F_X0_take t1 t2 M).bind fun t4 =>
F_X11_goOn_13 a0 a1 (0 : Int32) t4
set_option maxRecDepth 100000 in
set_option maxHeartbeats 4000000 in
theorem F_X11_goOn_40_ok (X : xX p s m args c cX11_goOn 3 RX11 κ) (hr : meth.sig.returnType = none) (hlk : meth.locks = false) {mo : xM} (M : xM) (x : xM) (h : F_X11_goOn_40 M = some x) (hK : (fun o => o = mo) x) (H : Heap) (locs : List Loc) (ls : Array Slot) (O : xO κ s M H locs) (hl : lv_has ls 3 []) : W p l e (xRm 7 0 0) s m args below meth c H locs 0 0 (xQf below args s 0 0 κ none mo) (F0 m 40 ls []) := by
  unfold F_X11_goOn_40 at h
  have hx := X.1
  have hb := X.2.1
  rw [← Option.some.inj h] at hK
  have hK : M = mo := hK
  rw [hK] at O
  exact xr_vret X hr hlk O dX11_goOn_40
set_option maxRecDepth 100000 in
set_option maxHeartbeats 4000000 in
theorem F_X11_goOn_13_bok (X : xX p s m args c cX11_goOn 3 RX11 κ) (hr : meth.sig.returnType = none) (hlk : meth.locks = false) {mo : xM} (v0 : Nat) (v1 : Int32) (v2 : Int32) {W13 : Int32 × xM → Prop} (hW13 : ∀ (v2 : Int32) (M : xM), W13 (v2, M) → ∀ (H : Heap) (locs : List Loc) (ls : Array Slot), xO κ s M H locs → lv_has ls 3 [(0, .ref (κ.1 + v0)), (1, .int v1), (2, .int v2)] → W p l e (xRm 7 0 0) s m args below meth c H locs 0 0 (xQf below args s 0 0 κ none mo) (F0 m 13 ls [])) (M : xM) (x : (Int32 × xM) ⊕ (xM)) (h : F_X11_goOn_13b v0 v1 (v2, M) = some x) (hK : (xKl W13 (fun o => o = mo)) x) (H : Heap) (locs : List Loc) (ls : Array Slot) (O : xO κ s M H locs) (hl : lv_has ls 3 [(0, .ref (κ.1 + v0)), (1, .int v1), (2, .int v2)]) : W p l e (xRm 7 0 0) s m args below meth c H locs 0 0 (xQf below args s 0 0 κ none mo) (F0 m 13 ls []) := by
  unfold F_X11_goOn_13b at h
  dsimp only at h
  have hx := X.1
  have hb := X.2.1
  refine lv_iload_n hx hb dX11_goOn_13 rfl (lv_at hl 2 rfl) ?_
  refine lv_iload_n hx hb dX11_goOn_14 rfl (lv_at hl 1 rfl) ?_
  refine lv_icmp_ge (tgt := 40) hx hb dX11_goOn_15 (by decide) (fun hc15 => ?_) (fun hc15 => ?_)
  · rw [if_pos hc15] at h
    obtain ⟨_, hw0, ew0⟩ := Option.map_eq_some_iff.mp h
    rw [← ew0] at hK
    have h := hw0
    exact F_X11_goOn_40_ok X hr hlk  M _ h hK H locs ls O (lv_sub hl [] rfl)
  rw [if_neg hc15] at h
  refine lv_aload_n hx hb dX11_goOn_18 rfl (lv_at hl 0 rfl) ?_
  obtain ⟨t5, ht5, h⟩ := Option.bind_eq_some_iff.mp h
  refine xr_getP X O ht5 fl_X11_36 dX11_goOn_19 ?_
  refine lv_aload_n hx hb dX11_goOn_22 rfl (lv_at hl 0 rfl) ?_
  obtain ⟨t6, ht6, h⟩ := Option.bind_eq_some_iff.mp h
  refine xr_getP X O ht6 fl_X11_19 dX11_goOn_23 ?_
  refine lv_aload_n hx hb dX11_goOn_26 rfl (lv_at hl 0 rfl) ?_
  obtain ⟨t7, ht7, h⟩ := Option.bind_eq_some_iff.mp h
  refine xr_getP X O ht7 fl_X11_30 dX11_goOn_27 ?_
  obtain ⟨_, hut8, h⟩ := Option.bind_eq_some_iff.mp h
  obtain ⟨t9, ht9, h⟩ := Option.bind_eq_some_iff.mp h
  refine xr_callV (rest := []) X O (T_X8_tick l κ t5 t6 t7 M _ _ ht9) lk_X11_181 hut8 (Nat.le_of_ble_eq_true rfl) rfl hl.1 rfl (Nat.le_of_ble_eq_true rfl) dX11_goOn_30 ⟨Nat.le_of_ble_eq_true rfl, Nat.le_of_ble_eq_true rfl⟩ (fun H locs O => ?_)
  refine W.eq (g2 := F0 m 33 ls [.int t9.1]) rfl ?_
  refine lv_pop hx hb dX11_goOn_33 rfl ?_
  refine lv_iinc (v := (v2 + 1)) (lv' := [(2, .int (v2 + 1)), (0, .ref (κ.1 + v0)), (1, .int v1)]) hx hb dX11_goOn_34 hl (k := 2) rfl rfl (by decide) rfl (fun ls hl => ?_)
  refine lv_goto (tgt := 13) hx hb dX11_goOn_37 (by decide) ?_
  rw [← Option.some.inj h] at hK
  exact hW13 (v2 + 1) t9.2 hK H locs ls O (lv_sub hl [1, 2, 0] rfl)
set_option maxRecDepth 100000 in
set_option maxHeartbeats 4000000 in
theorem F_X11_goOn_13_ok (X : xX p s m args c cX11_goOn 3 RX11 κ) (hr : meth.sig.returnType = none) (hlk : meth.locks = false) {mo : xM} (v0 : Nat) (v1 : Int32) (v2 : Int32) (M : xM) (x : xM) (h : F_X11_goOn_13 v0 v1 v2 M = some x) (hK : (fun o => o = mo) x) (H : Heap) (locs : List Loc) (ls : Array Slot) (O : xO κ s M H locs) (hl : lv_has ls 3 [(0, .ref (κ.1 + v0)), (1, .int v1), (2, .int v2)]) : W p l e (xRm 7 0 0) s m args below meth c H locs 0 0 (xQf below args s 0 0 κ none mo) (F0 m 13 ls []) := by
  refine xit_K (Wh := fun x => ∀ (H : Heap) (locs : List Loc) (ls : Array Slot), xO κ s x.2 H locs → lv_has ls 3 [(0, .ref (κ.1 + v0)), (1, .int v1), (2, .int x.1)] → W p l e (xRm 7 0 0) s m args below meth c H locs 0 0 (xQf below args s 0 0 κ none mo) (F0 m 13 ls [])) (Kp := (fun o => o = mo)) ?_ xFU (v2, M) x h hK H locs ls O hl
  intro y x h hK H locs ls O hl
  exact F_X11_goOn_13_bok X hr hlk v0 v1 y.1 (fun _ _ hw => hw) y.2 x h hK H locs ls O hl
set_option maxRecDepth 100000 in
set_option maxHeartbeats 4000000 in
theorem T_X11_goOn (l : Launch) (κ : xQ) (a0 : Nat) (a1 : Int32) (M : xM) (mo : xM) (h : F_X11_goOn a0 a1 M = some mo) : xC l yX11_goOn cX11_goOn 3 none 7 0 0 κ [.ref (κ.1 + a0), .int a1] M none mo := by
  refine xC_of rfl (Nat.le_of_ble_eq_true rfl) fun p e s m args below meth c X hr hlk hnm H locs ls O hl => ?_
  have X : xX p s m args c cX11_goOn 3 RX11 κ := X
  have hl : lv_has ls 3 [(0, .ref (κ.1 + a0)), (1, .int a1)] := hl
  have hx := X.1
  have hb := X.2.1
  obtain ⟨x, hx0⟩ : ∃ x, mo = x := ⟨_, rfl⟩
  rw [hx0] at h
  have hK : x = mo := hx0.symm
  unfold F_X11_goOn at h
  refine lv_aload_n hx hb dX11_goOn_0 rfl (lv_at hl 0 rfl) ?_
  obtain ⟨t1, ht1, h⟩ := Option.bind_eq_some_iff.mp h
  refine xr_getP X O ht1 fl_X11_30 dX11_goOn_1 ?_
  refine lv_aload_n hx hb dX11_goOn_4 rfl (lv_at hl 0 rfl) ?_
  obtain ⟨t2, ht2, h⟩ := Option.bind_eq_some_iff.mp h
  refine xr_getP X O ht2 fl_X11_26 dX11_goOn_5 ?_
  obtain ⟨_, hut3, h⟩ := Option.bind_eq_some_iff.mp h
  obtain ⟨t4, ht4, h⟩ := Option.bind_eq_some_iff.mp h
  refine xr_callV (rest := []) X O (T_X0_take l κ t1 t2 M _ ht4) lk_X11_121 hut3 (Nat.le_of_ble_eq_true rfl) rfl hl.1 rfl (Nat.le_of_ble_eq_true rfl) dX11_goOn_8 ⟨Nat.le_of_ble_eq_true rfl, Nat.le_of_ble_eq_true rfl⟩ (fun H locs O => ?_)
  refine W.eq (g2 := F0 m 11 ls []) rfl ?_
  refine lv_iconst (v := (0 : Int32)) hx hb dX11_goOn_11 (by decide) ?_
  refine lv_istore_n (lv' := [(2, .int (0 : Int32)), (0, .ref (κ.1 + a0)), (1, .int a1)]) hx hb dX11_goOn_12 rfl hl (by decide) rfl (fun ls hl => ?_)
  exact F_X11_goOn_13_ok X hr hlk a0 a1 (0 : Int32) t4 _ h hK H locs ls O (lv_sub hl [1, 2, 0] rfl)
def F_X11_stands (a0 : Nat) (a1 : Int32) (M : xM) : Option (Int32 × xM) :=
(F_X11_isAhead a1 M).bind fun t1 =>
if t1.1 = 0 then (
some ((-3 : Int32), t1.2))
else (
(xck t1.2 a0 11).bind fun _ =>
(F_X11_goOn a0 a1 t1.2).bind fun t3 =>
(xgP t3 a0 11 4).bind fun t4 =>
(xgI t3 t4 0 4).bind fun t5 =>
some (t5, t3))
set_option maxRecDepth 100000 in
set_option maxHeartbeats 4000000 in
theorem T_X11_stands (l : Launch) (κ : xQ) (a0 : Nat) (a1 : Int32) (M : xM) (ro : Int32) (mo : xM) (h : F_X11_stands a0 a1 M = some (ro, mo)) : xC l yX11_stands cX11_stands 2 (some .int) 8 0 0 κ [.ref (κ.1 + a0), .int a1] M (some (.int ro)) mo := by
  refine xC_of rfl (Nat.le_of_ble_eq_true rfl) fun p e s m args below meth c X hr hlk hnm H locs ls O hl => ?_
  have X : xX p s m args c cX11_stands 2 RX11 κ := X
  have hl : lv_has ls 2 [(0, .ref (κ.1 + a0)), (1, .int a1)] := hl
  have hx := X.1
  have hb := X.2.1
  obtain ⟨x, hx0⟩ : ∃ x, (ro, mo) = x := ⟨_, rfl⟩
  rw [hx0] at h
  have hK : x = (ro, mo) := hx0.symm
  unfold F_X11_stands at h
  refine lv_iload_n hx hb dX11_stands_0 rfl (lv_at hl 1 rfl) ?_
  obtain ⟨t1, ht1, h⟩ := Option.bind_eq_some_iff.mp h
  refine xr_callS (rest := []) X O (T_X11_isAhead l κ a1 M _ _ ht1) lk_X11_253 (Nat.le_of_ble_eq_true rfl) rfl hl.1 rfl (Nat.le_of_ble_eq_true rfl) dX11_stands_1 ⟨Nat.le_of_ble_eq_true rfl, Nat.le_of_ble_eq_true rfl⟩ (fun H locs O => ?_)
  refine W.eq (g2 := F0 m 4 ls [.int t1.1]) rfl ?_
  refine lv_if_ne (tgt := 10) hx hb dX11_stands_4 (by decide) (fun hc4 => ?_) (fun hc4 => ?_)
  · rw [if_neg hc4] at h
    refine lv_aload_n hx hb dX11_stands_10 rfl (lv_at hl 0 rfl) ?_
    refine lv_iload_n hx hb dX11_stands_11 rfl (lv_at hl 1 rfl) ?_
    obtain ⟨_, hut2, h⟩ := Option.bind_eq_some_iff.mp h
    obtain ⟨t3, ht3, h⟩ := Option.bind_eq_some_iff.mp h
    refine xr_callV (rest := []) X O (T_X11_goOn l κ a0 a1 t1.2 _ ht3) lk_X11_256 hut2 (Nat.le_of_ble_eq_true rfl) rfl hl.1 rfl (Nat.le_of_ble_eq_true rfl) dX11_stands_12 ⟨Nat.le_of_ble_eq_true rfl, Nat.le_of_ble_eq_true rfl⟩ (fun H locs O => ?_)
    refine W.eq (g2 := F0 m 15 ls []) rfl ?_
    refine lv_aload_n hx hb dX11_stands_15 rfl (lv_at hl 0 rfl) ?_
    obtain ⟨t4, ht4, h⟩ := Option.bind_eq_some_iff.mp h
    refine xr_getP X O ht4 fl_X11_30 dX11_stands_16 ?_
    obtain ⟨t5, ht5, h⟩ := Option.bind_eq_some_iff.mp h
    refine xr_getI X O ht5 fl_X11_148 (Or.inl rfl) dX11_stands_19 ?_
    rw [← Option.some.inj h] at hK
    have hK : (t5, t3) = (ro, mo) := hK
    obtain ⟨hK1, hK2⟩ := Prod.mk.inj hK
    rw [hK2] at O
    refine xr_top (w := .int ro) (by rw [hK1]) ?_
    exact xr_iret X hr hlk O dX11_stands_22
  rw [if_pos hc4] at h
  refine lv_bipush (v := (-3 : Int32)) hx hb dX11_stands_7 (by decide) ?_
  rw [← Option.some.inj h] at hK
  have hK : ((-3 : Int32), t1.2) = (ro, mo) := hK
  obtain ⟨hK1, hK2⟩ := Prod.mk.inj hK
  rw [hK2] at O
  refine xr_top (w := .int ro) (by rw [hK1]) ?_
  exact xr_iret X hr hlk O dX11_stands_9
def F_X11_when_52 (v2 : Int32) (M : xM) : Option (Int32 × xM) :=
some (v2, M)
def F_X11_when_60 (M : xM) : Option (Int32 × xM) :=
some ((-1 : Int32), M)
def F_X11_when_24b (v0 : Nat) (v1 : Int32) : (Int32 × xM) → Option ((Int32 × xM) ⊕ (Int32 × xM)) := fun ⟨v2, M⟩ =>
if (60 : Int32) < v2 then (
(F_X11_when_60 M).map Sum.inr)
else (
(xgP M v0 11 5).bind fun t7 =>
(xgP M v0 11 2).bind fun t8 =>
(xgP M v0 11 4).bind fun t9 =>
(xck M t7 8).bind fun _ =>
(F_X8_tick t7 t8 t9 M).bind fun t11 =>
if ((t11.1 >>> (v1 &&& 31)) &&& (1 : Int32)) = 0 then (
some (.inl ((v2 + 1), t11.2)))
else (
(F_X11_when_52 v2 t11.2).map Sum.inr))
def F_X11_when_24 (v0 : Nat) (v1 : Int32) (v2 : Int32) (M : xM) : Option (Int32 × xM) := xit (F_X11_when_24b v0 v1) xFU (v2, M)
def F_X11_when (a0 : Nat) (a1 : Int32) (M : xM) : Option (Int32 × xM) :=
(xck M a0 11).bind fun _ =>
(F_X11_isCell a0 a1 M).bind fun t2 =>
if t2.1 = 0 then (
some ((-2 : Int32), t2.2))
else (
(xgP t2.2 a0 11 4).bind fun t3 =>
(xgP t2.2 a0 11 3).bind fun t4 =>
(xck t2.2 t3 0).bind fun _ =>
(F_X0_take t3 t4 t2.2).bind fun t6 =>
F_X11_when_24 a0 a1 (1 : Int32) t6)
set_option maxRecDepth 100000 in
set_option maxHeartbeats 4000000 in
theorem F_X11_when_52_ok (X : xX p s m args c cX11_when 3 RX11 κ) (hr : meth.sig.returnType = (some .int)) (hlk : meth.locks = false) {ro : Int32} {mo : xM} (v2 : Int32) (M : xM) (x : Int32 × xM) (h : F_X11_when_52 v2 M = some x) (hK : (fun o => o = (ro, mo)) x) (H : Heap) (locs : List Loc) (ls : Array Slot) (O : xO κ s M H locs) (hl : lv_has ls 3 [(2, .int v2)]) : W p l e (xRm 7 0 0) s m args below meth c H locs 0 0 (xQf below args s 0 0 κ (some (.int ro)) mo) (F0 m 52 ls []) := by
  unfold F_X11_when_52 at h
  have hx := X.1
  have hb := X.2.1
  refine lv_iload_n hx hb dX11_when_52 rfl (lv_at hl 0 rfl) ?_
  rw [← Option.some.inj h] at hK
  have hK : (v2, M) = (ro, mo) := hK
  obtain ⟨hK1, hK2⟩ := Prod.mk.inj hK
  rw [hK2] at O
  refine xr_top (w := .int ro) (by rw [hK1]) ?_
  exact xr_iret X hr hlk O dX11_when_53
set_option maxRecDepth 100000 in
set_option maxHeartbeats 4000000 in
theorem F_X11_when_60_ok (X : xX p s m args c cX11_when 3 RX11 κ) (hr : meth.sig.returnType = (some .int)) (hlk : meth.locks = false) {ro : Int32} {mo : xM} (M : xM) (x : Int32 × xM) (h : F_X11_when_60 M = some x) (hK : (fun o => o = (ro, mo)) x) (H : Heap) (locs : List Loc) (ls : Array Slot) (O : xO κ s M H locs) (hl : lv_has ls 3 []) : W p l e (xRm 7 0 0) s m args below meth c H locs 0 0 (xQf below args s 0 0 κ (some (.int ro)) mo) (F0 m 60 ls []) := by
  unfold F_X11_when_60 at h
  have hx := X.1
  have hb := X.2.1
  refine lv_iconst (v := (-1 : Int32)) hx hb dX11_when_60 (by decide) ?_
  rw [← Option.some.inj h] at hK
  have hK : ((-1 : Int32), M) = (ro, mo) := hK
  obtain ⟨hK1, hK2⟩ := Prod.mk.inj hK
  rw [hK2] at O
  refine xr_top (w := .int ro) (by rw [hK1]) ?_
  exact xr_iret X hr hlk O dX11_when_61
set_option maxRecDepth 100000 in
set_option maxHeartbeats 4000000 in
theorem F_X11_when_24_bok (X : xX p s m args c cX11_when 3 RX11 κ) (hr : meth.sig.returnType = (some .int)) (hlk : meth.locks = false) {ro : Int32} {mo : xM} (v0 : Nat) (v1 : Int32) (v2 : Int32) {W24 : Int32 × xM → Prop} (hW24 : ∀ (v2 : Int32) (M : xM), W24 (v2, M) → ∀ (H : Heap) (locs : List Loc) (ls : Array Slot), xO κ s M H locs → lv_has ls 3 [(0, .ref (κ.1 + v0)), (1, .int v1), (2, .int v2)] → W p l e (xRm 7 0 0) s m args below meth c H locs 0 0 (xQf below args s 0 0 κ (some (.int ro)) mo) (F0 m 24 ls [])) (M : xM) (x : (Int32 × xM) ⊕ (Int32 × xM)) (h : F_X11_when_24b v0 v1 (v2, M) = some x) (hK : (xKl W24 (fun o => o = (ro, mo))) x) (H : Heap) (locs : List Loc) (ls : Array Slot) (O : xO κ s M H locs) (hl : lv_has ls 3 [(0, .ref (κ.1 + v0)), (1, .int v1), (2, .int v2)]) : W p l e (xRm 7 0 0) s m args below meth c H locs 0 0 (xQf below args s 0 0 κ (some (.int ro)) mo) (F0 m 24 ls []) := by
  unfold F_X11_when_24b at h
  dsimp only at h
  have hx := X.1
  have hb := X.2.1
  refine lv_iload_n hx hb dX11_when_24 rfl (lv_at hl 2 rfl) ?_
  refine lv_bipush (v := (60 : Int32)) hx hb dX11_when_25 (by decide) ?_
  refine lv_icmp_gt (tgt := 60) hx hb dX11_when_27 (by decide) (fun hc27 => ?_) (fun hc27 => ?_)
  · rw [if_pos hc27] at h
    obtain ⟨_, hw0, ew0⟩ := Option.map_eq_some_iff.mp h
    rw [← ew0] at hK
    have h := hw0
    exact F_X11_when_60_ok X hr hlk  M _ h hK H locs ls O (lv_sub hl [] rfl)
  rw [if_neg hc27] at h
  refine lv_aload_n hx hb dX11_when_30 rfl (lv_at hl 0 rfl) ?_
  obtain ⟨t7, ht7, h⟩ := Option.bind_eq_some_iff.mp h
  refine xr_getP X O ht7 fl_X11_36 dX11_when_31 ?_
  refine lv_aload_n hx hb dX11_when_34 rfl (lv_at hl 0 rfl) ?_
  obtain ⟨t8, ht8, h⟩ := Option.bind_eq_some_iff.mp h
  refine xr_getP X O ht8 fl_X11_19 dX11_when_35 ?_
  refine lv_aload_n hx hb dX11_when_38 rfl (lv_at hl 0 rfl) ?_
  obtain ⟨t9, ht9, h⟩ := Option.bind_eq_some_iff.mp h
  refine xr_getP X O ht9 fl_X11_30 dX11_when_39 ?_
  obtain ⟨_, hut10, h⟩ := Option.bind_eq_some_iff.mp h
  obtain ⟨t11, ht11, h⟩ := Option.bind_eq_some_iff.mp h
  refine xr_callV (rest := []) X O (T_X8_tick l κ t7 t8 t9 M _ _ ht11) lk_X11_181 hut10 (Nat.le_of_ble_eq_true rfl) rfl hl.1 rfl (Nat.le_of_ble_eq_true rfl) dX11_when_42 ⟨Nat.le_of_ble_eq_true rfl, Nat.le_of_ble_eq_true rfl⟩ (fun H locs O => ?_)
  refine W.eq (g2 := F0 m 45 ls [.int t11.1]) rfl ?_
  refine lv_iload_n hx hb dX11_when_45 rfl (lv_at hl 1 rfl) ?_
  refine lv_ishr hx hb dX11_when_46 ?_
  refine lv_iconst (v := (1 : Int32)) hx hb dX11_when_47 (by decide) ?_
  refine lv_iand hx hb dX11_when_48 ?_
  refine lv_if_eq (tgt := 54) hx hb dX11_when_49 (by decide) (fun hc49 => ?_) (fun hc49 => ?_)
  · rw [if_pos hc49] at h
    refine lv_iinc (v := (v2 + 1)) (lv' := [(2, .int (v2 + 1)), (0, .ref (κ.1 + v0)), (1, .int v1)]) hx hb dX11_when_54 hl (k := 2) rfl rfl (by decide) rfl (fun ls hl => ?_)
    refine lv_goto (tgt := 24) hx hb dX11_when_57 (by decide) ?_
    rw [← Option.some.inj h] at hK
    exact hW24 (v2 + 1) t11.2 hK H locs ls O (lv_sub hl [1, 2, 0] rfl)
  rw [if_neg hc49] at h
  obtain ⟨_, hw0, ew0⟩ := Option.map_eq_some_iff.mp h
  rw [← ew0] at hK
  have h := hw0
  exact F_X11_when_52_ok X hr hlk v2 t11.2 _ h hK H locs ls O (lv_sub hl [2] rfl)
set_option maxRecDepth 100000 in
set_option maxHeartbeats 4000000 in
theorem F_X11_when_24_ok (X : xX p s m args c cX11_when 3 RX11 κ) (hr : meth.sig.returnType = (some .int)) (hlk : meth.locks = false) {ro : Int32} {mo : xM} (v0 : Nat) (v1 : Int32) (v2 : Int32) (M : xM) (x : Int32 × xM) (h : F_X11_when_24 v0 v1 v2 M = some x) (hK : (fun o => o = (ro, mo)) x) (H : Heap) (locs : List Loc) (ls : Array Slot) (O : xO κ s M H locs) (hl : lv_has ls 3 [(0, .ref (κ.1 + v0)), (1, .int v1), (2, .int v2)]) : W p l e (xRm 7 0 0) s m args below meth c H locs 0 0 (xQf below args s 0 0 κ (some (.int ro)) mo) (F0 m 24 ls []) := by
  refine xit_K (Wh := fun x => ∀ (H : Heap) (locs : List Loc) (ls : Array Slot), xO κ s x.2 H locs → lv_has ls 3 [(0, .ref (κ.1 + v0)), (1, .int v1), (2, .int x.1)] → W p l e (xRm 7 0 0) s m args below meth c H locs 0 0 (xQf below args s 0 0 κ (some (.int ro)) mo) (F0 m 24 ls [])) (Kp := (fun o => o = (ro, mo))) ?_ xFU (v2, M) x h hK H locs ls O hl
  intro y x h hK H locs ls O hl
  exact F_X11_when_24_bok X hr hlk v0 v1 y.1 (fun _ _ hw => hw) y.2 x h hK H locs ls O hl
set_option maxRecDepth 100000 in
set_option maxHeartbeats 4000000 in
theorem T_X11_when (l : Launch) (κ : xQ) (a0 : Nat) (a1 : Int32) (M : xM) (ro : Int32) (mo : xM) (h : F_X11_when a0 a1 M = some (ro, mo)) : xC l yX11_when cX11_when 3 (some .int) 7 0 0 κ [.ref (κ.1 + a0), .int a1] M (some (.int ro)) mo := by
  refine xC_of rfl (Nat.le_of_ble_eq_true rfl) fun p e s m args below meth c X hr hlk hnm H locs ls O hl => ?_
  have X : xX p s m args c cX11_when 3 RX11 κ := X
  have hl : lv_has ls 3 [(0, .ref (κ.1 + a0)), (1, .int a1)] := hl
  have hx := X.1
  have hb := X.2.1
  obtain ⟨x, hx0⟩ : ∃ x, (ro, mo) = x := ⟨_, rfl⟩
  rw [hx0] at h
  have hK : x = (ro, mo) := hx0.symm
  unfold F_X11_when at h
  refine lv_aload_n hx hb dX11_when_0 rfl (lv_at hl 0 rfl) ?_
  refine lv_iload_n hx hb dX11_when_1 rfl (lv_at hl 1 rfl) ?_
  obtain ⟨_, hut1, h⟩ := Option.bind_eq_some_iff.mp h
  obtain ⟨t2, ht2, h⟩ := Option.bind_eq_some_iff.mp h
  refine xr_callV (rest := []) X O (T_X11_isCell l κ a0 a1 M _ _ ht2) lk_X11_133 hut1 (Nat.le_of_ble_eq_true rfl) rfl hl.1 rfl (Nat.le_of_ble_eq_true rfl) dX11_when_2 ⟨Nat.le_of_ble_eq_true rfl, Nat.le_of_ble_eq_true rfl⟩ (fun H locs O => ?_)
  refine W.eq (g2 := F0 m 5 ls [.int t2.1]) rfl ?_
  refine lv_if_ne (tgt := 11) hx hb dX11_when_5 (by decide) (fun hc5 => ?_) (fun hc5 => ?_)
  · rw [if_neg hc5] at h
    refine lv_aload_n hx hb dX11_when_11 rfl (lv_at hl 0 rfl) ?_
    obtain ⟨t3, ht3, h⟩ := Option.bind_eq_some_iff.mp h
    refine xr_getP X O ht3 fl_X11_30 dX11_when_12 ?_
    refine lv_aload_n hx hb dX11_when_15 rfl (lv_at hl 0 rfl) ?_
    obtain ⟨t4, ht4, h⟩ := Option.bind_eq_some_iff.mp h
    refine xr_getP X O ht4 fl_X11_26 dX11_when_16 ?_
    obtain ⟨_, hut5, h⟩ := Option.bind_eq_some_iff.mp h
    obtain ⟨t6, ht6, h⟩ := Option.bind_eq_some_iff.mp h
    refine xr_callV (rest := []) X O (T_X0_take l κ t3 t4 t2.2 _ ht6) lk_X11_121 hut5 (Nat.le_of_ble_eq_true rfl) rfl hl.1 rfl (Nat.le_of_ble_eq_true rfl) dX11_when_19 ⟨Nat.le_of_ble_eq_true rfl, Nat.le_of_ble_eq_true rfl⟩ (fun H locs O => ?_)
    refine W.eq (g2 := F0 m 22 ls []) rfl ?_
    refine lv_iconst (v := (1 : Int32)) hx hb dX11_when_22 (by decide) ?_
    refine lv_istore_n (lv' := [(2, .int (1 : Int32)), (0, .ref (κ.1 + a0)), (1, .int a1)]) hx hb dX11_when_23 rfl hl (by decide) rfl (fun ls hl => ?_)
    exact F_X11_when_24_ok X hr hlk a0 a1 (1 : Int32) t6 _ h hK H locs ls O (lv_sub hl [1, 2, 0] rfl)
  rw [if_pos hc5] at h
  refine lv_bipush (v := (-2 : Int32)) hx hb dX11_when_8 (by decide) ?_
  rw [← Option.some.inj h] at hK
  have hK : ((-2 : Int32), t2.2) = (ro, mo) := hK
  obtain ⟨hK1, hK2⟩ := Prod.mk.inj hK
  rw [hK2] at O
  refine xr_top (w := .int ro) (by rw [hK1]) ?_
  exact xr_iret X hr hlk O dX11_when_10
def F_X11_worn (a0 : Nat) (a1 : Int32) (a2 : Int32) (M : xM) : Option (Int32 × xM) :=
(xck M a0 11).bind fun _ =>
(F_X11_isCell a0 a1 M).bind fun t2 =>
if t2.1 = 0 then (
some ((-2 : Int32), t2.2))
else (
(F_X11_isAhead a2 t2.2).bind fun t3 =>
if t3.1 = 0 then (
some ((-3 : Int32), t3.2))
else (
(xck t3.2 a0 11).bind fun _ =>
(F_X11_goOn a0 a2 t3.2).bind fun t5 =>
(xgP t5 a0 11 4).bind fun t6 =>
(xgP t5 t6 0 0).bind fun t7 =>
(xaI t5 20 t7 a1).bind fun t8 =>
some (t8, t5)))
set_option maxRecDepth 100000 in
set_option maxHeartbeats 4000000 in
theorem T_X11_worn (l : Launch) (κ : xQ) (a0 : Nat) (a1 : Int32) (a2 : Int32) (M : xM) (ro : Int32) (mo : xM) (h : F_X11_worn a0 a1 a2 M = some (ro, mo)) : xC l yX11_worn cX11_worn 3 (some .int) 8 0 0 κ [.ref (κ.1 + a0), .int a1, .int a2] M (some (.int ro)) mo := by
  refine xC_of rfl (Nat.le_of_ble_eq_true rfl) fun p e s m args below meth c X hr hlk hnm H locs ls O hl => ?_
  have X : xX p s m args c cX11_worn 3 RX11 κ := X
  have hl : lv_has ls 3 [(0, .ref (κ.1 + a0)), (1, .int a1), (2, .int a2)] := hl
  have hx := X.1
  have hb := X.2.1
  obtain ⟨x, hx0⟩ : ∃ x, (ro, mo) = x := ⟨_, rfl⟩
  rw [hx0] at h
  have hK : x = (ro, mo) := hx0.symm
  unfold F_X11_worn at h
  refine lv_aload_n hx hb dX11_worn_0 rfl (lv_at hl 0 rfl) ?_
  refine lv_iload_n hx hb dX11_worn_1 rfl (lv_at hl 1 rfl) ?_
  obtain ⟨_, hut1, h⟩ := Option.bind_eq_some_iff.mp h
  obtain ⟨t2, ht2, h⟩ := Option.bind_eq_some_iff.mp h
  refine xr_callV (rest := []) X O (T_X11_isCell l κ a0 a1 M _ _ ht2) lk_X11_133 hut1 (Nat.le_of_ble_eq_true rfl) rfl hl.1 rfl (Nat.le_of_ble_eq_true rfl) dX11_worn_2 ⟨Nat.le_of_ble_eq_true rfl, Nat.le_of_ble_eq_true rfl⟩ (fun H locs O => ?_)
  refine W.eq (g2 := F0 m 5 ls [.int t2.1]) rfl ?_
  refine lv_if_ne (tgt := 11) hx hb dX11_worn_5 (by decide) (fun hc5 => ?_) (fun hc5 => ?_)
  · rw [if_neg hc5] at h
    refine lv_iload_n hx hb dX11_worn_11 rfl (lv_at hl 2 rfl) ?_
    obtain ⟨t3, ht3, h⟩ := Option.bind_eq_some_iff.mp h
    refine xr_callS (rest := []) X O (T_X11_isAhead l κ a2 t2.2 _ _ ht3) lk_X11_253 (Nat.le_of_ble_eq_true rfl) rfl hl.1 rfl (Nat.le_of_ble_eq_true rfl) dX11_worn_12 ⟨Nat.le_of_ble_eq_true rfl, Nat.le_of_ble_eq_true rfl⟩ (fun H locs O => ?_)
    refine W.eq (g2 := F0 m 15 ls [.int t3.1]) rfl ?_
    refine lv_if_ne (tgt := 21) hx hb dX11_worn_15 (by decide) (fun hc15 => ?_) (fun hc15 => ?_)
    · rw [if_neg hc15] at h
      refine lv_aload_n hx hb dX11_worn_21 rfl (lv_at hl 0 rfl) ?_
      refine lv_iload_n hx hb dX11_worn_22 rfl (lv_at hl 2 rfl) ?_
      obtain ⟨_, hut4, h⟩ := Option.bind_eq_some_iff.mp h
      obtain ⟨t5, ht5, h⟩ := Option.bind_eq_some_iff.mp h
      refine xr_callV (rest := []) X O (T_X11_goOn l κ a0 a2 t3.2 _ ht5) lk_X11_256 hut4 (Nat.le_of_ble_eq_true rfl) rfl hl.1 rfl (Nat.le_of_ble_eq_true rfl) dX11_worn_23 ⟨Nat.le_of_ble_eq_true rfl, Nat.le_of_ble_eq_true rfl⟩ (fun H locs O => ?_)
      refine W.eq (g2 := F0 m 26 ls []) rfl ?_
      refine lv_aload_n hx hb dX11_worn_26 rfl (lv_at hl 0 rfl) ?_
      obtain ⟨t6, ht6, h⟩ := Option.bind_eq_some_iff.mp h
      refine xr_getP X O ht6 fl_X11_30 dX11_worn_27 ?_
      obtain ⟨t7, ht7, h⟩ := Option.bind_eq_some_iff.mp h
      refine xr_getP X O ht7 fl_X11_136 dX11_worn_30 ?_
      refine lv_iload_n hx hb dX11_worn_33 rfl (lv_at hl 1 rfl) ?_
      obtain ⟨t8, ht8, h⟩ := Option.bind_eq_some_iff.mp h
      refine xr_aldI X O ht8 dX11_worn_34 ?_
      rw [← Option.some.inj h] at hK
      have hK : (t8, t5) = (ro, mo) := hK
      obtain ⟨hK1, hK2⟩ := Prod.mk.inj hK
      rw [hK2] at O
      refine xr_top (w := .int ro) (by rw [hK1]) ?_
      exact xr_iret X hr hlk O dX11_worn_35
    rw [if_pos hc15] at h
    refine lv_bipush (v := (-3 : Int32)) hx hb dX11_worn_18 (by decide) ?_
    rw [← Option.some.inj h] at hK
    have hK : ((-3 : Int32), t3.2) = (ro, mo) := hK
    obtain ⟨hK1, hK2⟩ := Prod.mk.inj hK
    rw [hK2] at O
    refine xr_top (w := .int ro) (by rw [hK1]) ?_
    exact xr_iret X hr hlk O dX11_worn_20
  rw [if_pos hc5] at h
  refine lv_bipush (v := (-2 : Int32)) hx hb dX11_worn_8 (by decide) ?_
  rw [← Option.some.inj h] at hK
  have hK : ((-2 : Int32), t2.2) = (ro, mo) := hK
  obtain ⟨hK1, hK2⟩ := Prod.mk.inj hK
  rw [hK2] at O
  refine xr_top (w := .int ro) (by rw [hK1]) ?_
  exact xr_iret X hr hlk O dX11_worn_10
def F_X11_last_97 (v1 : Int32) (M : xM) : Option (Int32 × xM) :=
(F_J6_numberOfTrailingZeros_0f7a4 v1 M).bind fun t22 =>
some (t22.1, t22.2)
def F_X11_last_79 (v0 : Nat) (v1 : Int32) (M : xM) : Option (Int32 × xM) :=
(xgP M v0 11 4).bind fun t18 =>
(xgI M t18 0 4).bind fun t19 =>
if t19 = 0 then (
F_X11_last_97 v1 M)
else (
(xgP M v0 11 4).bind fun t20 =>
(xgI M t20 0 4).bind fun t21 =>
F_X11_last_97 t21 M)
def F_X11_last_33b (v0 : Nat) : (Int32 × Int32 × xM) → Option ((Int32 × Int32 × xM) ⊕ (Int32 × xM)) := fun ⟨v1, v2, M⟩ =>
if (60 : Int32) < v2 then (
(F_X11_last_79 v0 v1 M).map Sum.inr)
else (
(xgP M v0 11 4).bind fun t9 =>
(xgI M t9 0 4).bind fun t10 =>
if t10 = 0 then (
(F_X11_last_79 v0 v1 M).map Sum.inr)
else (
(xgP M v0 11 4).bind fun t11 =>
(xgI M t11 0 4).bind fun t12 =>
(xgP M v0 11 5).bind fun t13 =>
(xgP M v0 11 2).bind fun t14 =>
(xgP M v0 11 4).bind fun t15 =>
(xck M t13 8).bind fun _ =>
(F_X8_tick t13 t14 t15 M).bind fun t17 =>
some (.inl (t12, (v2 + 1), t17.2))))
def F_X11_last_33 (v0 : Nat) (v1 : Int32) (v2 : Int32) (M : xM) : Option (Int32 × xM) := xit (F_X11_last_33b v0) xFU (v1, v2, M)
def F_X11_last (a0 : Nat) (M : xM) : Option (Int32 × xM) :=
(xgP M a0 11 3).bind fun t1 =>
(xgI M t1 0 4).bind fun t2 =>
if t2 = 0 then (
some ((-1 : Int32), M))
else (
(xgP M a0 11 4).bind fun t3 =>
(xgP M a0 11 3).bind fun t4 =>
(xck M t3 0).bind fun _ =>
(F_X0_take t3 t4 M).bind fun t6 =>
(xgP t6 a0 11 3).bind fun t7 =>
(xgI t6 t7 0 4).bind fun t8 =>
F_X11_last_33 a0 t8 (1 : Int32) t6)
set_option maxRecDepth 100000 in
set_option maxHeartbeats 4000000 in
theorem F_X11_last_97_ok (X : xX p s m args c cX11_last 3 RX11 κ) (hr : meth.sig.returnType = (some .int)) (hlk : meth.locks = false) {ro : Int32} {mo : xM} (v1 : Int32) (M : xM) (x : Int32 × xM) (h : F_X11_last_97 v1 M = some x) (hK : (fun o => o = (ro, mo)) x) (H : Heap) (locs : List Loc) (ls : Array Slot) (O : xO κ s M H locs) (hl : lv_has ls 3 [(1, .int v1)]) : W p l e (xRm 7 0 0) s m args below meth c H locs 0 0 (xQf below args s 0 0 κ (some (.int ro)) mo) (F0 m 97 ls []) := by
  unfold F_X11_last_97 at h
  have hx := X.1
  have hb := X.2.1
  refine lv_iload_n hx hb dX11_last_97 rfl (lv_at hl 0 rfl) ?_
  obtain ⟨t22, ht22, h⟩ := Option.bind_eq_some_iff.mp h
  refine xr_callS (rest := []) X O (T_J6_numberOfTrailingZeros_0f7a4 l κ v1 M _ _ ht22) lk_X11_259 (Nat.le_of_ble_eq_true rfl) rfl hl.1 rfl (Nat.le_of_ble_eq_true rfl) dX11_last_98 ⟨Nat.le_of_ble_eq_true rfl, Nat.le_of_ble_eq_true rfl⟩ (fun H locs O => ?_)
  refine W.eq (g2 := F0 m 101 ls [.int t22.1]) rfl ?_
  rw [← Option.some.inj h] at hK
  have hK : (t22.1, t22.2) = (ro, mo) := hK
  obtain ⟨hK1, hK2⟩ := Prod.mk.inj hK
  rw [hK2] at O
  refine xr_top (w := .int ro) (by rw [hK1]) ?_
  exact xr_iret X hr hlk O dX11_last_101
set_option maxRecDepth 100000 in
set_option maxHeartbeats 4000000 in
theorem F_X11_last_79_ok (X : xX p s m args c cX11_last 3 RX11 κ) (hr : meth.sig.returnType = (some .int)) (hlk : meth.locks = false) {ro : Int32} {mo : xM} (v0 : Nat) (v1 : Int32) (M : xM) (x : Int32 × xM) (h : F_X11_last_79 v0 v1 M = some x) (hK : (fun o => o = (ro, mo)) x) (H : Heap) (locs : List Loc) (ls : Array Slot) (O : xO κ s M H locs) (hl : lv_has ls 3 [(0, .ref (κ.1 + v0)), (1, .int v1)]) : W p l e (xRm 7 0 0) s m args below meth c H locs 0 0 (xQf below args s 0 0 κ (some (.int ro)) mo) (F0 m 79 ls []) := by
  unfold F_X11_last_79 at h
  have hx := X.1
  have hb := X.2.1
  refine lv_aload_n hx hb dX11_last_79 rfl (lv_at hl 0 rfl) ?_
  obtain ⟨t18, ht18, h⟩ := Option.bind_eq_some_iff.mp h
  refine xr_getP X O ht18 fl_X11_30 dX11_last_80 ?_
  obtain ⟨t19, ht19, h⟩ := Option.bind_eq_some_iff.mp h
  refine xr_getI X O ht19 fl_X11_148 (Or.inl rfl) dX11_last_83 ?_
  refine lv_if_eq (tgt := 97) hx hb dX11_last_86 (by decide) (fun hc86 => ?_) (fun hc86 => ?_)
  · rw [if_pos hc86] at h
    exact F_X11_last_97_ok X hr hlk v1 M _ h hK H locs ls O (lv_sub hl [1] rfl)
  rw [if_neg hc86] at h
  refine lv_aload_n hx hb dX11_last_89 rfl (lv_at hl 0 rfl) ?_
  obtain ⟨t20, ht20, h⟩ := Option.bind_eq_some_iff.mp h
  refine xr_getP X O ht20 fl_X11_30 dX11_last_90 ?_
  obtain ⟨t21, ht21, h⟩ := Option.bind_eq_some_iff.mp h
  refine xr_getI X O ht21 fl_X11_148 (Or.inl rfl) dX11_last_93 ?_
  refine lv_istore_n (lv' := [(1, .int t21), (0, .ref (κ.1 + v0))]) hx hb dX11_last_96 rfl hl (by decide) rfl (fun ls hl => ?_)
  exact F_X11_last_97_ok X hr hlk t21 M _ h hK H locs ls O (lv_sub hl [0] rfl)
set_option maxRecDepth 100000 in
set_option maxHeartbeats 4000000 in
theorem F_X11_last_33_bok (X : xX p s m args c cX11_last 3 RX11 κ) (hr : meth.sig.returnType = (some .int)) (hlk : meth.locks = false) {ro : Int32} {mo : xM} (v0 : Nat) (v1 : Int32) (v2 : Int32) {W33 : Int32 × Int32 × xM → Prop} (hW33 : ∀ (v1 : Int32) (v2 : Int32) (M : xM), W33 (v1, v2, M) → ∀ (H : Heap) (locs : List Loc) (ls : Array Slot), xO κ s M H locs → lv_has ls 3 [(0, .ref (κ.1 + v0)), (1, .int v1), (2, .int v2)] → W p l e (xRm 7 0 0) s m args below meth c H locs 0 0 (xQf below args s 0 0 κ (some (.int ro)) mo) (F0 m 33 ls [])) (M : xM) (x : (Int32 × Int32 × xM) ⊕ (Int32 × xM)) (h : F_X11_last_33b v0 (v1, v2, M) = some x) (hK : (xKl W33 (fun o => o = (ro, mo))) x) (H : Heap) (locs : List Loc) (ls : Array Slot) (O : xO κ s M H locs) (hl : lv_has ls 3 [(0, .ref (κ.1 + v0)), (1, .int v1), (2, .int v2)]) : W p l e (xRm 7 0 0) s m args below meth c H locs 0 0 (xQf below args s 0 0 κ (some (.int ro)) mo) (F0 m 33 ls []) := by
  unfold F_X11_last_33b at h
  dsimp only at h
  have hx := X.1
  have hb := X.2.1
  refine lv_iload_n hx hb dX11_last_33 rfl (lv_at hl 2 rfl) ?_
  refine lv_bipush (v := (60 : Int32)) hx hb dX11_last_34 (by decide) ?_
  refine lv_icmp_gt (tgt := 79) hx hb dX11_last_36 (by decide) (fun hc36 => ?_) (fun hc36 => ?_)
  · rw [if_pos hc36] at h
    obtain ⟨_, hw0, ew0⟩ := Option.map_eq_some_iff.mp h
    rw [← ew0] at hK
    have h := hw0
    exact F_X11_last_79_ok X hr hlk v0 v1 M _ h hK H locs ls O (lv_sub hl [0, 1] rfl)
  rw [if_neg hc36] at h
  refine lv_aload_n hx hb dX11_last_39 rfl (lv_at hl 0 rfl) ?_
  obtain ⟨t9, ht9, h⟩ := Option.bind_eq_some_iff.mp h
  refine xr_getP X O ht9 fl_X11_30 dX11_last_40 ?_
  obtain ⟨t10, ht10, h⟩ := Option.bind_eq_some_iff.mp h
  refine xr_getI X O ht10 fl_X11_148 (Or.inl rfl) dX11_last_43 ?_
  refine lv_if_eq (tgt := 79) hx hb dX11_last_46 (by decide) (fun hc46 => ?_) (fun hc46 => ?_)
  · rw [if_pos hc46] at h
    obtain ⟨_, hw0, ew0⟩ := Option.map_eq_some_iff.mp h
    rw [← ew0] at hK
    have h := hw0
    exact F_X11_last_79_ok X hr hlk v0 v1 M _ h hK H locs ls O (lv_sub hl [0, 1] rfl)
  rw [if_neg hc46] at h
  refine lv_aload_n hx hb dX11_last_49 rfl (lv_at hl 0 rfl) ?_
  obtain ⟨t11, ht11, h⟩ := Option.bind_eq_some_iff.mp h
  refine xr_getP X O ht11 fl_X11_30 dX11_last_50 ?_
  obtain ⟨t12, ht12, h⟩ := Option.bind_eq_some_iff.mp h
  refine xr_getI X O ht12 fl_X11_148 (Or.inl rfl) dX11_last_53 ?_
  refine lv_istore_n (lv' := [(1, .int t12), (0, .ref (κ.1 + v0)), (2, .int v2)]) hx hb dX11_last_56 rfl hl (by decide) rfl (fun ls hl => ?_)
  refine lv_aload_n hx hb dX11_last_57 rfl (lv_at hl 1 rfl) ?_
  obtain ⟨t13, ht13, h⟩ := Option.bind_eq_some_iff.mp h
  refine xr_getP X O ht13 fl_X11_36 dX11_last_58 ?_
  refine lv_aload_n hx hb dX11_last_61 rfl (lv_at hl 1 rfl) ?_
  obtain ⟨t14, ht14, h⟩ := Option.bind_eq_some_iff.mp h
  refine xr_getP X O ht14 fl_X11_19 dX11_last_62 ?_
  refine lv_aload_n hx hb dX11_last_65 rfl (lv_at hl 1 rfl) ?_
  obtain ⟨t15, ht15, h⟩ := Option.bind_eq_some_iff.mp h
  refine xr_getP X O ht15 fl_X11_30 dX11_last_66 ?_
  obtain ⟨_, hut16, h⟩ := Option.bind_eq_some_iff.mp h
  obtain ⟨t17, ht17, h⟩ := Option.bind_eq_some_iff.mp h
  refine xr_callV (rest := []) X O (T_X8_tick l κ t13 t14 t15 M _ _ ht17) lk_X11_181 hut16 (Nat.le_of_ble_eq_true rfl) rfl hl.1 rfl (Nat.le_of_ble_eq_true rfl) dX11_last_69 ⟨Nat.le_of_ble_eq_true rfl, Nat.le_of_ble_eq_true rfl⟩ (fun H locs O => ?_)
  refine W.eq (g2 := F0 m 72 ls [.int t17.1]) rfl ?_
  refine lv_pop hx hb dX11_last_72 rfl ?_
  refine lv_iinc (v := (v2 + 1)) (lv' := [(2, .int (v2 + 1)), (1, .int t12), (0, .ref (κ.1 + v0))]) hx hb dX11_last_73 hl (k := 2) rfl rfl (by decide) rfl (fun ls hl => ?_)
  refine lv_goto (tgt := 33) hx hb dX11_last_76 (by decide) ?_
  rw [← Option.some.inj h] at hK
  exact hW33 t12 (v2 + 1) t17.2 hK H locs ls O (lv_sub hl [2, 1, 0] rfl)
set_option maxRecDepth 100000 in
set_option maxHeartbeats 4000000 in
theorem F_X11_last_33_ok (X : xX p s m args c cX11_last 3 RX11 κ) (hr : meth.sig.returnType = (some .int)) (hlk : meth.locks = false) {ro : Int32} {mo : xM} (v0 : Nat) (v1 : Int32) (v2 : Int32) (M : xM) (x : Int32 × xM) (h : F_X11_last_33 v0 v1 v2 M = some x) (hK : (fun o => o = (ro, mo)) x) (H : Heap) (locs : List Loc) (ls : Array Slot) (O : xO κ s M H locs) (hl : lv_has ls 3 [(0, .ref (κ.1 + v0)), (1, .int v1), (2, .int v2)]) : W p l e (xRm 7 0 0) s m args below meth c H locs 0 0 (xQf below args s 0 0 κ (some (.int ro)) mo) (F0 m 33 ls []) := by
  refine xit_K (Wh := fun x => ∀ (H : Heap) (locs : List Loc) (ls : Array Slot), xO κ s x.2.2 H locs → lv_has ls 3 [(0, .ref (κ.1 + v0)), (1, .int x.1), (2, .int x.2.1)] → W p l e (xRm 7 0 0) s m args below meth c H locs 0 0 (xQf below args s 0 0 κ (some (.int ro)) mo) (F0 m 33 ls [])) (Kp := (fun o => o = (ro, mo))) ?_ xFU (v1, v2, M) x h hK H locs ls O hl
  intro y x h hK H locs ls O hl
  exact F_X11_last_33_bok X hr hlk v0 y.1 y.2.1 (fun _ _ _ hw => hw) y.2.2 x h hK H locs ls O hl
set_option maxRecDepth 100000 in
set_option maxHeartbeats 4000000 in
theorem T_X11_last (l : Launch) (κ : xQ) (a0 : Nat) (M : xM) (ro : Int32) (mo : xM) (h : F_X11_last a0 M = some (ro, mo)) : xC l yX11_last cX11_last 3 (some .int) 7 0 0 κ [.ref (κ.1 + a0)] M (some (.int ro)) mo := by
  refine xC_of rfl (Nat.le_of_ble_eq_true rfl) fun p e s m args below meth c X hr hlk hnm H locs ls O hl => ?_
  have X : xX p s m args c cX11_last 3 RX11 κ := X
  have hl : lv_has ls 3 [(0, .ref (κ.1 + a0))] := hl
  have hx := X.1
  have hb := X.2.1
  obtain ⟨x, hx0⟩ : ∃ x, (ro, mo) = x := ⟨_, rfl⟩
  rw [hx0] at h
  have hK : x = (ro, mo) := hx0.symm
  unfold F_X11_last at h
  refine lv_aload_n hx hb dX11_last_0 rfl (lv_at hl 0 rfl) ?_
  obtain ⟨t1, ht1, h⟩ := Option.bind_eq_some_iff.mp h
  refine xr_getP X O ht1 fl_X11_26 dX11_last_1 ?_
  obtain ⟨t2, ht2, h⟩ := Option.bind_eq_some_iff.mp h
  refine xr_getI X O ht2 fl_X11_148 (Or.inl rfl) dX11_last_4 ?_
  refine lv_if_ne (tgt := 12) hx hb dX11_last_7 (by decide) (fun hc7 => ?_) (fun hc7 => ?_)
  · rw [if_neg hc7] at h
    refine lv_aload_n hx hb dX11_last_12 rfl (lv_at hl 0 rfl) ?_
    obtain ⟨t3, ht3, h⟩ := Option.bind_eq_some_iff.mp h
    refine xr_getP X O ht3 fl_X11_30 dX11_last_13 ?_
    refine lv_aload_n hx hb dX11_last_16 rfl (lv_at hl 0 rfl) ?_
    obtain ⟨t4, ht4, h⟩ := Option.bind_eq_some_iff.mp h
    refine xr_getP X O ht4 fl_X11_26 dX11_last_17 ?_
    obtain ⟨_, hut5, h⟩ := Option.bind_eq_some_iff.mp h
    obtain ⟨t6, ht6, h⟩ := Option.bind_eq_some_iff.mp h
    refine xr_callV (rest := []) X O (T_X0_take l κ t3 t4 M _ ht6) lk_X11_121 hut5 (Nat.le_of_ble_eq_true rfl) rfl hl.1 rfl (Nat.le_of_ble_eq_true rfl) dX11_last_20 ⟨Nat.le_of_ble_eq_true rfl, Nat.le_of_ble_eq_true rfl⟩ (fun H locs O => ?_)
    refine W.eq (g2 := F0 m 23 ls []) rfl ?_
    refine lv_aload_n hx hb dX11_last_23 rfl (lv_at hl 0 rfl) ?_
    obtain ⟨t7, ht7, h⟩ := Option.bind_eq_some_iff.mp h
    refine xr_getP X O ht7 fl_X11_26 dX11_last_24 ?_
    obtain ⟨t8, ht8, h⟩ := Option.bind_eq_some_iff.mp h
    refine xr_getI X O ht8 fl_X11_148 (Or.inl rfl) dX11_last_27 ?_
    refine lv_istore_n (lv' := [(1, .int t8), (0, .ref (κ.1 + a0))]) hx hb dX11_last_30 rfl hl (by decide) rfl (fun ls hl => ?_)
    refine lv_iconst (v := (1 : Int32)) hx hb dX11_last_31 (by decide) ?_
    refine lv_istore_n (lv' := [(2, .int (1 : Int32)), (1, .int t8), (0, .ref (κ.1 + a0))]) hx hb dX11_last_32 rfl hl (by decide) rfl (fun ls hl => ?_)
    exact F_X11_last_33_ok X hr hlk a0 t8 (1 : Int32) t6 _ h hK H locs ls O (lv_sub hl [2, 1, 0] rfl)
  rw [if_pos hc7] at h
  refine lv_iconst (v := (-1 : Int32)) hx hb dX11_last_10 (by decide) ?_
  rw [← Option.some.inj h] at hK
  have hK : ((-1 : Int32), M) = (ro, mo) := hK
  obtain ⟨hK1, hK2⟩ := Prod.mk.inj hK
  rw [hK2] at O
  refine xr_top (w := .int ro) (by rw [hK1]) ?_
  exact xr_iret X hr hlk O dX11_last_11
def F_X11_owner_51 (v0 : Nat) (v2 : Int32) (v3 : Int32) (v4 : Int32) (M : xM) : Option ((Int32 × Int32 × Int32 × xM) ⊕ (Int32 × xM)) :=
some (.inl (v2, v3, (v4 + 1), M))
def F_X11_owner_57 (v2 : Int32) (M : xM) : Option (Int32 × xM) :=
some (v2, M)
def F_X11_owner_22b (v0 : Nat) : (Int32 × Int32 × Int32 × xM) → Option ((Int32 × Int32 × Int32 × xM) ⊕ (Int32 × xM)) := fun ⟨v2, v3, v4, M⟩ =>
if (5 : Int32) ≤ v4 then (
(F_X11_owner_57 v2 M).map Sum.inr)
else (
(xgP M v0 11 4).bind fun t4 =>
(xck M t4 0).bind fun _ =>
(F_X0_housesOf t4 v4 M).bind fun t6 =>
if t6.1 ≤ v3 then (
F_X11_owner_51 v0 v2 v3 v4 t6.2)
else (
F_X11_owner_51 v0 v4 t6.1 v4 t6.2))
def F_X11_owner_22 (v0 : Nat) (v2 : Int32) (v3 : Int32) (v4 : Int32) (M : xM) : Option (Int32 × xM) := xit (F_X11_owner_22b v0) xFU (v2, v3, v4, M)
def F_X11_owner (a0 : Nat) (a1 : Int32) (M : xM) : Option (Int32 × xM) :=
(F_X11_isAhead a1 M).bind fun t1 =>
if t1.1 = 0 then (
some ((-3 : Int32), t1.2))
else (
(xck t1.2 a0 11).bind fun _ =>
(F_X11_goOn a0 a1 t1.2).bind fun t3 =>
F_X11_owner_22 a0 (-1 : Int32) (0 : Int32) (0 : Int32) t3)
set_option maxRecDepth 100000 in
set_option maxHeartbeats 4000000 in
theorem F_X11_owner_51_ok (X : xX p s m args c cX11_owner 6 RX11 κ) (hr : meth.sig.returnType = (some .int)) (hlk : meth.locks = false) {ro : Int32} {mo : xM} (v0 : Nat) (v2 : Int32) (v3 : Int32) (v4 : Int32) {W22 : Int32 × Int32 × Int32 × xM → Prop} (hW22 : ∀ (v2 : Int32) (v3 : Int32) (v4 : Int32) (M : xM), W22 (v2, v3, v4, M) → ∀ (H : Heap) (locs : List Loc) (ls : Array Slot), xO κ s M H locs → lv_has ls 6 [(0, .ref (κ.1 + v0)), (2, .int v2), (3, .int v3), (4, .int v4)] → W p l e (xRm 8 0 0) s m args below meth c H locs 0 0 (xQf below args s 0 0 κ (some (.int ro)) mo) (F0 m 22 ls [])) (M : xM) (x : (Int32 × Int32 × Int32 × xM) ⊕ (Int32 × xM)) (h : F_X11_owner_51 v0 v2 v3 v4 M = some x) (hK : (xKl W22 (fun o => o = (ro, mo))) x) (H : Heap) (locs : List Loc) (ls : Array Slot) (O : xO κ s M H locs) (hl : lv_has ls 6 [(0, .ref (κ.1 + v0)), (2, .int v2), (3, .int v3), (4, .int v4)]) : W p l e (xRm 8 0 0) s m args below meth c H locs 0 0 (xQf below args s 0 0 κ (some (.int ro)) mo) (F0 m 51 ls []) := by
  unfold F_X11_owner_51 at h
  have hx := X.1
  have hb := X.2.1
  refine lv_iinc (v := (v4 + 1)) (lv' := [(4, .int (v4 + 1)), (0, .ref (κ.1 + v0)), (2, .int v2), (3, .int v3)]) hx hb dX11_owner_51 hl (k := 3) rfl rfl (by decide) rfl (fun ls hl => ?_)
  refine lv_goto (tgt := 22) hx hb dX11_owner_54 (by decide) ?_
  rw [← Option.some.inj h] at hK
  exact hW22 v2 v3 (v4 + 1) M hK H locs ls O (lv_sub hl [1, 2, 3, 0] rfl)
set_option maxRecDepth 100000 in
set_option maxHeartbeats 4000000 in
theorem F_X11_owner_57_ok (X : xX p s m args c cX11_owner 6 RX11 κ) (hr : meth.sig.returnType = (some .int)) (hlk : meth.locks = false) {ro : Int32} {mo : xM} (v2 : Int32) (M : xM) (x : Int32 × xM) (h : F_X11_owner_57 v2 M = some x) (hK : (fun o => o = (ro, mo)) x) (H : Heap) (locs : List Loc) (ls : Array Slot) (O : xO κ s M H locs) (hl : lv_has ls 6 [(2, .int v2)]) : W p l e (xRm 8 0 0) s m args below meth c H locs 0 0 (xQf below args s 0 0 κ (some (.int ro)) mo) (F0 m 57 ls []) := by
  unfold F_X11_owner_57 at h
  have hx := X.1
  have hb := X.2.1
  refine lv_iload_n hx hb dX11_owner_57 rfl (lv_at hl 0 rfl) ?_
  rw [← Option.some.inj h] at hK
  have hK : (v2, M) = (ro, mo) := hK
  obtain ⟨hK1, hK2⟩ := Prod.mk.inj hK
  rw [hK2] at O
  refine xr_top (w := .int ro) (by rw [hK1]) ?_
  exact xr_iret X hr hlk O dX11_owner_58
set_option maxRecDepth 100000 in
set_option maxHeartbeats 4000000 in
theorem F_X11_owner_22_bok (X : xX p s m args c cX11_owner 6 RX11 κ) (hr : meth.sig.returnType = (some .int)) (hlk : meth.locks = false) {ro : Int32} {mo : xM} (v0 : Nat) (v2 : Int32) (v3 : Int32) (v4 : Int32) {W22 : Int32 × Int32 × Int32 × xM → Prop} (hW22 : ∀ (v2 : Int32) (v3 : Int32) (v4 : Int32) (M : xM), W22 (v2, v3, v4, M) → ∀ (H : Heap) (locs : List Loc) (ls : Array Slot), xO κ s M H locs → lv_has ls 6 [(0, .ref (κ.1 + v0)), (2, .int v2), (3, .int v3), (4, .int v4)] → W p l e (xRm 8 0 0) s m args below meth c H locs 0 0 (xQf below args s 0 0 κ (some (.int ro)) mo) (F0 m 22 ls [])) (M : xM) (x : (Int32 × Int32 × Int32 × xM) ⊕ (Int32 × xM)) (h : F_X11_owner_22b v0 (v2, v3, v4, M) = some x) (hK : (xKl W22 (fun o => o = (ro, mo))) x) (H : Heap) (locs : List Loc) (ls : Array Slot) (O : xO κ s M H locs) (hl : lv_has ls 6 [(0, .ref (κ.1 + v0)), (2, .int v2), (3, .int v3), (4, .int v4)]) : W p l e (xRm 8 0 0) s m args below meth c H locs 0 0 (xQf below args s 0 0 κ (some (.int ro)) mo) (F0 m 22 ls []) := by
  unfold F_X11_owner_22b at h
  dsimp only at h
  have hx := X.1
  have hb := X.2.1
  refine lv_iload hx hb dX11_owner_22 (lv_at hl 3 rfl) ?_
  refine lv_iconst (v := (5 : Int32)) hx hb dX11_owner_24 (by decide) ?_
  refine lv_icmp_ge (tgt := 57) hx hb dX11_owner_25 (by decide) (fun hc25 => ?_) (fun hc25 => ?_)
  · rw [if_pos hc25] at h
    obtain ⟨_, hw0, ew0⟩ := Option.map_eq_some_iff.mp h
    rw [← ew0] at hK
    have h := hw0
    exact F_X11_owner_57_ok X hr hlk v2 M _ h hK H locs ls O (lv_sub hl [1] rfl)
  rw [if_neg hc25] at h
  refine lv_aload_n hx hb dX11_owner_28 rfl (lv_at hl 0 rfl) ?_
  obtain ⟨t4, ht4, h⟩ := Option.bind_eq_some_iff.mp h
  refine xr_getP X O ht4 fl_X11_30 dX11_owner_29 ?_
  refine lv_iload hx hb dX11_owner_32 (lv_at hl 3 rfl) ?_
  obtain ⟨_, hut5, h⟩ := Option.bind_eq_some_iff.mp h
  obtain ⟨t6, ht6, h⟩ := Option.bind_eq_some_iff.mp h
  refine xr_callV (rest := []) X O (T_X0_housesOf l κ t4 v4 M _ _ ht6) lk_X11_262 hut5 (Nat.le_of_ble_eq_true rfl) rfl hl.1 rfl (Nat.le_of_ble_eq_true rfl) dX11_owner_34 ⟨Nat.le_of_ble_eq_true rfl, Nat.le_of_ble_eq_true rfl⟩ (fun H locs O => ?_)
  refine W.eq (g2 := F0 m 37 ls [.int t6.1]) rfl ?_
  refine lv_istore (lv' := [(5, .int t6.1), (0, .ref (κ.1 + v0)), (2, .int v2), (3, .int v3), (4, .int v4)]) hx hb dX11_owner_37 hl (by decide) rfl (fun ls hl => ?_)
  refine lv_iload hx hb dX11_owner_39 (lv_at hl 0 rfl) ?_
  refine lv_iload_n hx hb dX11_owner_41 rfl (lv_at hl 3 rfl) ?_
  refine lv_icmp_le (tgt := 51) hx hb dX11_owner_42 (by decide) (fun hc42 => ?_) (fun hc42 => ?_)
  · rw [if_pos hc42] at h
    exact F_X11_owner_51_ok X hr hlk v0 v2 v3 v4 hW22 t6.2 _ h hK H locs ls O (lv_sub hl [1, 2, 3, 4] rfl)
  rw [if_neg hc42] at h
  refine lv_iload hx hb dX11_owner_45 (lv_at hl 0 rfl) ?_
  refine lv_istore_n (lv' := [(3, .int t6.1), (5, .int t6.1), (0, .ref (κ.1 + v0)), (2, .int v2), (4, .int v4)]) hx hb dX11_owner_47 rfl hl (by decide) rfl (fun ls hl => ?_)
  refine lv_iload hx hb dX11_owner_48 (lv_at hl 4 rfl) ?_
  refine lv_istore_n (lv' := [(2, .int v4), (3, .int t6.1), (5, .int t6.1), (0, .ref (κ.1 + v0)), (4, .int v4)]) hx hb dX11_owner_50 rfl hl (by decide) rfl (fun ls hl => ?_)
  exact F_X11_owner_51_ok X hr hlk v0 v4 t6.1 v4 hW22 t6.2 _ h hK H locs ls O (lv_sub hl [3, 0, 1, 4] rfl)
set_option maxRecDepth 100000 in
set_option maxHeartbeats 4000000 in
theorem F_X11_owner_22_ok (X : xX p s m args c cX11_owner 6 RX11 κ) (hr : meth.sig.returnType = (some .int)) (hlk : meth.locks = false) {ro : Int32} {mo : xM} (v0 : Nat) (v2 : Int32) (v3 : Int32) (v4 : Int32) (M : xM) (x : Int32 × xM) (h : F_X11_owner_22 v0 v2 v3 v4 M = some x) (hK : (fun o => o = (ro, mo)) x) (H : Heap) (locs : List Loc) (ls : Array Slot) (O : xO κ s M H locs) (hl : lv_has ls 6 [(0, .ref (κ.1 + v0)), (2, .int v2), (3, .int v3), (4, .int v4)]) : W p l e (xRm 8 0 0) s m args below meth c H locs 0 0 (xQf below args s 0 0 κ (some (.int ro)) mo) (F0 m 22 ls []) := by
  refine xit_K (Wh := fun x => ∀ (H : Heap) (locs : List Loc) (ls : Array Slot), xO κ s x.2.2.2 H locs → lv_has ls 6 [(0, .ref (κ.1 + v0)), (2, .int x.1), (3, .int x.2.1), (4, .int x.2.2.1)] → W p l e (xRm 8 0 0) s m args below meth c H locs 0 0 (xQf below args s 0 0 κ (some (.int ro)) mo) (F0 m 22 ls [])) (Kp := (fun o => o = (ro, mo))) ?_ xFU (v2, v3, v4, M) x h hK H locs ls O hl
  intro y x h hK H locs ls O hl
  exact F_X11_owner_22_bok X hr hlk v0 y.1 y.2.1 y.2.2.1 (fun _ _ _ _ hw => hw) y.2.2.2 x h hK H locs ls O hl
set_option maxRecDepth 100000 in
set_option maxHeartbeats 4000000 in
theorem T_X11_owner (l : Launch) (κ : xQ) (a0 : Nat) (a1 : Int32) (M : xM) (ro : Int32) (mo : xM) (h : F_X11_owner a0 a1 M = some (ro, mo)) : xC l yX11_owner cX11_owner 6 (some .int) 8 0 0 κ [.ref (κ.1 + a0), .int a1] M (some (.int ro)) mo := by
  refine xC_of rfl (Nat.le_of_ble_eq_true rfl) fun p e s m args below meth c X hr hlk hnm H locs ls O hl => ?_
  have X : xX p s m args c cX11_owner 6 RX11 κ := X
  have hl : lv_has ls 6 [(0, .ref (κ.1 + a0)), (1, .int a1)] := hl
  have hx := X.1
  have hb := X.2.1
  obtain ⟨x, hx0⟩ : ∃ x, (ro, mo) = x := ⟨_, rfl⟩
  rw [hx0] at h
  have hK : x = (ro, mo) := hx0.symm
  unfold F_X11_owner at h
  refine lv_iload_n hx hb dX11_owner_0 rfl (lv_at hl 1 rfl) ?_
  obtain ⟨t1, ht1, h⟩ := Option.bind_eq_some_iff.mp h
  refine xr_callS (rest := []) X O (T_X11_isAhead l κ a1 M _ _ ht1) lk_X11_253 (Nat.le_of_ble_eq_true rfl) rfl hl.1 rfl (Nat.le_of_ble_eq_true rfl) dX11_owner_1 ⟨Nat.le_of_ble_eq_true rfl, Nat.le_of_ble_eq_true rfl⟩ (fun H locs O => ?_)
  refine W.eq (g2 := F0 m 4 ls [.int t1.1]) rfl ?_
  refine lv_if_ne (tgt := 10) hx hb dX11_owner_4 (by decide) (fun hc4 => ?_) (fun hc4 => ?_)
  · rw [if_neg hc4] at h
    refine lv_aload_n hx hb dX11_owner_10 rfl (lv_at hl 0 rfl) ?_
    refine lv_iload_n hx hb dX11_owner_11 rfl (lv_at hl 1 rfl) ?_
    obtain ⟨_, hut2, h⟩ := Option.bind_eq_some_iff.mp h
    obtain ⟨t3, ht3, h⟩ := Option.bind_eq_some_iff.mp h
    refine xr_callV (rest := []) X O (T_X11_goOn l κ a0 a1 t1.2 _ ht3) lk_X11_256 hut2 (Nat.le_of_ble_eq_true rfl) rfl hl.1 rfl (Nat.le_of_ble_eq_true rfl) dX11_owner_12 ⟨Nat.le_of_ble_eq_true rfl, Nat.le_of_ble_eq_true rfl⟩ (fun H locs O => ?_)
    refine W.eq (g2 := F0 m 15 ls []) rfl ?_
    refine lv_iconst (v := (-1 : Int32)) hx hb dX11_owner_15 (by decide) ?_
    refine lv_istore_n (lv' := [(2, .int (-1 : Int32)), (0, .ref (κ.1 + a0)), (1, .int a1)]) hx hb dX11_owner_16 rfl hl (by decide) rfl (fun ls hl => ?_)
    refine lv_iconst (v := (0 : Int32)) hx hb dX11_owner_17 (by decide) ?_
    refine lv_istore_n (lv' := [(3, .int (0 : Int32)), (2, .int (-1 : Int32)), (0, .ref (κ.1 + a0)), (1, .int a1)]) hx hb dX11_owner_18 rfl hl (by decide) rfl (fun ls hl => ?_)
    refine lv_iconst (v := (0 : Int32)) hx hb dX11_owner_19 (by decide) ?_
    refine lv_istore (lv' := [(4, .int (0 : Int32)), (3, .int (0 : Int32)), (2, .int (-1 : Int32)), (0, .ref (κ.1 + a0)), (1, .int a1)]) hx hb dX11_owner_20 hl (by decide) rfl (fun ls hl => ?_)
    exact F_X11_owner_22_ok X hr hlk a0 (-1 : Int32) (0 : Int32) (0 : Int32) t3 _ h hK H locs ls O (lv_sub hl [3, 2, 1, 0] rfl)
  rw [if_pos hc4] at h
  refine lv_bipush (v := (-3 : Int32)) hx hb dX11_owner_7 (by decide) ?_
  rw [← Option.some.inj h] at hK
  have hK : ((-3 : Int32), t1.2) = (ro, mo) := hK
  obtain ⟨hK1, hK2⟩ := Prod.mk.inj hK
  rw [hK2] at O
  refine xr_top (w := .int ro) (by rw [hK1]) ?_
  exact xr_iret X hr hlk O dX11_owner_9
def F_X11_least (a0 : Nat) (a1 : Int32) (a2 : Int32) (M : xM) : Option (Int32 × xM) :=
(xck M a0 11).bind fun _ =>
(F_X11_isCell a0 a1 M).bind fun t2 =>
if t2.1 = 0 then (
some ((-2 : Int32), t2.2))
else (
(F_X11_isLevel a2.toInt64 t2.2).bind fun t3 =>
if t3.1 = 0 then (
some ((-3 : Int32), t3.2))
else (
(xgP t3.2 a0 11 11).bind fun t4 =>
(xgP t3.2 a0 11 2).bind fun t5 =>
(xgP t3.2 a0 11 3).bind fun t6 =>
(xgP t3.2 t6 0 0).bind fun t7 =>
(xck t3.2 t4 1).bind fun _ =>
(F_X1_leastRaising t4 t5 t7 a1 a2 t3.2).bind fun t9 =>
some (t9.1, t9.2)))
set_option maxRecDepth 100000 in
set_option maxHeartbeats 4000000 in
theorem T_X11_least (l : Launch) (κ : xQ) (a0 : Nat) (a1 : Int32) (a2 : Int32) (M : xM) (ro : Int32) (mo : xM) (h : F_X11_least a0 a1 a2 M = some (ro, mo)) : xC l yX11_least cX11_least 3 (some .int) 6 0 0 κ [.ref (κ.1 + a0), .int a1, .int a2] M (some (.int ro)) mo := by
  refine xC_of rfl (Nat.le_of_ble_eq_true rfl) fun p e s m args below meth c X hr hlk hnm H locs ls O hl => ?_
  have X : xX p s m args c cX11_least 3 RX11 κ := X
  have hl : lv_has ls 3 [(0, .ref (κ.1 + a0)), (1, .int a1), (2, .int a2)] := hl
  have hx := X.1
  have hb := X.2.1
  obtain ⟨x, hx0⟩ : ∃ x, (ro, mo) = x := ⟨_, rfl⟩
  rw [hx0] at h
  have hK : x = (ro, mo) := hx0.symm
  unfold F_X11_least at h
  refine lv_aload_n hx hb dX11_least_0 rfl (lv_at hl 0 rfl) ?_
  refine lv_iload_n hx hb dX11_least_1 rfl (lv_at hl 1 rfl) ?_
  obtain ⟨_, hut1, h⟩ := Option.bind_eq_some_iff.mp h
  obtain ⟨t2, ht2, h⟩ := Option.bind_eq_some_iff.mp h
  refine xr_callV (rest := []) X O (T_X11_isCell l κ a0 a1 M _ _ ht2) lk_X11_133 hut1 (Nat.le_of_ble_eq_true rfl) rfl hl.1 rfl (Nat.le_of_ble_eq_true rfl) dX11_least_2 ⟨Nat.le_of_ble_eq_true rfl, Nat.le_of_ble_eq_true rfl⟩ (fun H locs O => ?_)
  refine W.eq (g2 := F0 m 5 ls [.int t2.1]) rfl ?_
  refine lv_if_ne (tgt := 11) hx hb dX11_least_5 (by decide) (fun hc5 => ?_) (fun hc5 => ?_)
  · rw [if_neg hc5] at h
    refine lv_iload_n hx hb dX11_least_11 rfl (lv_at hl 2 rfl) ?_
    refine lv_i2l (v := a2.toInt64) hx hb dX11_least_12 rfl ?_
    obtain ⟨t3, ht3, h⟩ := Option.bind_eq_some_iff.mp h
    refine xr_callS (rest := []) X O (T_X11_isLevel l κ a2.toInt64 t2.2 _ _ ht3) lk_X11_170 (Nat.le_of_ble_eq_true rfl) rfl hl.1 rfl (Nat.le_of_ble_eq_true rfl) dX11_least_13 ⟨Nat.le_of_ble_eq_true rfl, Nat.le_of_ble_eq_true rfl⟩ (fun H locs O => ?_)
    refine W.eq (g2 := F0 m 16 ls [.int t3.1]) rfl ?_
    refine lv_if_eq (tgt := 42) hx hb dX11_least_16 (by decide) (fun hc16 => ?_) (fun hc16 => ?_)
    · rw [if_pos hc16] at h
      refine lv_bipush (v := (-3 : Int32)) hx hb dX11_least_42 (by decide) ?_
      rw [← Option.some.inj h] at hK
      have hK : ((-3 : Int32), t3.2) = (ro, mo) := hK
      obtain ⟨hK1, hK2⟩ := Prod.mk.inj hK
      rw [hK2] at O
      refine xr_top (w := .int ro) (by rw [hK1]) ?_
      exact xr_iret X hr hlk O dX11_least_44
    rw [if_neg hc16] at h
    refine lv_aload_n hx hb dX11_least_19 rfl (lv_at hl 0 rfl) ?_
    obtain ⟨t4, ht4, h⟩ := Option.bind_eq_some_iff.mp h
    refine xr_getP X O ht4 fl_X11_65 dX11_least_20 ?_
    refine lv_aload_n hx hb dX11_least_23 rfl (lv_at hl 0 rfl) ?_
    obtain ⟨t5, ht5, h⟩ := Option.bind_eq_some_iff.mp h
    refine xr_getP X O ht5 fl_X11_19 dX11_least_24 ?_
    refine lv_aload_n hx hb dX11_least_27 rfl (lv_at hl 0 rfl) ?_
    obtain ⟨t6, ht6, h⟩ := Option.bind_eq_some_iff.mp h
    refine xr_getP X O ht6 fl_X11_26 dX11_least_28 ?_
    obtain ⟨t7, ht7, h⟩ := Option.bind_eq_some_iff.mp h
    refine xr_getP X O ht7 fl_X11_136 dX11_least_31 ?_
    refine lv_iload_n hx hb dX11_least_34 rfl (lv_at hl 1 rfl) ?_
    refine lv_iload_n hx hb dX11_least_35 rfl (lv_at hl 2 rfl) ?_
    obtain ⟨_, hut8, h⟩ := Option.bind_eq_some_iff.mp h
    obtain ⟨t9, ht9, h⟩ := Option.bind_eq_some_iff.mp h
    refine xr_callV (rest := []) X O (T_X1_leastRaising l κ t4 t5 t7 a1 a2 t3.2 _ _ ht9) lk_X11_265 hut8 (Nat.le_of_ble_eq_true rfl) rfl hl.1 rfl (Nat.le_of_ble_eq_true rfl) dX11_least_36 ⟨Nat.le_of_ble_eq_true rfl, Nat.le_of_ble_eq_true rfl⟩ (fun H locs O => ?_)
    refine W.eq (g2 := F0 m 39 ls [.int t9.1]) rfl ?_
    refine lv_goto (tgt := 44) hx hb dX11_least_39 (by decide) ?_
    rw [← Option.some.inj h] at hK
    have hK : (t9.1, t9.2) = (ro, mo) := hK
    obtain ⟨hK1, hK2⟩ := Prod.mk.inj hK
    rw [hK2] at O
    refine xr_top (w := .int ro) (by rw [hK1]) ?_
    exact xr_iret X hr hlk O dX11_least_44
  rw [if_pos hc5] at h
  refine lv_bipush (v := (-2 : Int32)) hx hb dX11_least_8 (by decide) ?_
  rw [← Option.some.inj h] at hK
  have hK : ((-2 : Int32), t2.2) = (ro, mo) := hK
  obtain ⟨hK1, hK2⟩ := Prod.mk.inj hK
  rw [hK2] at O
  refine xr_top (w := .int ro) (by rw [hK1]) ?_
  exact xr_iret X hr hlk O dX11_least_10
def F_X11_safe_45 (v0 : Nat) (v1 : Int32) (v2 : Int32) (v3 : Int32) (M : xM) : Option ((Int32 × Int32 × xM) ⊕ (Int32 × xM)) :=
some (.inl (v2, (v3 + 1), M))
def F_X11_safe_51 (v2 : Int32) (M : xM) : Option (Int32 × xM) :=
some (v2, M)
def F_X11_safe_15b (v0 : Nat) (v1 : Int32) : (Int32 × Int32 × xM) → Option ((Int32 × Int32 × xM) ⊕ (Int32 × xM)) := fun ⟨v2, v3, M⟩ =>
if (10 : Int32) < v3 then (
(F_X11_safe_51 v2 M).map Sum.inr)
else (
(xgP M v0 11 2).bind fun t3 =>
(xgP M v0 11 3).bind fun t4 =>
(xgP M t4 0 0).bind fun t5 =>
(F_X8_wetAt t3 t5 v3 M).bind fun t6 =>
if ((t6.1 >>> (v1 &&& 31)) &&& (1 : Int32)) = 0 then (
F_X11_safe_45 v0 v1 v3 v3 t6.2)
else (
F_X11_safe_45 v0 v1 v2 v3 t6.2))
def F_X11_safe_15 (v0 : Nat) (v1 : Int32) (v2 : Int32) (v3 : Int32) (M : xM) : Option (Int32 × xM) := xit (F_X11_safe_15b v0 v1) xFU (v2, v3, M)
def F_X11_safe (a0 : Nat) (a1 : Int32) (M : xM) : Option (Int32 × xM) :=
(xck M a0 11).bind fun _ =>
(F_X11_isCell a0 a1 M).bind fun t2 =>
if t2.1 = 0 then (
some ((-2 : Int32), t2.2))
else (
F_X11_safe_15 a0 a1 (0 : Int32) (1 : Int32) t2.2)
set_option maxRecDepth 100000 in
set_option maxHeartbeats 4000000 in
theorem F_X11_safe_45_ok (X : xX p s m args c cX11_safe 4 RX11 κ) (hr : meth.sig.returnType = (some .int)) (hlk : meth.locks = false) {ro : Int32} {mo : xM} (v0 : Nat) (v1 : Int32) (v2 : Int32) (v3 : Int32) {W15 : Int32 × Int32 × xM → Prop} (hW15 : ∀ (v2 : Int32) (v3 : Int32) (M : xM), W15 (v2, v3, M) → ∀ (H : Heap) (locs : List Loc) (ls : Array Slot), xO κ s M H locs → lv_has ls 4 [(0, .ref (κ.1 + v0)), (1, .int v1), (2, .int v2), (3, .int v3)] → W p l e (xRm 4 0 0) s m args below meth c H locs 0 0 (xQf below args s 0 0 κ (some (.int ro)) mo) (F0 m 15 ls [])) (M : xM) (x : (Int32 × Int32 × xM) ⊕ (Int32 × xM)) (h : F_X11_safe_45 v0 v1 v2 v3 M = some x) (hK : (xKl W15 (fun o => o = (ro, mo))) x) (H : Heap) (locs : List Loc) (ls : Array Slot) (O : xO κ s M H locs) (hl : lv_has ls 4 [(0, .ref (κ.1 + v0)), (1, .int v1), (2, .int v2), (3, .int v3)]) : W p l e (xRm 4 0 0) s m args below meth c H locs 0 0 (xQf below args s 0 0 κ (some (.int ro)) mo) (F0 m 45 ls []) := by
  unfold F_X11_safe_45 at h
  have hx := X.1
  have hb := X.2.1
  refine lv_iinc (v := (v3 + 1)) (lv' := [(3, .int (v3 + 1)), (0, .ref (κ.1 + v0)), (1, .int v1), (2, .int v2)]) hx hb dX11_safe_45 hl (k := 3) rfl rfl (by decide) rfl (fun ls hl => ?_)
  refine lv_goto (tgt := 15) hx hb dX11_safe_48 (by decide) ?_
  rw [← Option.some.inj h] at hK
  exact hW15 v2 (v3 + 1) M hK H locs ls O (lv_sub hl [1, 2, 3, 0] rfl)
set_option maxRecDepth 100000 in
set_option maxHeartbeats 4000000 in
theorem F_X11_safe_51_ok (X : xX p s m args c cX11_safe 4 RX11 κ) (hr : meth.sig.returnType = (some .int)) (hlk : meth.locks = false) {ro : Int32} {mo : xM} (v2 : Int32) (M : xM) (x : Int32 × xM) (h : F_X11_safe_51 v2 M = some x) (hK : (fun o => o = (ro, mo)) x) (H : Heap) (locs : List Loc) (ls : Array Slot) (O : xO κ s M H locs) (hl : lv_has ls 4 [(2, .int v2)]) : W p l e (xRm 4 0 0) s m args below meth c H locs 0 0 (xQf below args s 0 0 κ (some (.int ro)) mo) (F0 m 51 ls []) := by
  unfold F_X11_safe_51 at h
  have hx := X.1
  have hb := X.2.1
  refine lv_iload_n hx hb dX11_safe_51 rfl (lv_at hl 0 rfl) ?_
  rw [← Option.some.inj h] at hK
  have hK : (v2, M) = (ro, mo) := hK
  obtain ⟨hK1, hK2⟩ := Prod.mk.inj hK
  rw [hK2] at O
  refine xr_top (w := .int ro) (by rw [hK1]) ?_
  exact xr_iret X hr hlk O dX11_safe_52
set_option maxRecDepth 100000 in
set_option maxHeartbeats 4000000 in
theorem F_X11_safe_15_bok (X : xX p s m args c cX11_safe 4 RX11 κ) (hr : meth.sig.returnType = (some .int)) (hlk : meth.locks = false) {ro : Int32} {mo : xM} (v0 : Nat) (v1 : Int32) (v2 : Int32) (v3 : Int32) {W15 : Int32 × Int32 × xM → Prop} (hW15 : ∀ (v2 : Int32) (v3 : Int32) (M : xM), W15 (v2, v3, M) → ∀ (H : Heap) (locs : List Loc) (ls : Array Slot), xO κ s M H locs → lv_has ls 4 [(0, .ref (κ.1 + v0)), (1, .int v1), (2, .int v2), (3, .int v3)] → W p l e (xRm 4 0 0) s m args below meth c H locs 0 0 (xQf below args s 0 0 κ (some (.int ro)) mo) (F0 m 15 ls [])) (M : xM) (x : (Int32 × Int32 × xM) ⊕ (Int32 × xM)) (h : F_X11_safe_15b v0 v1 (v2, v3, M) = some x) (hK : (xKl W15 (fun o => o = (ro, mo))) x) (H : Heap) (locs : List Loc) (ls : Array Slot) (O : xO κ s M H locs) (hl : lv_has ls 4 [(0, .ref (κ.1 + v0)), (1, .int v1), (2, .int v2), (3, .int v3)]) : W p l e (xRm 4 0 0) s m args below meth c H locs 0 0 (xQf below args s 0 0 κ (some (.int ro)) mo) (F0 m 15 ls []) := by
  unfold F_X11_safe_15b at h
  dsimp only at h
  have hx := X.1
  have hb := X.2.1
  refine lv_iload_n hx hb dX11_safe_15 rfl (lv_at hl 3 rfl) ?_
  refine lv_bipush (v := (10 : Int32)) hx hb dX11_safe_16 (by decide) ?_
  refine lv_icmp_gt (tgt := 51) hx hb dX11_safe_18 (by decide) (fun hc18 => ?_) (fun hc18 => ?_)
  · rw [if_pos hc18] at h
    obtain ⟨_, hw0, ew0⟩ := Option.map_eq_some_iff.mp h
    rw [← ew0] at hK
    have h := hw0
    exact F_X11_safe_51_ok X hr hlk v2 M _ h hK H locs ls O (lv_sub hl [2] rfl)
  rw [if_neg hc18] at h
  refine lv_aload_n hx hb dX11_safe_21 rfl (lv_at hl 0 rfl) ?_
  obtain ⟨t3, ht3, h⟩ := Option.bind_eq_some_iff.mp h
  refine xr_getP X O ht3 fl_X11_19 dX11_safe_22 ?_
  refine lv_aload_n hx hb dX11_safe_25 rfl (lv_at hl 0 rfl) ?_
  obtain ⟨t4, ht4, h⟩ := Option.bind_eq_some_iff.mp h
  refine xr_getP X O ht4 fl_X11_26 dX11_safe_26 ?_
  obtain ⟨t5, ht5, h⟩ := Option.bind_eq_some_iff.mp h
  refine xr_getP X O ht5 fl_X11_136 dX11_safe_29 ?_
  refine lv_iload_n hx hb dX11_safe_32 rfl (lv_at hl 3 rfl) ?_
  obtain ⟨t6, ht6, h⟩ := Option.bind_eq_some_iff.mp h
  refine xr_callS (rest := []) X O (T_X8_wetAt l κ t3 t5 v3 M _ _ ht6) lk_X11_174 (Nat.le_of_ble_eq_true rfl) rfl hl.1 rfl (Nat.le_of_ble_eq_true rfl) dX11_safe_33 ⟨Nat.le_of_ble_eq_true rfl, Nat.le_of_ble_eq_true rfl⟩ (fun H locs O => ?_)
  refine W.eq (g2 := F0 m 36 ls [.int t6.1]) rfl ?_
  refine lv_iload_n hx hb dX11_safe_36 rfl (lv_at hl 1 rfl) ?_
  refine lv_ishr hx hb dX11_safe_37 ?_
  refine lv_iconst (v := (1 : Int32)) hx hb dX11_safe_38 (by decide) ?_
  refine lv_iand hx hb dX11_safe_39 ?_
  refine lv_if_ne (tgt := 45) hx hb dX11_safe_40 (by decide) (fun hc40 => ?_) (fun hc40 => ?_)
  · rw [if_neg hc40] at h
    exact F_X11_safe_45_ok X hr hlk v0 v1 v2 v3 hW15 t6.2 _ h hK H locs ls O (lv_sub hl [0, 1, 2, 3] rfl)
  rw [if_pos hc40] at h
  refine lv_iload_n hx hb dX11_safe_43 rfl (lv_at hl 3 rfl) ?_
  refine lv_istore_n (lv' := [(2, .int v3), (0, .ref (κ.1 + v0)), (1, .int v1), (3, .int v3)]) hx hb dX11_safe_44 rfl hl (by decide) rfl (fun ls hl => ?_)
  exact F_X11_safe_45_ok X hr hlk v0 v1 v3 v3 hW15 t6.2 _ h hK H locs ls O (lv_sub hl [1, 2, 0, 3] rfl)
set_option maxRecDepth 100000 in
set_option maxHeartbeats 4000000 in
theorem F_X11_safe_15_ok (X : xX p s m args c cX11_safe 4 RX11 κ) (hr : meth.sig.returnType = (some .int)) (hlk : meth.locks = false) {ro : Int32} {mo : xM} (v0 : Nat) (v1 : Int32) (v2 : Int32) (v3 : Int32) (M : xM) (x : Int32 × xM) (h : F_X11_safe_15 v0 v1 v2 v3 M = some x) (hK : (fun o => o = (ro, mo)) x) (H : Heap) (locs : List Loc) (ls : Array Slot) (O : xO κ s M H locs) (hl : lv_has ls 4 [(0, .ref (κ.1 + v0)), (1, .int v1), (2, .int v2), (3, .int v3)]) : W p l e (xRm 4 0 0) s m args below meth c H locs 0 0 (xQf below args s 0 0 κ (some (.int ro)) mo) (F0 m 15 ls []) := by
  refine xit_K (Wh := fun x => ∀ (H : Heap) (locs : List Loc) (ls : Array Slot), xO κ s x.2.2 H locs → lv_has ls 4 [(0, .ref (κ.1 + v0)), (1, .int v1), (2, .int x.1), (3, .int x.2.1)] → W p l e (xRm 4 0 0) s m args below meth c H locs 0 0 (xQf below args s 0 0 κ (some (.int ro)) mo) (F0 m 15 ls [])) (Kp := (fun o => o = (ro, mo))) ?_ xFU (v2, v3, M) x h hK H locs ls O hl
  intro y x h hK H locs ls O hl
  exact F_X11_safe_15_bok X hr hlk v0 v1 y.1 y.2.1 (fun _ _ _ hw => hw) y.2.2 x h hK H locs ls O hl
set_option maxRecDepth 100000 in
set_option maxHeartbeats 4000000 in
theorem T_X11_safe (l : Launch) (κ : xQ) (a0 : Nat) (a1 : Int32) (M : xM) (ro : Int32) (mo : xM) (h : F_X11_safe a0 a1 M = some (ro, mo)) : xC l yX11_safe cX11_safe 4 (some .int) 4 0 0 κ [.ref (κ.1 + a0), .int a1] M (some (.int ro)) mo := by
  refine xC_of rfl (Nat.le_of_ble_eq_true rfl) fun p e s m args below meth c X hr hlk hnm H locs ls O hl => ?_
  have X : xX p s m args c cX11_safe 4 RX11 κ := X
  have hl : lv_has ls 4 [(0, .ref (κ.1 + a0)), (1, .int a1)] := hl
  have hx := X.1
  have hb := X.2.1
  obtain ⟨x, hx0⟩ : ∃ x, (ro, mo) = x := ⟨_, rfl⟩
  rw [hx0] at h
  have hK : x = (ro, mo) := hx0.symm
  unfold F_X11_safe at h
  refine lv_aload_n hx hb dX11_safe_0 rfl (lv_at hl 0 rfl) ?_
  refine lv_iload_n hx hb dX11_safe_1 rfl (lv_at hl 1 rfl) ?_
  obtain ⟨_, hut1, h⟩ := Option.bind_eq_some_iff.mp h
  obtain ⟨t2, ht2, h⟩ := Option.bind_eq_some_iff.mp h
  refine xr_callV (rest := []) X O (T_X11_isCell l κ a0 a1 M _ _ ht2) lk_X11_133 hut1 (Nat.le_of_ble_eq_true rfl) rfl hl.1 rfl (Nat.le_of_ble_eq_true rfl) dX11_safe_2 ⟨Nat.le_of_ble_eq_true rfl, Nat.le_of_ble_eq_true rfl⟩ (fun H locs O => ?_)
  refine W.eq (g2 := F0 m 5 ls [.int t2.1]) rfl ?_
  refine lv_if_ne (tgt := 11) hx hb dX11_safe_5 (by decide) (fun hc5 => ?_) (fun hc5 => ?_)
  · rw [if_neg hc5] at h
    refine lv_iconst (v := (0 : Int32)) hx hb dX11_safe_11 (by decide) ?_
    refine lv_istore_n (lv' := [(2, .int (0 : Int32)), (0, .ref (κ.1 + a0)), (1, .int a1)]) hx hb dX11_safe_12 rfl hl (by decide) rfl (fun ls hl => ?_)
    refine lv_iconst (v := (1 : Int32)) hx hb dX11_safe_13 (by decide) ?_
    refine lv_istore_n (lv' := [(3, .int (1 : Int32)), (2, .int (0 : Int32)), (0, .ref (κ.1 + a0)), (1, .int a1)]) hx hb dX11_safe_14 rfl hl (by decide) rfl (fun ls hl => ?_)
    exact F_X11_safe_15_ok X hr hlk a0 a1 (0 : Int32) (1 : Int32) t2.2 _ h hK H locs ls O (lv_sub hl [2, 3, 1, 0] rfl)
  rw [if_pos hc5] at h
  refine lv_bipush (v := (-2 : Int32)) hx hb dX11_safe_8 (by decide) ?_
  rw [← Option.some.inj h] at hK
  have hK : ((-2 : Int32), t2.2) = (ro, mo) := hK
  obtain ⟨hK1, hK2⟩ := Prod.mk.inj hK
  rw [hK2] at O
  refine xr_top (w := .int ro) (by rw [hK1]) ?_
  exact xr_iret X hr hlk O dX11_safe_10
def F_X11_worst_70 (v0 : Nat) (v1 : Int32) (v2 : Int32) (v4 : Int32) (v5 : Int32) (M : xM) : Option ((Int32 × Int32 × Int32 × Int32 × xM) ⊕ (Int32 × xM)) :=
some (.inl (v1, v2, v5, (v4 + 1), M))
def F_X11_worst_79 (v1 : Int32) (M : xM) : Option (Int32 × xM) :=
some (v1, M)
def F_X11_worst_26b (v0 : Nat) : (Int32 × Int32 × Int32 × Int32 × xM) → Option ((Int32 × Int32 × Int32 × Int32 × xM) ⊕ (Int32 × xM)) := fun ⟨v1, v2, v3, v4, M⟩ =>
if (10 : Int32) < v4 then (
(F_X11_worst_79 v1 M).map Sum.inr)
else (
(xgP M v0 11 2).bind fun t6 =>
(xgP M v0 11 3).bind fun t7 =>
(xgP M t7 0 0).bind fun t8 =>
(F_X8_wetAt t6 t8 v4 M).bind fun t9 =>
(F_J6_bitCount_0f7a4 t9.1 t9.2).bind fun t10 =>
if (t10.1 - v3) ≤ v2 then (
F_X11_worst_70 v0 v1 v2 v4 t10.1 t10.2)
else (
(some ((t10.1 - v3))).bind fun t11 =>
F_X11_worst_70 v0 v4 t11 v4 t10.1 t10.2))
def F_X11_worst_26 (v0 : Nat) (v1 : Int32) (v2 : Int32) (v3 : Int32) (v4 : Int32) (M : xM) : Option (Int32 × xM) := xit (F_X11_worst_26b v0) xFU (v1, v2, v3, v4, M)
def F_X11_worst (a0 : Nat) (M : xM) : Option (Int32 × xM) :=
(xgP M a0 11 2).bind fun t1 =>
(xgP M a0 11 3).bind fun t2 =>
(xgP M t2 0 0).bind fun t3 =>
(F_X8_wetAt t1 t3 (0 : Int32) M).bind fun t4 =>
(F_J6_bitCount_0f7a4 t4.1 t4.2).bind fun t5 =>
F_X11_worst_26 a0 (1 : Int32) (-1 : Int32) t5.1 (1 : Int32) t5.2
set_option maxRecDepth 100000 in
set_option maxHeartbeats 4000000 in
theorem F_X11_worst_70_ok (X : xX p s m args c cX11_worst 6 RX11 κ) (hr : meth.sig.returnType = (some .int)) (hlk : meth.locks = false) {ro : Int32} {mo : xM} (v0 : Nat) (v1 : Int32) (v2 : Int32) (v4 : Int32) (v5 : Int32) {W26 : Int32 × Int32 × Int32 × Int32 × xM → Prop} (hW26 : ∀ (v1 : Int32) (v2 : Int32) (v3 : Int32) (v4 : Int32) (M : xM), W26 (v1, v2, v3, v4, M) → ∀ (H : Heap) (locs : List Loc) (ls : Array Slot), xO κ s M H locs → lv_has ls 6 [(0, .ref (κ.1 + v0)), (1, .int v1), (2, .int v2), (3, .int v3), (4, .int v4)] → W p l e (xRm 4 0 0) s m args below meth c H locs 0 0 (xQf below args s 0 0 κ (some (.int ro)) mo) (F0 m 26 ls [])) (M : xM) (x : (Int32 × Int32 × Int32 × Int32 × xM) ⊕ (Int32 × xM)) (h : F_X11_worst_70 v0 v1 v2 v4 v5 M = some x) (hK : (xKl W26 (fun o => o = (ro, mo))) x) (H : Heap) (locs : List Loc) (ls : Array Slot) (O : xO κ s M H locs) (hl : lv_has ls 6 [(0, .ref (κ.1 + v0)), (1, .int v1), (2, .int v2), (4, .int v4), (5, .int v5)]) : W p l e (xRm 4 0 0) s m args below meth c H locs 0 0 (xQf below args s 0 0 κ (some (.int ro)) mo) (F0 m 70 ls []) := by
  unfold F_X11_worst_70 at h
  have hx := X.1
  have hb := X.2.1
  refine lv_iload hx hb dX11_worst_70 (lv_at hl 4 rfl) ?_
  refine lv_istore_n (lv' := [(3, .int v5), (0, .ref (κ.1 + v0)), (1, .int v1), (2, .int v2), (4, .int v4), (5, .int v5)]) hx hb dX11_worst_72 rfl hl (by decide) rfl (fun ls hl => ?_)
  refine lv_iinc (v := (v4 + 1)) (lv' := [(4, .int (v4 + 1)), (3, .int v5), (0, .ref (κ.1 + v0)), (1, .int v1), (2, .int v2), (5, .int v5)]) hx hb dX11_worst_73 hl (k := 4) rfl rfl (by decide) rfl (fun ls hl => ?_)
  refine lv_goto (tgt := 26) hx hb dX11_worst_76 (by decide) ?_
  rw [← Option.some.inj h] at hK
  exact hW26 v1 v2 v5 (v4 + 1) M hK H locs ls O (lv_sub hl [2, 3, 4, 1, 0] rfl)
set_option maxRecDepth 100000 in
set_option maxHeartbeats 4000000 in
theorem F_X11_worst_79_ok (X : xX p s m args c cX11_worst 6 RX11 κ) (hr : meth.sig.returnType = (some .int)) (hlk : meth.locks = false) {ro : Int32} {mo : xM} (v1 : Int32) (M : xM) (x : Int32 × xM) (h : F_X11_worst_79 v1 M = some x) (hK : (fun o => o = (ro, mo)) x) (H : Heap) (locs : List Loc) (ls : Array Slot) (O : xO κ s M H locs) (hl : lv_has ls 6 [(1, .int v1)]) : W p l e (xRm 4 0 0) s m args below meth c H locs 0 0 (xQf below args s 0 0 κ (some (.int ro)) mo) (F0 m 79 ls []) := by
  unfold F_X11_worst_79 at h
  have hx := X.1
  have hb := X.2.1
  refine lv_iload_n hx hb dX11_worst_79 rfl (lv_at hl 0 rfl) ?_
  rw [← Option.some.inj h] at hK
  have hK : (v1, M) = (ro, mo) := hK
  obtain ⟨hK1, hK2⟩ := Prod.mk.inj hK
  rw [hK2] at O
  refine xr_top (w := .int ro) (by rw [hK1]) ?_
  exact xr_iret X hr hlk O dX11_worst_80
set_option maxRecDepth 100000 in
set_option maxHeartbeats 4000000 in
theorem F_X11_worst_26_bok (X : xX p s m args c cX11_worst 6 RX11 κ) (hr : meth.sig.returnType = (some .int)) (hlk : meth.locks = false) {ro : Int32} {mo : xM} (v0 : Nat) (v1 : Int32) (v2 : Int32) (v3 : Int32) (v4 : Int32) {W26 : Int32 × Int32 × Int32 × Int32 × xM → Prop} (hW26 : ∀ (v1 : Int32) (v2 : Int32) (v3 : Int32) (v4 : Int32) (M : xM), W26 (v1, v2, v3, v4, M) → ∀ (H : Heap) (locs : List Loc) (ls : Array Slot), xO κ s M H locs → lv_has ls 6 [(0, .ref (κ.1 + v0)), (1, .int v1), (2, .int v2), (3, .int v3), (4, .int v4)] → W p l e (xRm 4 0 0) s m args below meth c H locs 0 0 (xQf below args s 0 0 κ (some (.int ro)) mo) (F0 m 26 ls [])) (M : xM) (x : (Int32 × Int32 × Int32 × Int32 × xM) ⊕ (Int32 × xM)) (h : F_X11_worst_26b v0 (v1, v2, v3, v4, M) = some x) (hK : (xKl W26 (fun o => o = (ro, mo))) x) (H : Heap) (locs : List Loc) (ls : Array Slot) (O : xO κ s M H locs) (hl : lv_has ls 6 [(0, .ref (κ.1 + v0)), (1, .int v1), (2, .int v2), (3, .int v3), (4, .int v4)]) : W p l e (xRm 4 0 0) s m args below meth c H locs 0 0 (xQf below args s 0 0 κ (some (.int ro)) mo) (F0 m 26 ls []) := by
  unfold F_X11_worst_26b at h
  dsimp only at h
  have hx := X.1
  have hb := X.2.1
  refine lv_iload hx hb dX11_worst_26 (lv_at hl 4 rfl) ?_
  refine lv_bipush (v := (10 : Int32)) hx hb dX11_worst_28 (by decide) ?_
  refine lv_icmp_gt (tgt := 79) hx hb dX11_worst_30 (by decide) (fun hc30 => ?_) (fun hc30 => ?_)
  · rw [if_pos hc30] at h
    obtain ⟨_, hw0, ew0⟩ := Option.map_eq_some_iff.mp h
    rw [← ew0] at hK
    have h := hw0
    exact F_X11_worst_79_ok X hr hlk v1 M _ h hK H locs ls O (lv_sub hl [1] rfl)
  rw [if_neg hc30] at h
  refine lv_aload_n hx hb dX11_worst_33 rfl (lv_at hl 0 rfl) ?_
  obtain ⟨t6, ht6, h⟩ := Option.bind_eq_some_iff.mp h
  refine xr_getP X O ht6 fl_X11_19 dX11_worst_34 ?_
  refine lv_aload_n hx hb dX11_worst_37 rfl (lv_at hl 0 rfl) ?_
  obtain ⟨t7, ht7, h⟩ := Option.bind_eq_some_iff.mp h
  refine xr_getP X O ht7 fl_X11_26 dX11_worst_38 ?_
  obtain ⟨t8, ht8, h⟩ := Option.bind_eq_some_iff.mp h
  refine xr_getP X O ht8 fl_X11_136 dX11_worst_41 ?_
  refine lv_iload hx hb dX11_worst_44 (lv_at hl 4 rfl) ?_
  obtain ⟨t9, ht9, h⟩ := Option.bind_eq_some_iff.mp h
  refine xr_callS (rest := []) X O (T_X8_wetAt l κ t6 t8 v4 M _ _ ht9) lk_X11_174 (Nat.le_of_ble_eq_true rfl) rfl hl.1 rfl (Nat.le_of_ble_eq_true rfl) dX11_worst_46 ⟨Nat.le_of_ble_eq_true rfl, Nat.le_of_ble_eq_true rfl⟩ (fun H locs O => ?_)
  refine W.eq (g2 := F0 m 49 ls [.int t9.1]) rfl ?_
  obtain ⟨t10, ht10, h⟩ := Option.bind_eq_some_iff.mp h
  refine xr_callS (rest := []) X O (T_J6_bitCount_0f7a4 l κ t9.1 t9.2 _ _ ht10) lk_X11_188 (Nat.le_of_ble_eq_true rfl) rfl hl.1 rfl (Nat.le_of_ble_eq_true rfl) dX11_worst_49 ⟨Nat.le_of_ble_eq_true rfl, Nat.le_of_ble_eq_true rfl⟩ (fun H locs O => ?_)
  refine W.eq (g2 := F0 m 52 ls [.int t10.1]) rfl ?_
  refine lv_istore (lv' := [(5, .int t10.1), (0, .ref (κ.1 + v0)), (1, .int v1), (2, .int v2), (3, .int v3), (4, .int v4)]) hx hb dX11_worst_52 hl (by decide) rfl (fun ls hl => ?_)
  refine lv_iload hx hb dX11_worst_54 (lv_at hl 0 rfl) ?_
  refine lv_iload_n hx hb dX11_worst_56 rfl (lv_at hl 4 rfl) ?_
  refine lv_isub hx hb dX11_worst_57 ?_
  refine lv_iload_n hx hb dX11_worst_58 rfl (lv_at hl 3 rfl) ?_
  refine lv_icmp_le (tgt := 70) hx hb dX11_worst_59 (by decide) (fun hc59 => ?_) (fun hc59 => ?_)
  · rw [if_pos hc59] at h
    exact F_X11_worst_70_ok X hr hlk v0 v1 v2 v4 t10.1 hW26 t10.2 _ h hK H locs ls O (lv_sub hl [1, 2, 3, 5, 0] rfl)
  rw [if_neg hc59] at h
  refine lv_iload hx hb dX11_worst_62 (lv_at hl 0 rfl) ?_
  refine lv_iload_n hx hb dX11_worst_64 rfl (lv_at hl 4 rfl) ?_
  refine lv_isub hx hb dX11_worst_65 ?_
  obtain ⟨t11, ht11, h⟩ := Option.bind_eq_some_iff.mp h
  refine xr_top (w := .int t11) (by rw [Option.some.inj ht11]) ?_
  refine lv_istore_n (lv' := [(2, .int t11), (5, .int t10.1), (0, .ref (κ.1 + v0)), (1, .int v1), (3, .int v3), (4, .int v4)]) hx hb dX11_worst_66 rfl hl (by decide) rfl (fun ls hl => ?_)
  refine lv_iload hx hb dX11_worst_67 (lv_at hl 5 rfl) ?_
  refine lv_istore_n (lv' := [(1, .int v4), (2, .int t11), (5, .int t10.1), (0, .ref (κ.1 + v0)), (3, .int v3), (4, .int v4)]) hx hb dX11_worst_69 rfl hl (by decide) rfl (fun ls hl => ?_)
  exact F_X11_worst_70_ok X hr hlk v0 v4 t11 v4 t10.1 hW26 t10.2 _ h hK H locs ls O (lv_sub hl [3, 0, 1, 5, 2] rfl)
set_option maxRecDepth 100000 in
set_option maxHeartbeats 4000000 in
theorem F_X11_worst_26_ok (X : xX p s m args c cX11_worst 6 RX11 κ) (hr : meth.sig.returnType = (some .int)) (hlk : meth.locks = false) {ro : Int32} {mo : xM} (v0 : Nat) (v1 : Int32) (v2 : Int32) (v3 : Int32) (v4 : Int32) (M : xM) (x : Int32 × xM) (h : F_X11_worst_26 v0 v1 v2 v3 v4 M = some x) (hK : (fun o => o = (ro, mo)) x) (H : Heap) (locs : List Loc) (ls : Array Slot) (O : xO κ s M H locs) (hl : lv_has ls 6 [(0, .ref (κ.1 + v0)), (1, .int v1), (2, .int v2), (3, .int v3), (4, .int v4)]) : W p l e (xRm 4 0 0) s m args below meth c H locs 0 0 (xQf below args s 0 0 κ (some (.int ro)) mo) (F0 m 26 ls []) := by
  refine xit_K (Wh := fun x => ∀ (H : Heap) (locs : List Loc) (ls : Array Slot), xO κ s x.2.2.2.2 H locs → lv_has ls 6 [(0, .ref (κ.1 + v0)), (1, .int x.1), (2, .int x.2.1), (3, .int x.2.2.1), (4, .int x.2.2.2.1)] → W p l e (xRm 4 0 0) s m args below meth c H locs 0 0 (xQf below args s 0 0 κ (some (.int ro)) mo) (F0 m 26 ls [])) (Kp := (fun o => o = (ro, mo))) ?_ xFU (v1, v2, v3, v4, M) x h hK H locs ls O hl
  intro y x h hK H locs ls O hl
  exact F_X11_worst_26_bok X hr hlk v0 y.1 y.2.1 y.2.2.1 y.2.2.2.1 (fun _ _ _ _ _ hw => hw) y.2.2.2.2 x h hK H locs ls O hl
set_option maxRecDepth 100000 in
set_option maxHeartbeats 4000000 in
theorem T_X11_worst (l : Launch) (κ : xQ) (a0 : Nat) (M : xM) (ro : Int32) (mo : xM) (h : F_X11_worst a0 M = some (ro, mo)) : xC l yX11_worst cX11_worst 6 (some .int) 4 0 0 κ [.ref (κ.1 + a0)] M (some (.int ro)) mo := by
  refine xC_of rfl (Nat.le_of_ble_eq_true rfl) fun p e s m args below meth c X hr hlk hnm H locs ls O hl => ?_
  have X : xX p s m args c cX11_worst 6 RX11 κ := X
  have hl : lv_has ls 6 [(0, .ref (κ.1 + a0))] := hl
  have hx := X.1
  have hb := X.2.1
  obtain ⟨x, hx0⟩ : ∃ x, (ro, mo) = x := ⟨_, rfl⟩
  rw [hx0] at h
  have hK : x = (ro, mo) := hx0.symm
  unfold F_X11_worst at h
  refine lv_iconst (v := (1 : Int32)) hx hb dX11_worst_0 (by decide) ?_
  refine lv_istore_n (lv' := [(1, .int (1 : Int32)), (0, .ref (κ.1 + a0))]) hx hb dX11_worst_1 rfl hl (by decide) rfl (fun ls hl => ?_)
  refine lv_iconst (v := (-1 : Int32)) hx hb dX11_worst_2 (by decide) ?_
  refine lv_istore_n (lv' := [(2, .int (-1 : Int32)), (1, .int (1 : Int32)), (0, .ref (κ.1 + a0))]) hx hb dX11_worst_3 rfl hl (by decide) rfl (fun ls hl => ?_)
  refine lv_aload_n hx hb dX11_worst_4 rfl (lv_at hl 2 rfl) ?_
  obtain ⟨t1, ht1, h⟩ := Option.bind_eq_some_iff.mp h
  refine xr_getP X O ht1 fl_X11_19 dX11_worst_5 ?_
  refine lv_aload_n hx hb dX11_worst_8 rfl (lv_at hl 2 rfl) ?_
  obtain ⟨t2, ht2, h⟩ := Option.bind_eq_some_iff.mp h
  refine xr_getP X O ht2 fl_X11_26 dX11_worst_9 ?_
  obtain ⟨t3, ht3, h⟩ := Option.bind_eq_some_iff.mp h
  refine xr_getP X O ht3 fl_X11_136 dX11_worst_12 ?_
  refine lv_iconst (v := (0 : Int32)) hx hb dX11_worst_15 (by decide) ?_
  obtain ⟨t4, ht4, h⟩ := Option.bind_eq_some_iff.mp h
  refine xr_callS (rest := []) X O (T_X8_wetAt l κ t1 t3 (0 : Int32) M _ _ ht4) lk_X11_174 (Nat.le_of_ble_eq_true rfl) rfl hl.1 rfl (Nat.le_of_ble_eq_true rfl) dX11_worst_16 ⟨Nat.le_of_ble_eq_true rfl, Nat.le_of_ble_eq_true rfl⟩ (fun H locs O => ?_)
  refine W.eq (g2 := F0 m 19 ls [.int t4.1]) rfl ?_
  obtain ⟨t5, ht5, h⟩ := Option.bind_eq_some_iff.mp h
  refine xr_callS (rest := []) X O (T_J6_bitCount_0f7a4 l κ t4.1 t4.2 _ _ ht5) lk_X11_188 (Nat.le_of_ble_eq_true rfl) rfl hl.1 rfl (Nat.le_of_ble_eq_true rfl) dX11_worst_19 ⟨Nat.le_of_ble_eq_true rfl, Nat.le_of_ble_eq_true rfl⟩ (fun H locs O => ?_)
  refine W.eq (g2 := F0 m 22 ls [.int t5.1]) rfl ?_
  refine lv_istore_n (lv' := [(3, .int t5.1), (2, .int (-1 : Int32)), (1, .int (1 : Int32)), (0, .ref (κ.1 + a0))]) hx hb dX11_worst_22 rfl hl (by decide) rfl (fun ls hl => ?_)
  refine lv_iconst (v := (1 : Int32)) hx hb dX11_worst_23 (by decide) ?_
  refine lv_istore (lv' := [(4, .int (1 : Int32)), (3, .int t5.1), (2, .int (-1 : Int32)), (1, .int (1 : Int32)), (0, .ref (κ.1 + a0))]) hx hb dX11_worst_24 hl (by decide) rfl (fun ls hl => ?_)
  exact F_X11_worst_26_ok X hr hlk a0 (1 : Int32) (-1 : Int32) t5.1 (1 : Int32) t5.2 _ h hK H locs ls O (lv_sub hl [4, 3, 2, 1, 0] rfl)
def F_X11_setDeadlines_108 (v0 : Nat) (v1 : Int32) (v2 : Int32) (v3 : Int32) (v4 : Int32) (M : xM) : Option ((Int32 × xM) ⊕ ((Int32 × Int32 × xM) ⊕ (xM))) :=
some (.inl ((v4 + 1), M))
def F_X11_setDeadlines_114 (v0 : Nat) (v1 : Int32) (v2 : Int32) (v3 : Int32) (M : xM) : Option ((Int32 × Int32 × xM) ⊕ (xM)) :=
(some ((v1 ||| v3))).bind fun t23 =>
some (.inl (t23, (v2 + 1), M))
def F_X11_setDeadlines_62b (v0 : Nat) (v1 : Int32) (v2 : Int32) (v3 : Int32) : (Int32 × xM) → Option ((Int32 × xM) ⊕ ((Int32 × Int32 × xM) ⊕ (xM))) := fun ⟨v4, M⟩ =>
(xgP M v0 11 2).bind fun t15 =>
(xgI M t15 3 5).bind fun t16 =>
if t16 ≤ v4 then (
(F_X11_setDeadlines_114 v0 v1 v2 v3 M).map Sum.inr)
else (
(xgP M v0 11 2).bind fun t17 =>
(xgP M t17 3 12).bind fun t18 =>
(xaI M 20 t18 v4).bind fun t19 =>
if (((v3 &&& (v1 ^^^ (-1 : Int32))) >>> (t19 &&& 31)) &&& (1 : Int32)) = 0 then (
F_X11_setDeadlines_108 v0 v1 v2 v3 v4 M)
else (
(xgP M v0 11 12).bind fun t20 =>
(xgP M t20 6 0).bind fun t21 =>
(xsI M t21 v4 (v2 - (1 : Int32))).bind fun t22 =>
F_X11_setDeadlines_108 v0 v1 v2 v3 v4 t22))
def F_X11_setDeadlines_62 (v0 : Nat) (v1 : Int32) (v2 : Int32) (v3 : Int32) (v4 : Int32) (M : xM) : Option ((Int32 × Int32 × xM) ⊕ (xM)) := xit (F_X11_setDeadlines_62b v0 v1 v2 v3) xFU (v4, M)
def F_X11_setDeadlines_124 (M : xM) : Option (xM) :=
some M
def F_X11_setDeadlines_27b (v0 : Nat) : (Int32 × Int32 × xM) → Option ((Int32 × Int32 × xM) ⊕ (xM)) := fun ⟨v1, v2, M⟩ =>
if (60 : Int32) < v2 then (
(F_X11_setDeadlines_124 M).map Sum.inr)
else (
(xgP M v0 11 2).bind fun t8 =>
(xgI M t8 3 5).bind fun t9 =>
if t9 ≤ 0 then (
(F_X11_setDeadlines_124 M).map Sum.inr)
else (
(xgP M v0 11 5).bind fun t10 =>
(xgP M v0 11 2).bind fun t11 =>
(xgP M v0 11 4).bind fun t12 =>
(xck M t10 8).bind fun _ =>
(F_X8_tick t10 t11 t12 M).bind fun t14 =>
F_X11_setDeadlines_62 v0 v1 v2 t14.1 (0 : Int32) t14.2))
def F_X11_setDeadlines_27 (v0 : Nat) (v1 : Int32) (v2 : Int32) (M : xM) : Option (xM) := xit (F_X11_setDeadlines_27b v0) xFU (v1, v2, M)
def F_X11_setDeadlines (a0 : Nat) (M : xM) : Option (xM) :=
(xgP M a0 11 12).bind fun t1 =>
(xgP M t1 6 0).bind fun t2 =>
(F_J7_fill_53178 t2 (60 : Int32) M).bind fun t3 =>
(xgP t3 a0 11 4).bind fun t4 =>
(xgP t3 a0 11 3).bind fun t5 =>
(xck t3 t4 0).bind fun _ =>
(F_X0_take t4 t5 t3).bind fun t7 =>
F_X11_setDeadlines_27 a0 (0 : Int32) (1 : Int32) t7
set_option maxRecDepth 100000 in
set_option maxHeartbeats 4000000 in
theorem F_X11_setDeadlines_108_ok (X : xX p s m args c cX11_setDeadlines 5 RX11 κ) (hr : meth.sig.returnType = none) (hlk : meth.locks = false) {mo : xM} (v0 : Nat) (v1 : Int32) (v2 : Int32) (v3 : Int32) (v4 : Int32) {W27 : Int32 × Int32 × xM → Prop} (hW27 : ∀ (v1 : Int32) (v2 : Int32) (M : xM), W27 (v1, v2, M) → ∀ (H : Heap) (locs : List Loc) (ls : Array Slot), xO κ s M H locs → lv_has ls 5 [(0, .ref (κ.1 + v0)), (1, .int v1), (2, .int v2)] → W p l e (xRm 7 0 0) s m args below meth c H locs 0 0 (xQf below args s 0 0 κ none mo) (F0 m 27 ls [])) {W62 : Int32 × xM → Prop} (hW62 : ∀ (v4 : Int32) (M : xM), W62 (v4, M) → ∀ (H : Heap) (locs : List Loc) (ls : Array Slot), xO κ s M H locs → lv_has ls 5 [(0, .ref (κ.1 + v0)), (1, .int v1), (2, .int v2), (3, .int v3), (4, .int v4)] → W p l e (xRm 7 0 0) s m args below meth c H locs 0 0 (xQf below args s 0 0 κ none mo) (F0 m 62 ls [])) (M : xM) (x : (Int32 × xM) ⊕ ((Int32 × Int32 × xM) ⊕ (xM))) (h : F_X11_setDeadlines_108 v0 v1 v2 v3 v4 M = some x) (hK : (xKl W62 (xKl W27 (fun o => o = mo))) x) (H : Heap) (locs : List Loc) (ls : Array Slot) (O : xO κ s M H locs) (hl : lv_has ls 5 [(0, .ref (κ.1 + v0)), (1, .int v1), (2, .int v2), (3, .int v3), (4, .int v4)]) : W p l e (xRm 7 0 0) s m args below meth c H locs 0 0 (xQf below args s 0 0 κ none mo) (F0 m 108 ls []) := by
  unfold F_X11_setDeadlines_108 at h
  have hx := X.1
  have hb := X.2.1
  refine lv_iinc (v := (v4 + 1)) (lv' := [(4, .int (v4 + 1)), (0, .ref (κ.1 + v0)), (1, .int v1), (2, .int v2), (3, .int v3)]) hx hb dX11_setDeadlines_108 hl (k := 4) rfl rfl (by decide) rfl (fun ls hl => ?_)
  refine lv_goto (tgt := 62) hx hb dX11_setDeadlines_111 (by decide) ?_
  rw [← Option.some.inj h] at hK
  exact hW62 (v4 + 1) M hK H locs ls O (lv_sub hl [1, 2, 3, 4, 0] rfl)
set_option maxRecDepth 100000 in
set_option maxHeartbeats 4000000 in
theorem F_X11_setDeadlines_114_ok (X : xX p s m args c cX11_setDeadlines 5 RX11 κ) (hr : meth.sig.returnType = none) (hlk : meth.locks = false) {mo : xM} (v0 : Nat) (v1 : Int32) (v2 : Int32) (v3 : Int32) {W27 : Int32 × Int32 × xM → Prop} (hW27 : ∀ (v1 : Int32) (v2 : Int32) (M : xM), W27 (v1, v2, M) → ∀ (H : Heap) (locs : List Loc) (ls : Array Slot), xO κ s M H locs → lv_has ls 5 [(0, .ref (κ.1 + v0)), (1, .int v1), (2, .int v2)] → W p l e (xRm 7 0 0) s m args below meth c H locs 0 0 (xQf below args s 0 0 κ none mo) (F0 m 27 ls [])) (M : xM) (x : (Int32 × Int32 × xM) ⊕ (xM)) (h : F_X11_setDeadlines_114 v0 v1 v2 v3 M = some x) (hK : (xKl W27 (fun o => o = mo)) x) (H : Heap) (locs : List Loc) (ls : Array Slot) (O : xO κ s M H locs) (hl : lv_has ls 5 [(0, .ref (κ.1 + v0)), (1, .int v1), (2, .int v2), (3, .int v3)]) : W p l e (xRm 7 0 0) s m args below meth c H locs 0 0 (xQf below args s 0 0 κ none mo) (F0 m 114 ls []) := by
  unfold F_X11_setDeadlines_114 at h
  have hx := X.1
  have hb := X.2.1
  refine lv_iload_n hx hb dX11_setDeadlines_114 rfl (lv_at hl 1 rfl) ?_
  refine lv_iload_n hx hb dX11_setDeadlines_115 rfl (lv_at hl 3 rfl) ?_
  refine lv_ior hx hb dX11_setDeadlines_116 ?_
  obtain ⟨t23, ht23, h⟩ := Option.bind_eq_some_iff.mp h
  refine xr_top (w := .int t23) (by rw [Option.some.inj ht23]) ?_
  refine lv_istore_n (lv' := [(1, .int t23), (0, .ref (κ.1 + v0)), (2, .int v2), (3, .int v3)]) hx hb dX11_setDeadlines_117 rfl hl (by decide) rfl (fun ls hl => ?_)
  refine lv_iinc (v := (v2 + 1)) (lv' := [(2, .int (v2 + 1)), (1, .int t23), (0, .ref (κ.1 + v0)), (3, .int v3)]) hx hb dX11_setDeadlines_118 hl (k := 2) rfl rfl (by decide) rfl (fun ls hl => ?_)
  refine lv_goto (tgt := 27) hx hb dX11_setDeadlines_121 (by decide) ?_
  rw [← Option.some.inj h] at hK
  exact hW27 t23 (v2 + 1) M hK H locs ls O (lv_sub hl [2, 1, 0] rfl)
set_option maxRecDepth 100000 in
set_option maxHeartbeats 4000000 in
theorem F_X11_setDeadlines_62_bok (X : xX p s m args c cX11_setDeadlines 5 RX11 κ) (hr : meth.sig.returnType = none) (hlk : meth.locks = false) {mo : xM} (v0 : Nat) (v1 : Int32) (v2 : Int32) (v3 : Int32) (v4 : Int32) {W27 : Int32 × Int32 × xM → Prop} (hW27 : ∀ (v1 : Int32) (v2 : Int32) (M : xM), W27 (v1, v2, M) → ∀ (H : Heap) (locs : List Loc) (ls : Array Slot), xO κ s M H locs → lv_has ls 5 [(0, .ref (κ.1 + v0)), (1, .int v1), (2, .int v2)] → W p l e (xRm 7 0 0) s m args below meth c H locs 0 0 (xQf below args s 0 0 κ none mo) (F0 m 27 ls [])) {W62 : Int32 × xM → Prop} (hW62 : ∀ (v4 : Int32) (M : xM), W62 (v4, M) → ∀ (H : Heap) (locs : List Loc) (ls : Array Slot), xO κ s M H locs → lv_has ls 5 [(0, .ref (κ.1 + v0)), (1, .int v1), (2, .int v2), (3, .int v3), (4, .int v4)] → W p l e (xRm 7 0 0) s m args below meth c H locs 0 0 (xQf below args s 0 0 κ none mo) (F0 m 62 ls [])) (M : xM) (x : (Int32 × xM) ⊕ ((Int32 × Int32 × xM) ⊕ (xM))) (h : F_X11_setDeadlines_62b v0 v1 v2 v3 (v4, M) = some x) (hK : (xKl W62 (xKl W27 (fun o => o = mo))) x) (H : Heap) (locs : List Loc) (ls : Array Slot) (O : xO κ s M H locs) (hl : lv_has ls 5 [(0, .ref (κ.1 + v0)), (1, .int v1), (2, .int v2), (3, .int v3), (4, .int v4)]) : W p l e (xRm 7 0 0) s m args below meth c H locs 0 0 (xQf below args s 0 0 κ none mo) (F0 m 62 ls []) := by
  unfold F_X11_setDeadlines_62b at h
  dsimp only at h
  have hx := X.1
  have hb := X.2.1
  refine lv_iload hx hb dX11_setDeadlines_62 (lv_at hl 4 rfl) ?_
  refine lv_aload_n hx hb dX11_setDeadlines_64 rfl (lv_at hl 0 rfl) ?_
  obtain ⟨t15, ht15, h⟩ := Option.bind_eq_some_iff.mp h
  refine xr_getP X O ht15 fl_X11_19 dX11_setDeadlines_65 ?_
  obtain ⟨t16, ht16, h⟩ := Option.bind_eq_some_iff.mp h
  refine xr_getI X O ht16 fl_X11_151 (Or.inl rfl) dX11_setDeadlines_68 ?_
  refine lv_icmp_ge (tgt := 114) hx hb dX11_setDeadlines_71 (by decide) (fun hc71 => ?_) (fun hc71 => ?_)
  · rw [if_pos hc71] at h
    obtain ⟨_, hw0, ew0⟩ := Option.map_eq_some_iff.mp h
    rw [← ew0] at hK
    have h := hw0
    exact F_X11_setDeadlines_114_ok X hr hlk v0 v1 v2 v3 hW27 M _ h hK H locs ls O (lv_sub hl [0, 1, 2, 3] rfl)
  rw [if_neg hc71] at h
  refine lv_iload_n hx hb dX11_setDeadlines_74 rfl (lv_at hl 3 rfl) ?_
  refine lv_iload_n hx hb dX11_setDeadlines_75 rfl (lv_at hl 1 rfl) ?_
  refine lv_iconst (v := (-1 : Int32)) hx hb dX11_setDeadlines_76 (by decide) ?_
  refine lv_ixor hx hb dX11_setDeadlines_77 ?_
  refine lv_iand hx hb dX11_setDeadlines_78 ?_
  refine lv_aload_n hx hb dX11_setDeadlines_79 rfl (lv_at hl 0 rfl) ?_
  obtain ⟨t17, ht17, h⟩ := Option.bind_eq_some_iff.mp h
  refine xr_getP X O ht17 fl_X11_19 dX11_setDeadlines_80 ?_
  obtain ⟨t18, ht18, h⟩ := Option.bind_eq_some_iff.mp h
  refine xr_getP X O ht18 fl_X11_154 dX11_setDeadlines_83 ?_
  refine lv_iload hx hb dX11_setDeadlines_86 (lv_at hl 4 rfl) ?_
  obtain ⟨t19, ht19, h⟩ := Option.bind_eq_some_iff.mp h
  refine xr_aldI X O ht19 dX11_setDeadlines_88 ?_
  refine lv_ishr hx hb dX11_setDeadlines_89 ?_
  refine lv_iconst (v := (1 : Int32)) hx hb dX11_setDeadlines_90 (by decide) ?_
  refine lv_iand hx hb dX11_setDeadlines_91 ?_
  refine lv_if_eq (tgt := 108) hx hb dX11_setDeadlines_92 (by decide) (fun hc92 => ?_) (fun hc92 => ?_)
  · rw [if_pos hc92] at h
    exact F_X11_setDeadlines_108_ok X hr hlk v0 v1 v2 v3 v4 hW27 hW62 M _ h hK H locs ls O (lv_sub hl [0, 1, 2, 3, 4] rfl)
  rw [if_neg hc92] at h
  refine lv_aload_n hx hb dX11_setDeadlines_95 rfl (lv_at hl 0 rfl) ?_
  obtain ⟨t20, ht20, h⟩ := Option.bind_eq_some_iff.mp h
  refine xr_getP X O ht20 fl_X11_72 dX11_setDeadlines_96 ?_
  obtain ⟨t21, ht21, h⟩ := Option.bind_eq_some_iff.mp h
  refine xr_getP X O ht21 fl_X11_373 dX11_setDeadlines_99 ?_
  refine lv_iload hx hb dX11_setDeadlines_102 (lv_at hl 4 rfl) ?_
  refine lv_iload_n hx hb dX11_setDeadlines_104 rfl (lv_at hl 2 rfl) ?_
  refine lv_iconst (v := (1 : Int32)) hx hb dX11_setDeadlines_105 (by decide) ?_
  refine lv_isub hx hb dX11_setDeadlines_106 ?_
  obtain ⟨t22, ht22, h⟩ := Option.bind_eq_some_iff.mp h
  refine xr_stI X O ht22 dX11_setDeadlines_107 (fun H locs O => ?_)
  exact F_X11_setDeadlines_108_ok X hr hlk v0 v1 v2 v3 v4 hW27 hW62 t22 _ h hK H locs ls O (lv_sub hl [0, 1, 2, 3, 4] rfl)
set_option maxRecDepth 100000 in
set_option maxHeartbeats 4000000 in
theorem F_X11_setDeadlines_62_ok (X : xX p s m args c cX11_setDeadlines 5 RX11 κ) (hr : meth.sig.returnType = none) (hlk : meth.locks = false) {mo : xM} (v0 : Nat) (v1 : Int32) (v2 : Int32) (v3 : Int32) (v4 : Int32) {W27 : Int32 × Int32 × xM → Prop} (hW27 : ∀ (v1 : Int32) (v2 : Int32) (M : xM), W27 (v1, v2, M) → ∀ (H : Heap) (locs : List Loc) (ls : Array Slot), xO κ s M H locs → lv_has ls 5 [(0, .ref (κ.1 + v0)), (1, .int v1), (2, .int v2)] → W p l e (xRm 7 0 0) s m args below meth c H locs 0 0 (xQf below args s 0 0 κ none mo) (F0 m 27 ls [])) (M : xM) (x : (Int32 × Int32 × xM) ⊕ (xM)) (h : F_X11_setDeadlines_62 v0 v1 v2 v3 v4 M = some x) (hK : (xKl W27 (fun o => o = mo)) x) (H : Heap) (locs : List Loc) (ls : Array Slot) (O : xO κ s M H locs) (hl : lv_has ls 5 [(0, .ref (κ.1 + v0)), (1, .int v1), (2, .int v2), (3, .int v3), (4, .int v4)]) : W p l e (xRm 7 0 0) s m args below meth c H locs 0 0 (xQf below args s 0 0 κ none mo) (F0 m 62 ls []) := by
  refine xit_K (Wh := fun x => ∀ (H : Heap) (locs : List Loc) (ls : Array Slot), xO κ s x.2 H locs → lv_has ls 5 [(0, .ref (κ.1 + v0)), (1, .int v1), (2, .int v2), (3, .int v3), (4, .int x.1)] → W p l e (xRm 7 0 0) s m args below meth c H locs 0 0 (xQf below args s 0 0 κ none mo) (F0 m 62 ls [])) (Kp := (xKl W27 (fun o => o = mo))) ?_ xFU (v4, M) x h hK H locs ls O hl
  intro y x h hK H locs ls O hl
  exact F_X11_setDeadlines_62_bok X hr hlk v0 v1 v2 v3 y.1 hW27 (fun _ _ hw => hw) y.2 x h hK H locs ls O hl
set_option maxRecDepth 100000 in
set_option maxHeartbeats 4000000 in
theorem F_X11_setDeadlines_124_ok (X : xX p s m args c cX11_setDeadlines 5 RX11 κ) (hr : meth.sig.returnType = none) (hlk : meth.locks = false) {mo : xM} (M : xM) (x : xM) (h : F_X11_setDeadlines_124 M = some x) (hK : (fun o => o = mo) x) (H : Heap) (locs : List Loc) (ls : Array Slot) (O : xO κ s M H locs) (hl : lv_has ls 5 []) : W p l e (xRm 7 0 0) s m args below meth c H locs 0 0 (xQf below args s 0 0 κ none mo) (F0 m 124 ls []) := by
  unfold F_X11_setDeadlines_124 at h
  have hx := X.1
  have hb := X.2.1
  rw [← Option.some.inj h] at hK
  have hK : M = mo := hK
  rw [hK] at O
  exact xr_vret X hr hlk O dX11_setDeadlines_124
set_option maxRecDepth 100000 in
set_option maxHeartbeats 4000000 in
theorem F_X11_setDeadlines_27_bok (X : xX p s m args c cX11_setDeadlines 5 RX11 κ) (hr : meth.sig.returnType = none) (hlk : meth.locks = false) {mo : xM} (v0 : Nat) (v1 : Int32) (v2 : Int32) {W27 : Int32 × Int32 × xM → Prop} (hW27 : ∀ (v1 : Int32) (v2 : Int32) (M : xM), W27 (v1, v2, M) → ∀ (H : Heap) (locs : List Loc) (ls : Array Slot), xO κ s M H locs → lv_has ls 5 [(0, .ref (κ.1 + v0)), (1, .int v1), (2, .int v2)] → W p l e (xRm 7 0 0) s m args below meth c H locs 0 0 (xQf below args s 0 0 κ none mo) (F0 m 27 ls [])) (M : xM) (x : (Int32 × Int32 × xM) ⊕ (xM)) (h : F_X11_setDeadlines_27b v0 (v1, v2, M) = some x) (hK : (xKl W27 (fun o => o = mo)) x) (H : Heap) (locs : List Loc) (ls : Array Slot) (O : xO κ s M H locs) (hl : lv_has ls 5 [(0, .ref (κ.1 + v0)), (1, .int v1), (2, .int v2)]) : W p l e (xRm 7 0 0) s m args below meth c H locs 0 0 (xQf below args s 0 0 κ none mo) (F0 m 27 ls []) := by
  unfold F_X11_setDeadlines_27b at h
  dsimp only at h
  have hx := X.1
  have hb := X.2.1
  refine lv_iload_n hx hb dX11_setDeadlines_27 rfl (lv_at hl 2 rfl) ?_
  refine lv_bipush (v := (60 : Int32)) hx hb dX11_setDeadlines_28 (by decide) ?_
  refine lv_icmp_gt (tgt := 124) hx hb dX11_setDeadlines_30 (by decide) (fun hc30 => ?_) (fun hc30 => ?_)
  · rw [if_pos hc30] at h
    obtain ⟨_, hw0, ew0⟩ := Option.map_eq_some_iff.mp h
    rw [← ew0] at hK
    have h := hw0
    exact F_X11_setDeadlines_124_ok X hr hlk  M _ h hK H locs ls O (lv_sub hl [] rfl)
  rw [if_neg hc30] at h
  refine lv_aload_n hx hb dX11_setDeadlines_33 rfl (lv_at hl 0 rfl) ?_
  obtain ⟨t8, ht8, h⟩ := Option.bind_eq_some_iff.mp h
  refine xr_getP X O ht8 fl_X11_19 dX11_setDeadlines_34 ?_
  obtain ⟨t9, ht9, h⟩ := Option.bind_eq_some_iff.mp h
  refine xr_getI X O ht9 fl_X11_151 (Or.inl rfl) dX11_setDeadlines_37 ?_
  refine lv_if_le (tgt := 124) hx hb dX11_setDeadlines_40 (by decide) (fun hc40 => ?_) (fun hc40 => ?_)
  · rw [if_pos hc40] at h
    obtain ⟨_, hw0, ew0⟩ := Option.map_eq_some_iff.mp h
    rw [← ew0] at hK
    have h := hw0
    exact F_X11_setDeadlines_124_ok X hr hlk  M _ h hK H locs ls O (lv_sub hl [] rfl)
  rw [if_neg hc40] at h
  refine lv_aload_n hx hb dX11_setDeadlines_43 rfl (lv_at hl 0 rfl) ?_
  obtain ⟨t10, ht10, h⟩ := Option.bind_eq_some_iff.mp h
  refine xr_getP X O ht10 fl_X11_36 dX11_setDeadlines_44 ?_
  refine lv_aload_n hx hb dX11_setDeadlines_47 rfl (lv_at hl 0 rfl) ?_
  obtain ⟨t11, ht11, h⟩ := Option.bind_eq_some_iff.mp h
  refine xr_getP X O ht11 fl_X11_19 dX11_setDeadlines_48 ?_
  refine lv_aload_n hx hb dX11_setDeadlines_51 rfl (lv_at hl 0 rfl) ?_
  obtain ⟨t12, ht12, h⟩ := Option.bind_eq_some_iff.mp h
  refine xr_getP X O ht12 fl_X11_30 dX11_setDeadlines_52 ?_
  obtain ⟨_, hut13, h⟩ := Option.bind_eq_some_iff.mp h
  obtain ⟨t14, ht14, h⟩ := Option.bind_eq_some_iff.mp h
  refine xr_callV (rest := []) X O (T_X8_tick l κ t10 t11 t12 M _ _ ht14) lk_X11_181 hut13 (Nat.le_of_ble_eq_true rfl) rfl hl.1 rfl (Nat.le_of_ble_eq_true rfl) dX11_setDeadlines_55 ⟨Nat.le_of_ble_eq_true rfl, Nat.le_of_ble_eq_true rfl⟩ (fun H locs O => ?_)
  refine W.eq (g2 := F0 m 58 ls [.int t14.1]) rfl ?_
  refine lv_istore_n (lv' := [(3, .int t14.1), (0, .ref (κ.1 + v0)), (1, .int v1), (2, .int v2)]) hx hb dX11_setDeadlines_58 rfl hl (by decide) rfl (fun ls hl => ?_)
  refine lv_iconst (v := (0 : Int32)) hx hb dX11_setDeadlines_59 (by decide) ?_
  refine lv_istore (lv' := [(4, .int (0 : Int32)), (3, .int t14.1), (0, .ref (κ.1 + v0)), (1, .int v1), (2, .int v2)]) hx hb dX11_setDeadlines_60 hl (by decide) rfl (fun ls hl => ?_)
  exact F_X11_setDeadlines_62_ok X hr hlk v0 v1 v2 t14.1 (0 : Int32) hW27 t14.2 _ h hK H locs ls O (lv_sub hl [2, 3, 4, 1, 0] rfl)
set_option maxRecDepth 100000 in
set_option maxHeartbeats 4000000 in
theorem F_X11_setDeadlines_27_ok (X : xX p s m args c cX11_setDeadlines 5 RX11 κ) (hr : meth.sig.returnType = none) (hlk : meth.locks = false) {mo : xM} (v0 : Nat) (v1 : Int32) (v2 : Int32) (M : xM) (x : xM) (h : F_X11_setDeadlines_27 v0 v1 v2 M = some x) (hK : (fun o => o = mo) x) (H : Heap) (locs : List Loc) (ls : Array Slot) (O : xO κ s M H locs) (hl : lv_has ls 5 [(0, .ref (κ.1 + v0)), (1, .int v1), (2, .int v2)]) : W p l e (xRm 7 0 0) s m args below meth c H locs 0 0 (xQf below args s 0 0 κ none mo) (F0 m 27 ls []) := by
  refine xit_K (Wh := fun x => ∀ (H : Heap) (locs : List Loc) (ls : Array Slot), xO κ s x.2.2 H locs → lv_has ls 5 [(0, .ref (κ.1 + v0)), (1, .int x.1), (2, .int x.2.1)] → W p l e (xRm 7 0 0) s m args below meth c H locs 0 0 (xQf below args s 0 0 κ none mo) (F0 m 27 ls [])) (Kp := (fun o => o = mo)) ?_ xFU (v1, v2, M) x h hK H locs ls O hl
  intro y x h hK H locs ls O hl
  exact F_X11_setDeadlines_27_bok X hr hlk v0 y.1 y.2.1 (fun _ _ _ hw => hw) y.2.2 x h hK H locs ls O hl
set_option maxRecDepth 100000 in
set_option maxHeartbeats 4000000 in
theorem T_X11_setDeadlines (l : Launch) (κ : xQ) (a0 : Nat) (M : xM) (mo : xM) (h : F_X11_setDeadlines a0 M = some mo) : xC l yX11_setDeadlines cX11_setDeadlines 5 none 7 0 0 κ [.ref (κ.1 + a0)] M none mo := by
  refine xC_of rfl (Nat.le_of_ble_eq_true rfl) fun p e s m args below meth c X hr hlk hnm H locs ls O hl => ?_
  have X : xX p s m args c cX11_setDeadlines 5 RX11 κ := X
  have hl : lv_has ls 5 [(0, .ref (κ.1 + a0))] := hl
  have hx := X.1
  have hb := X.2.1
  obtain ⟨x, hx0⟩ : ∃ x, mo = x := ⟨_, rfl⟩
  rw [hx0] at h
  have hK : x = mo := hx0.symm
  unfold F_X11_setDeadlines at h
  refine lv_aload_n hx hb dX11_setDeadlines_0 rfl (lv_at hl 0 rfl) ?_
  obtain ⟨t1, ht1, h⟩ := Option.bind_eq_some_iff.mp h
  refine xr_getP X O ht1 fl_X11_72 dX11_setDeadlines_1 ?_
  obtain ⟨t2, ht2, h⟩ := Option.bind_eq_some_iff.mp h
  refine xr_getP X O ht2 fl_X11_373 dX11_setDeadlines_4 ?_
  refine lv_bipush (v := (60 : Int32)) hx hb dX11_setDeadlines_7 (by decide) ?_
  obtain ⟨t3, ht3, h⟩ := Option.bind_eq_some_iff.mp h
  refine xr_callS (rest := []) X O (T_J7_fill_53178 l κ t2 (60 : Int32) M _ ht3) lk_X11_376 (Nat.le_of_ble_eq_true rfl) rfl hl.1 rfl (Nat.le_of_ble_eq_true rfl) dX11_setDeadlines_9 ⟨Nat.le_of_ble_eq_true rfl, Nat.le_of_ble_eq_true rfl⟩ (fun H locs O => ?_)
  refine W.eq (g2 := F0 m 12 ls []) rfl ?_
  refine lv_aload_n hx hb dX11_setDeadlines_12 rfl (lv_at hl 0 rfl) ?_
  obtain ⟨t4, ht4, h⟩ := Option.bind_eq_some_iff.mp h
  refine xr_getP X O ht4 fl_X11_30 dX11_setDeadlines_13 ?_
  refine lv_aload_n hx hb dX11_setDeadlines_16 rfl (lv_at hl 0 rfl) ?_
  obtain ⟨t5, ht5, h⟩ := Option.bind_eq_some_iff.mp h
  refine xr_getP X O ht5 fl_X11_26 dX11_setDeadlines_17 ?_
  obtain ⟨_, hut6, h⟩ := Option.bind_eq_some_iff.mp h
  obtain ⟨t7, ht7, h⟩ := Option.bind_eq_some_iff.mp h
  refine xr_callV (rest := []) X O (T_X0_take l κ t4 t5 t3 _ ht7) lk_X11_121 hut6 (Nat.le_of_ble_eq_true rfl) rfl hl.1 rfl (Nat.le_of_ble_eq_true rfl) dX11_setDeadlines_20 ⟨Nat.le_of_ble_eq_true rfl, Nat.le_of_ble_eq_true rfl⟩ (fun H locs O => ?_)
  refine W.eq (g2 := F0 m 23 ls []) rfl ?_
  refine lv_iconst (v := (0 : Int32)) hx hb dX11_setDeadlines_23 (by decide) ?_
  refine lv_istore_n (lv' := [(1, .int (0 : Int32)), (0, .ref (κ.1 + a0))]) hx hb dX11_setDeadlines_24 rfl hl (by decide) rfl (fun ls hl => ?_)
  refine lv_iconst (v := (1 : Int32)) hx hb dX11_setDeadlines_25 (by decide) ?_
  refine lv_istore_n (lv' := [(2, .int (1 : Int32)), (1, .int (0 : Int32)), (0, .ref (κ.1 + a0))]) hx hb dX11_setDeadlines_26 rfl hl (by decide) rfl (fun ls hl => ?_)
  exact F_X11_setDeadlines_27_ok X hr hlk a0 (0 : Int32) (1 : Int32) t7 _ h hK H locs ls O (lv_sub hl [2, 1, 0] rfl)
def F_X11_plan (a0 : Nat) (a1 : Int32) (M : xM) : Option (Int32 × xM) :=
if a1 < 0 then (
some ((-2 : Int32), M))
else (
if a1 ≤ (1 : Int32) then (
(xck M a0 11).bind fun _ =>
(F_X11_setDeadlines a0 M).bind fun t2 =>
(xgP t2 a0 11 12).bind fun t3 =>
(xgP t2 a0 11 2).bind fun t4 =>
(xck t2 t3 6).bind fun _ =>
(F_X6_bestSet t3 t4 t2).bind fun t6 =>
if a1 = 0 then (
(xgP t6.2 a0 11 2).bind fun t7 =>
(F_X6_worthOf t7 t6.1 t6.2).bind fun t8 =>
some (t8.1, t8.2))
else (
some (t6.1, t6.2)))
else (
some ((-2 : Int32), M)))
set_option maxRecDepth 100000 in
set_option maxHeartbeats 4000000 in
theorem T_X11_plan (l : Launch) (κ : xQ) (a0 : Nat) (a1 : Int32) (M : xM) (ro : Int32) (mo : xM) (h : F_X11_plan a0 a1 M = some (ro, mo)) : xC l yX11_plan cX11_plan 3 (some .int) 8 0 0 κ [.ref (κ.1 + a0), .int a1] M (some (.int ro)) mo := by
  refine xC_of rfl (Nat.le_of_ble_eq_true rfl) fun p e s m args below meth c X hr hlk hnm H locs ls O hl => ?_
  have X : xX p s m args c cX11_plan 3 RX11 κ := X
  have hl : lv_has ls 3 [(0, .ref (κ.1 + a0)), (1, .int a1)] := hl
  have hx := X.1
  have hb := X.2.1
  obtain ⟨x, hx0⟩ : ∃ x, (ro, mo) = x := ⟨_, rfl⟩
  rw [hx0] at h
  have hK : x = (ro, mo) := hx0.symm
  unfold F_X11_plan at h
  refine lv_iload_n hx hb dX11_plan_0 rfl (lv_at hl 1 rfl) ?_
  refine lv_if_lt (tgt := 9) hx hb dX11_plan_1 (by decide) (fun hc1 => ?_) (fun hc1 => ?_)
  · rw [if_pos hc1] at h
    refine lv_bipush (v := (-2 : Int32)) hx hb dX11_plan_9 (by decide) ?_
    rw [← Option.some.inj h] at hK
    have hK : ((-2 : Int32), M) = (ro, mo) := hK
    obtain ⟨hK1, hK2⟩ := Prod.mk.inj hK
    rw [hK2] at O
    refine xr_top (w := .int ro) (by rw [hK1]) ?_
    exact xr_iret X hr hlk O dX11_plan_11
  rw [if_neg hc1] at h
  refine lv_iload_n hx hb dX11_plan_4 rfl (lv_at hl 1 rfl) ?_
  refine lv_iconst (v := (1 : Int32)) hx hb dX11_plan_5 (by decide) ?_
  refine lv_icmp_le (tgt := 12) hx hb dX11_plan_6 (by decide) (fun hc6 => ?_) (fun hc6 => ?_)
  · rw [if_pos hc6] at h
    refine lv_aload_n hx hb dX11_plan_12 rfl (lv_at hl 0 rfl) ?_
    obtain ⟨_, hut1, h⟩ := Option.bind_eq_some_iff.mp h
    obtain ⟨t2, ht2, h⟩ := Option.bind_eq_some_iff.mp h
    refine xr_callV (rest := []) X O (T_X11_setDeadlines l κ a0 M _ ht2) lk_X11_269 hut1 (Nat.le_of_ble_eq_true rfl) rfl hl.1 rfl (Nat.le_of_ble_eq_true rfl) dX11_plan_13 ⟨Nat.le_of_ble_eq_true rfl, Nat.le_of_ble_eq_true rfl⟩ (fun H locs O => ?_)
    refine W.eq (g2 := F0 m 16 ls []) rfl ?_
    refine lv_aload_n hx hb dX11_plan_16 rfl (lv_at hl 0 rfl) ?_
    obtain ⟨t3, ht3, h⟩ := Option.bind_eq_some_iff.mp h
    refine xr_getP X O ht3 fl_X11_72 dX11_plan_17 ?_
    refine lv_aload_n hx hb dX11_plan_20 rfl (lv_at hl 0 rfl) ?_
    obtain ⟨t4, ht4, h⟩ := Option.bind_eq_some_iff.mp h
    refine xr_getP X O ht4 fl_X11_19 dX11_plan_21 ?_
    obtain ⟨_, hut5, h⟩ := Option.bind_eq_some_iff.mp h
    obtain ⟨t6, ht6, h⟩ := Option.bind_eq_some_iff.mp h
    refine xr_callV (rest := []) X O (T_X6_bestSet l κ t3 t4 t2 _ _ ht6) lk_X11_272 hut5 (Nat.le_of_ble_eq_true rfl) rfl hl.1 rfl (Nat.le_of_ble_eq_true rfl) dX11_plan_24 ⟨Nat.le_of_ble_eq_true rfl, Nat.le_of_ble_eq_true rfl⟩ (fun H locs O => ?_)
    refine W.eq (g2 := F0 m 27 ls [.int t6.1]) rfl ?_
    refine lv_istore_n (lv' := [(2, .int t6.1), (0, .ref (κ.1 + a0)), (1, .int a1)]) hx hb dX11_plan_27 rfl hl (by decide) rfl (fun ls hl => ?_)
    refine lv_iload_n hx hb dX11_plan_28 rfl (lv_at hl 2 rfl) ?_
    refine lv_if_ne (tgt := 43) hx hb dX11_plan_29 (by decide) (fun hc29 => ?_) (fun hc29 => ?_)
    · rw [if_neg hc29] at h
      refine lv_iload_n hx hb dX11_plan_43 rfl (lv_at hl 0 rfl) ?_
      rw [← Option.some.inj h] at hK
      have hK : (t6.1, t6.2) = (ro, mo) := hK
      obtain ⟨hK1, hK2⟩ := Prod.mk.inj hK
      rw [hK2] at O
      refine xr_top (w := .int ro) (by rw [hK1]) ?_
      exact xr_iret X hr hlk O dX11_plan_44
    rw [if_pos hc29] at h
    refine lv_aload_n hx hb dX11_plan_32 rfl (lv_at hl 1 rfl) ?_
    obtain ⟨t7, ht7, h⟩ := Option.bind_eq_some_iff.mp h
    refine xr_getP X O ht7 fl_X11_19 dX11_plan_33 ?_
    refine lv_iload_n hx hb dX11_plan_36 rfl (lv_at hl 0 rfl) ?_
    obtain ⟨t8, ht8, h⟩ := Option.bind_eq_some_iff.mp h
    refine xr_callS (rest := []) X O (T_X6_worthOf l κ t7 t6.1 t6.2 _ _ ht8) lk_X11_276 (Nat.le_of_ble_eq_true rfl) rfl hl.1 rfl (Nat.le_of_ble_eq_true rfl) dX11_plan_37 ⟨Nat.le_of_ble_eq_true rfl, Nat.le_of_ble_eq_true rfl⟩ (fun H locs O => ?_)
    refine W.eq (g2 := F0 m 40 ls [.int t8.1]) rfl ?_
    refine lv_goto (tgt := 44) hx hb dX11_plan_40 (by decide) ?_
    rw [← Option.some.inj h] at hK
    have hK : (t8.1, t8.2) = (ro, mo) := hK
    obtain ⟨hK1, hK2⟩ := Prod.mk.inj hK
    rw [hK2] at O
    refine xr_top (w := .int ro) (by rw [hK1]) ?_
    exact xr_iret X hr hlk O dX11_plan_44
  rw [if_neg hc6] at h
  refine lv_bipush (v := (-2 : Int32)) hx hb dX11_plan_9 (by decide) ?_
  rw [← Option.some.inj h] at hK
  have hK : ((-2 : Int32), M) = (ro, mo) := hK
  obtain ⟨hK1, hK2⟩ := Prod.mk.inj hK
  rw [hK2] at O
  refine xr_top (w := .int ro) (by rw [hK1]) ?_
  exact xr_iret X hr hlk O dX11_plan_11
def F_X11_order (a0 : Nat) (a1 : Int32) (M : xM) : Option (Int32 × xM) :=
if 0 ≤ a1 then (
(xck M a0 11).bind fun _ =>
(F_X11_setDeadlines a0 M).bind fun t2 =>
(xgP t2 a0 11 12).bind fun t3 =>
(xgP t2 a0 11 2).bind fun t4 =>
(xgP t2 a0 11 12).bind fun t5 =>
(xgP t2 a0 11 2).bind fun t6 =>
(xck t2 t5 6).bind fun _ =>
(F_X6_bestSet t5 t6 t2).bind fun t8 =>
(xck t8.2 t3 6).bind fun _ =>
(F_X6_inOrder t3 t4 t8.1 a1 t8.2).bind fun t10 =>
some (t10.1, t10.2))
else (
some ((-3 : Int32), M))
set_option maxRecDepth 100000 in
set_option maxHeartbeats 4000000 in
theorem T_X11_order (l : Launch) (κ : xQ) (a0 : Nat) (a1 : Int32) (M : xM) (ro : Int32) (mo : xM) (h : F_X11_order a0 a1 M = some (ro, mo)) : xC l yX11_order cX11_order 2 (some .int) 8 0 0 κ [.ref (κ.1 + a0), .int a1] M (some (.int ro)) mo := by
  refine xC_of rfl (Nat.le_of_ble_eq_true rfl) fun p e s m args below meth c X hr hlk hnm H locs ls O hl => ?_
  have X : xX p s m args c cX11_order 2 RX11 κ := X
  have hl : lv_has ls 2 [(0, .ref (κ.1 + a0)), (1, .int a1)] := hl
  have hx := X.1
  have hb := X.2.1
  obtain ⟨x, hx0⟩ : ∃ x, (ro, mo) = x := ⟨_, rfl⟩
  rw [hx0] at h
  have hK : x = (ro, mo) := hx0.symm
  unfold F_X11_order at h
  refine lv_iload_n hx hb dX11_order_0 rfl (lv_at hl 1 rfl) ?_
  refine lv_if_ge (tgt := 7) hx hb dX11_order_1 (by decide) (fun hc1 => ?_) (fun hc1 => ?_)
  · rw [if_pos hc1] at h
    refine lv_aload_n hx hb dX11_order_7 rfl (lv_at hl 0 rfl) ?_
    obtain ⟨_, hut1, h⟩ := Option.bind_eq_some_iff.mp h
    obtain ⟨t2, ht2, h⟩ := Option.bind_eq_some_iff.mp h
    refine xr_callV (rest := []) X O (T_X11_setDeadlines l κ a0 M _ ht2) lk_X11_269 hut1 (Nat.le_of_ble_eq_true rfl) rfl hl.1 rfl (Nat.le_of_ble_eq_true rfl) dX11_order_8 ⟨Nat.le_of_ble_eq_true rfl, Nat.le_of_ble_eq_true rfl⟩ (fun H locs O => ?_)
    refine W.eq (g2 := F0 m 11 ls []) rfl ?_
    refine lv_aload_n hx hb dX11_order_11 rfl (lv_at hl 0 rfl) ?_
    obtain ⟨t3, ht3, h⟩ := Option.bind_eq_some_iff.mp h
    refine xr_getP X O ht3 fl_X11_72 dX11_order_12 ?_
    refine lv_aload_n hx hb dX11_order_15 rfl (lv_at hl 0 rfl) ?_
    obtain ⟨t4, ht4, h⟩ := Option.bind_eq_some_iff.mp h
    refine xr_getP X O ht4 fl_X11_19 dX11_order_16 ?_
    refine lv_aload_n hx hb dX11_order_19 rfl (lv_at hl 0 rfl) ?_
    obtain ⟨t5, ht5, h⟩ := Option.bind_eq_some_iff.mp h
    refine xr_getP X O ht5 fl_X11_72 dX11_order_20 ?_
    refine lv_aload_n hx hb dX11_order_23 rfl (lv_at hl 0 rfl) ?_
    obtain ⟨t6, ht6, h⟩ := Option.bind_eq_some_iff.mp h
    refine xr_getP X O ht6 fl_X11_19 dX11_order_24 ?_
    obtain ⟨_, hut7, h⟩ := Option.bind_eq_some_iff.mp h
    obtain ⟨t8, ht8, h⟩ := Option.bind_eq_some_iff.mp h
    refine xr_callV (rest := [.ref (κ.1 + t4), .ref (κ.1 + t3)]) X O (T_X6_bestSet l κ t5 t6 t2 _ _ ht8) lk_X11_272 hut7 (Nat.le_of_ble_eq_true rfl) rfl hl.1 rfl (Nat.le_of_ble_eq_true rfl) dX11_order_27 ⟨Nat.le_of_ble_eq_true rfl, Nat.le_of_ble_eq_true rfl⟩ (fun H locs O => ?_)
    refine W.eq (g2 := F0 m 30 ls [.int t8.1, .ref (κ.1 + t4), .ref (κ.1 + t3)]) rfl ?_
    refine lv_iload_n hx hb dX11_order_30 rfl (lv_at hl 1 rfl) ?_
    obtain ⟨_, hut9, h⟩ := Option.bind_eq_some_iff.mp h
    obtain ⟨t10, ht10, h⟩ := Option.bind_eq_some_iff.mp h
    refine xr_callV (rest := []) X O (T_X6_inOrder l κ t3 t4 t8.1 a1 t8.2 _ _ ht10) lk_X11_280 hut9 (Nat.le_of_ble_eq_true rfl) rfl hl.1 rfl (Nat.le_of_ble_eq_true rfl) dX11_order_31 ⟨Nat.le_of_ble_eq_true rfl, Nat.le_of_ble_eq_true rfl⟩ (fun H locs O => ?_)
    refine W.eq (g2 := F0 m 34 ls [.int t10.1]) rfl ?_
    rw [← Option.some.inj h] at hK
    have hK : (t10.1, t10.2) = (ro, mo) := hK
    obtain ⟨hK1, hK2⟩ := Prod.mk.inj hK
    rw [hK2] at O
    refine xr_top (w := .int ro) (by rw [hK1]) ?_
    exact xr_iret X hr hlk O dX11_order_34
  rw [if_neg hc1] at h
  refine lv_bipush (v := (-3 : Int32)) hx hb dX11_order_4 (by decide) ?_
  rw [← Option.some.inj h] at hK
  have hK : ((-3 : Int32), M) = (ro, mo) := hK
  obtain ⟨hK1, hK2⟩ := Prod.mk.inj hK
  rw [hK2] at O
  refine xr_top (w := .int ro) (by rw [hK1]) ?_
  exact xr_iret X hr hlk O dX11_order_6
def F_X11_colours_27 (v0 : Nat) (v1 : Int32) (M : xM) : Option (Int32 × xM) :=
(xgP M v0 11 13).bind fun t3 =>
(xgP M v0 11 2).bind fun t4 =>
(xck M t3 9).bind fun _ =>
(F_X9_paint t3 t4 M).bind fun t6 =>
if v1 = 0 then (
some (t6.1, t6.2))
else (
(xgP t6.2 v0 11 13).bind fun t7 =>
(xgP t6.2 t7 9 0).bind fun t8 =>
(xaI t6.2 20 t8 (v1 - (10 : Int32))).bind fun t9 =>
some (t9, t6.2))
def F_X11_colours (a0 : Nat) (a1 : Int32) (M : xM) : Option (Int32 × xM) :=
if a1 = 0 then (
F_X11_colours_27 a0 a1 M)
else (
if a1 < (10 : Int32) then (
some ((-2 : Int32), M))
else (
(xgP M a0 11 2).bind fun t1 =>
(xgI M t1 3 6).bind fun t2 =>
if (a1 - (10 : Int32)) < t2 then (
F_X11_colours_27 a0 a1 M)
else (
some ((-2 : Int32), M))))
set_option maxRecDepth 100000 in
set_option maxHeartbeats 4000000 in
theorem F_X11_colours_27_ok (X : xX p s m args c cX11_colours 3 RX11 κ) (hr : meth.sig.returnType = (some .int)) (hlk : meth.locks = false) {ro : Int32} {mo : xM} (v0 : Nat) (v1 : Int32) (M : xM) (x : Int32 × xM) (h : F_X11_colours_27 v0 v1 M = some x) (hK : (fun o => o = (ro, mo)) x) (H : Heap) (locs : List Loc) (ls : Array Slot) (O : xO κ s M H locs) (hl : lv_has ls 3 [(0, .ref (κ.1 + v0)), (1, .int v1)]) : W p l e (xRm 12 0 0) s m args below meth c H locs 0 0 (xQf below args s 0 0 κ (some (.int ro)) mo) (F0 m 27 ls []) := by
  unfold F_X11_colours_27 at h
  have hx := X.1
  have hb := X.2.1
  refine lv_aload_n hx hb dX11_colours_27 rfl (lv_at hl 0 rfl) ?_
  obtain ⟨t3, ht3, h⟩ := Option.bind_eq_some_iff.mp h
  refine xr_getP X O ht3 fl_X11_79 dX11_colours_28 ?_
  refine lv_aload_n hx hb dX11_colours_31 rfl (lv_at hl 0 rfl) ?_
  obtain ⟨t4, ht4, h⟩ := Option.bind_eq_some_iff.mp h
  refine xr_getP X O ht4 fl_X11_19 dX11_colours_32 ?_
  obtain ⟨_, hut5, h⟩ := Option.bind_eq_some_iff.mp h
  obtain ⟨t6, ht6, h⟩ := Option.bind_eq_some_iff.mp h
  refine xr_callV (rest := []) X O (T_X9_paint l κ t3 t4 M _ _ ht6) lk_X11_286 hut5 (Nat.le_of_ble_eq_true rfl) rfl hl.1 rfl (Nat.le_of_ble_eq_true rfl) dX11_colours_35 ⟨Nat.le_of_ble_eq_true rfl, Nat.le_of_ble_eq_true rfl⟩ (fun H locs O => ?_)
  refine W.eq (g2 := F0 m 38 ls [.int t6.1]) rfl ?_
  refine lv_istore_n (lv' := [(2, .int t6.1), (0, .ref (κ.1 + v0)), (1, .int v1)]) hx hb dX11_colours_38 rfl hl (by decide) rfl (fun ls hl => ?_)
  refine lv_iload_n hx hb dX11_colours_39 rfl (lv_at hl 2 rfl) ?_
  refine lv_if_ne (tgt := 47) hx hb dX11_colours_40 (by decide) (fun hc40 => ?_) (fun hc40 => ?_)
  · rw [if_neg hc40] at h
    refine lv_aload_n hx hb dX11_colours_47 rfl (lv_at hl 1 rfl) ?_
    obtain ⟨t7, ht7, h⟩ := Option.bind_eq_some_iff.mp h
    refine xr_getP X O ht7 fl_X11_79 dX11_colours_48 ?_
    obtain ⟨t8, ht8, h⟩ := Option.bind_eq_some_iff.mp h
    refine xr_getP X O ht8 fl_X11_289 dX11_colours_51 ?_
    refine lv_iload_n hx hb dX11_colours_54 rfl (lv_at hl 2 rfl) ?_
    refine lv_bipush (v := (10 : Int32)) hx hb dX11_colours_55 (by decide) ?_
    refine lv_isub hx hb dX11_colours_57 ?_
    obtain ⟨t9, ht9, h⟩ := Option.bind_eq_some_iff.mp h
    refine xr_aldI X O ht9 dX11_colours_58 ?_
    rw [← Option.some.inj h] at hK
    have hK : (t9, t6.2) = (ro, mo) := hK
    obtain ⟨hK1, hK2⟩ := Prod.mk.inj hK
    rw [hK2] at O
    refine xr_top (w := .int ro) (by rw [hK1]) ?_
    exact xr_iret X hr hlk O dX11_colours_59
  rw [if_pos hc40] at h
  refine lv_iload_n hx hb dX11_colours_43 rfl (lv_at hl 0 rfl) ?_
  refine lv_goto (tgt := 59) hx hb dX11_colours_44 (by decide) ?_
  rw [← Option.some.inj h] at hK
  have hK : (t6.1, t6.2) = (ro, mo) := hK
  obtain ⟨hK1, hK2⟩ := Prod.mk.inj hK
  rw [hK2] at O
  refine xr_top (w := .int ro) (by rw [hK1]) ?_
  exact xr_iret X hr hlk O dX11_colours_59
set_option maxRecDepth 100000 in
set_option maxHeartbeats 4000000 in
theorem T_X11_colours (l : Launch) (κ : xQ) (a0 : Nat) (a1 : Int32) (M : xM) (ro : Int32) (mo : xM) (h : F_X11_colours a0 a1 M = some (ro, mo)) : xC l yX11_colours cX11_colours 3 (some .int) 12 0 0 κ [.ref (κ.1 + a0), .int a1] M (some (.int ro)) mo := by
  refine xC_of rfl (Nat.le_of_ble_eq_true rfl) fun p e s m args below meth c X hr hlk hnm H locs ls O hl => ?_
  have X : xX p s m args c cX11_colours 3 RX11 κ := X
  have hl : lv_has ls 3 [(0, .ref (κ.1 + a0)), (1, .int a1)] := hl
  have hx := X.1
  have hb := X.2.1
  obtain ⟨x, hx0⟩ : ∃ x, (ro, mo) = x := ⟨_, rfl⟩
  rw [hx0] at h
  have hK : x = (ro, mo) := hx0.symm
  unfold F_X11_colours at h
  refine lv_iload_n hx hb dX11_colours_0 rfl (lv_at hl 1 rfl) ?_
  refine lv_if_eq (tgt := 27) hx hb dX11_colours_1 (by decide) (fun hc1 => ?_) (fun hc1 => ?_)
  · rw [if_pos hc1] at h
    exact F_X11_colours_27_ok X hr hlk a0 a1 M _ h hK H locs ls O (lv_sub hl [0, 1] rfl)
  rw [if_neg hc1] at h
  refine lv_iload_n hx hb dX11_colours_4 rfl (lv_at hl 1 rfl) ?_
  refine lv_bipush (v := (10 : Int32)) hx hb dX11_colours_5 (by decide) ?_
  refine lv_icmp_lt (tgt := 24) hx hb dX11_colours_7 (by decide) (fun hc7 => ?_) (fun hc7 => ?_)
  · rw [if_pos hc7] at h
    refine lv_bipush (v := (-2 : Int32)) hx hb dX11_colours_24 (by decide) ?_
    rw [← Option.some.inj h] at hK
    have hK : ((-2 : Int32), M) = (ro, mo) := hK
    obtain ⟨hK1, hK2⟩ := Prod.mk.inj hK
    rw [hK2] at O
    refine xr_top (w := .int ro) (by rw [hK1]) ?_
    exact xr_iret X hr hlk O dX11_colours_26
  rw [if_neg hc7] at h
  refine lv_iload_n hx hb dX11_colours_10 rfl (lv_at hl 1 rfl) ?_
  refine lv_bipush (v := (10 : Int32)) hx hb dX11_colours_11 (by decide) ?_
  refine lv_isub hx hb dX11_colours_13 ?_
  refine lv_aload_n hx hb dX11_colours_14 rfl (lv_at hl 0 rfl) ?_
  obtain ⟨t1, ht1, h⟩ := Option.bind_eq_some_iff.mp h
  refine xr_getP X O ht1 fl_X11_19 dX11_colours_15 ?_
  obtain ⟨t2, ht2, h⟩ := Option.bind_eq_some_iff.mp h
  refine xr_getI X O ht2 fl_X11_283 (Or.inl rfl) dX11_colours_18 ?_
  refine lv_icmp_lt (tgt := 27) hx hb dX11_colours_21 (by decide) (fun hc21 => ?_) (fun hc21 => ?_)
  · rw [if_pos hc21] at h
    exact F_X11_colours_27_ok X hr hlk a0 a1 M _ h hK H locs ls O (lv_sub hl [0, 1] rfl)
  rw [if_neg hc21] at h
  refine lv_bipush (v := (-2 : Int32)) hx hb dX11_colours_24 (by decide) ?_
  rw [← Option.some.inj h] at hK
  have hK : ((-2 : Int32), M) = (ro, mo) := hK
  obtain ⟨hK1, hK2⟩ := Prod.mk.inj hK
  rw [hK2] at O
  refine xr_top (w := .int ro) (by rw [hK1]) ?_
  exact xr_iret X hr hlk O dX11_colours_26
def F_X11_clique (a0 : Nat) (a1 : Int32) (M : xM) : Option (Int32 × xM) :=
if a1 < 0 then (
some ((-2 : Int32), M))
else (
if a1 ≤ (1 : Int32) then (
(xgP M a0 11 2).bind fun t1 =>
(F_X9_greatestClique t1 M).bind fun t2 =>
if a1 = 0 then (
(F_J6_bitCount_0f7a4 t2.1 t2.2).bind fun t3 =>
some (t3.1, t3.2))
else (
some (t2.1, t2.2)))
else (
some ((-2 : Int32), M)))
set_option maxRecDepth 100000 in
set_option maxHeartbeats 4000000 in
theorem T_X11_clique (l : Launch) (κ : xQ) (a0 : Nat) (a1 : Int32) (M : xM) (ro : Int32) (mo : xM) (h : F_X11_clique a0 a1 M = some (ro, mo)) : xC l yX11_clique cX11_clique 3 (some .int) 4 0 0 κ [.ref (κ.1 + a0), .int a1] M (some (.int ro)) mo := by
  refine xC_of rfl (Nat.le_of_ble_eq_true rfl) fun p e s m args below meth c X hr hlk hnm H locs ls O hl => ?_
  have X : xX p s m args c cX11_clique 3 RX11 κ := X
  have hl : lv_has ls 3 [(0, .ref (κ.1 + a0)), (1, .int a1)] := hl
  have hx := X.1
  have hb := X.2.1
  obtain ⟨x, hx0⟩ : ∃ x, (ro, mo) = x := ⟨_, rfl⟩
  rw [hx0] at h
  have hK : x = (ro, mo) := hx0.symm
  unfold F_X11_clique at h
  refine lv_iload_n hx hb dX11_clique_0 rfl (lv_at hl 1 rfl) ?_
  refine lv_if_lt (tgt := 9) hx hb dX11_clique_1 (by decide) (fun hc1 => ?_) (fun hc1 => ?_)
  · rw [if_pos hc1] at h
    refine lv_bipush (v := (-2 : Int32)) hx hb dX11_clique_9 (by decide) ?_
    rw [← Option.some.inj h] at hK
    have hK : ((-2 : Int32), M) = (ro, mo) := hK
    obtain ⟨hK1, hK2⟩ := Prod.mk.inj hK
    rw [hK2] at O
    refine xr_top (w := .int ro) (by rw [hK1]) ?_
    exact xr_iret X hr hlk O dX11_clique_11
  rw [if_neg hc1] at h
  refine lv_iload_n hx hb dX11_clique_4 rfl (lv_at hl 1 rfl) ?_
  refine lv_iconst (v := (1 : Int32)) hx hb dX11_clique_5 (by decide) ?_
  refine lv_icmp_le (tgt := 12) hx hb dX11_clique_6 (by decide) (fun hc6 => ?_) (fun hc6 => ?_)
  · rw [if_pos hc6] at h
    refine lv_aload_n hx hb dX11_clique_12 rfl (lv_at hl 0 rfl) ?_
    obtain ⟨t1, ht1, h⟩ := Option.bind_eq_some_iff.mp h
    refine xr_getP X O ht1 fl_X11_19 dX11_clique_13 ?_
    obtain ⟨t2, ht2, h⟩ := Option.bind_eq_some_iff.mp h
    refine xr_callS (rest := []) X O (T_X9_greatestClique l κ t1 M _ _ ht2) lk_X11_292 (Nat.le_of_ble_eq_true rfl) rfl hl.1 rfl (Nat.le_of_ble_eq_true rfl) dX11_clique_16 ⟨Nat.le_of_ble_eq_true rfl, Nat.le_of_ble_eq_true rfl⟩ (fun H locs O => ?_)
    refine W.eq (g2 := F0 m 19 ls [.int t2.1]) rfl ?_
    refine lv_istore_n (lv' := [(2, .int t2.1), (0, .ref (κ.1 + a0)), (1, .int a1)]) hx hb dX11_clique_19 rfl hl (by decide) rfl (fun ls hl => ?_)
    refine lv_iload_n hx hb dX11_clique_20 rfl (lv_at hl 2 rfl) ?_
    refine lv_if_ne (tgt := 31) hx hb dX11_clique_21 (by decide) (fun hc21 => ?_) (fun hc21 => ?_)
    · rw [if_neg hc21] at h
      refine lv_iload_n hx hb dX11_clique_31 rfl (lv_at hl 0 rfl) ?_
      rw [← Option.some.inj h] at hK
      have hK : (t2.1, t2.2) = (ro, mo) := hK
      obtain ⟨hK1, hK2⟩ := Prod.mk.inj hK
      rw [hK2] at O
      refine xr_top (w := .int ro) (by rw [hK1]) ?_
      exact xr_iret X hr hlk O dX11_clique_32
    rw [if_pos hc21] at h
    refine lv_iload_n hx hb dX11_clique_24 rfl (lv_at hl 0 rfl) ?_
    obtain ⟨t3, ht3, h⟩ := Option.bind_eq_some_iff.mp h
    refine xr_callS (rest := []) X O (T_J6_bitCount_0f7a4 l κ t2.1 t2.2 _ _ ht3) lk_X11_188 (Nat.le_of_ble_eq_true rfl) rfl hl.1 rfl (Nat.le_of_ble_eq_true rfl) dX11_clique_25 ⟨Nat.le_of_ble_eq_true rfl, Nat.le_of_ble_eq_true rfl⟩ (fun H locs O => ?_)
    refine W.eq (g2 := F0 m 28 ls [.int t3.1]) rfl ?_
    refine lv_goto (tgt := 32) hx hb dX11_clique_28 (by decide) ?_
    rw [← Option.some.inj h] at hK
    have hK : (t3.1, t3.2) = (ro, mo) := hK
    obtain ⟨hK1, hK2⟩ := Prod.mk.inj hK
    rw [hK2] at O
    refine xr_top (w := .int ro) (by rw [hK1]) ?_
    exact xr_iret X hr hlk O dX11_clique_32
  rw [if_neg hc6] at h
  refine lv_bipush (v := (-2 : Int32)) hx hb dX11_clique_9 (by decide) ?_
  rw [← Option.some.inj h] at hK
  have hK : ((-2 : Int32), M) = (ro, mo) := hK
  obtain ⟨hK1, hK2⟩ := Prod.mk.inj hK
  rw [hK2] at O
  refine xr_top (w := .int ro) (by rw [hK1]) ?_
  exact xr_iret X hr hlk O dX11_clique_11
def F_X11_papers_50 (v2 : Int32) (M : xM) : Option (Int32 × xM) :=
some (v2, M)
def F_X11_papers_15b (v0 : Nat) (v1 : Int32) : (Int32 × Int32 × xM) → Option ((Int32 × Int32 × xM) ⊕ (Int32 × xM)) := fun ⟨v2, v3, M⟩ =>
(xgP M v0 11 2).bind fun t3 =>
(xgI M t3 3 6).bind fun t4 =>
if t4 ≤ v3 then (
(F_X11_papers_50 v2 M).map Sum.inr)
else (
(xgP M v0 11 2).bind fun t5 =>
(xgP M t5 3 15).bind fun t6 =>
(xaI M 20 t6 v3).bind fun t7 =>
(some ((v2 ||| (((t7 >>> (v1 &&& 31)) &&& (1 : Int32)) <<< (v3 &&& 31))))).bind fun t8 =>
some (.inl (t8, (v3 + 1), M)))
def F_X11_papers_15 (v0 : Nat) (v1 : Int32) (v2 : Int32) (v3 : Int32) (M : xM) : Option (Int32 × xM) := xit (F_X11_papers_15b v0 v1) xFU (v2, v3, M)
def F_X11_papers (a0 : Nat) (a1 : Int32) (M : xM) : Option (Int32 × xM) :=
(xck M a0 11).bind fun _ =>
(F_X11_isCell a0 a1 M).bind fun t2 =>
if t2.1 = 0 then (
some ((-2 : Int32), t2.2))
else (
F_X11_papers_15 a0 a1 (0 : Int32) (0 : Int32) t2.2)
set_option maxRecDepth 100000 in
set_option maxHeartbeats 4000000 in
theorem F_X11_papers_50_ok (X : xX p s m args c cX11_papers 4 RX11 κ) (hr : meth.sig.returnType = (some .int)) (hlk : meth.locks = false) {ro : Int32} {mo : xM} (v2 : Int32) (M : xM) (x : Int32 × xM) (h : F_X11_papers_50 v2 M = some x) (hK : (fun o => o = (ro, mo)) x) (H : Heap) (locs : List Loc) (ls : Array Slot) (O : xO κ s M H locs) (hl : lv_has ls 4 [(2, .int v2)]) : W p l e (xRm 4 0 0) s m args below meth c H locs 0 0 (xQf below args s 0 0 κ (some (.int ro)) mo) (F0 m 50 ls []) := by
  unfold F_X11_papers_50 at h
  have hx := X.1
  have hb := X.2.1
  refine lv_iload_n hx hb dX11_papers_50 rfl (lv_at hl 0 rfl) ?_
  rw [← Option.some.inj h] at hK
  have hK : (v2, M) = (ro, mo) := hK
  obtain ⟨hK1, hK2⟩ := Prod.mk.inj hK
  rw [hK2] at O
  refine xr_top (w := .int ro) (by rw [hK1]) ?_
  exact xr_iret X hr hlk O dX11_papers_51
set_option maxRecDepth 100000 in
set_option maxHeartbeats 4000000 in
theorem F_X11_papers_15_bok (X : xX p s m args c cX11_papers 4 RX11 κ) (hr : meth.sig.returnType = (some .int)) (hlk : meth.locks = false) {ro : Int32} {mo : xM} (v0 : Nat) (v1 : Int32) (v2 : Int32) (v3 : Int32) {W15 : Int32 × Int32 × xM → Prop} (hW15 : ∀ (v2 : Int32) (v3 : Int32) (M : xM), W15 (v2, v3, M) → ∀ (H : Heap) (locs : List Loc) (ls : Array Slot), xO κ s M H locs → lv_has ls 4 [(0, .ref (κ.1 + v0)), (1, .int v1), (2, .int v2), (3, .int v3)] → W p l e (xRm 4 0 0) s m args below meth c H locs 0 0 (xQf below args s 0 0 κ (some (.int ro)) mo) (F0 m 15 ls [])) (M : xM) (x : (Int32 × Int32 × xM) ⊕ (Int32 × xM)) (h : F_X11_papers_15b v0 v1 (v2, v3, M) = some x) (hK : (xKl W15 (fun o => o = (ro, mo))) x) (H : Heap) (locs : List Loc) (ls : Array Slot) (O : xO κ s M H locs) (hl : lv_has ls 4 [(0, .ref (κ.1 + v0)), (1, .int v1), (2, .int v2), (3, .int v3)]) : W p l e (xRm 4 0 0) s m args below meth c H locs 0 0 (xQf below args s 0 0 κ (some (.int ro)) mo) (F0 m 15 ls []) := by
  unfold F_X11_papers_15b at h
  dsimp only at h
  have hx := X.1
  have hb := X.2.1
  refine lv_iload_n hx hb dX11_papers_15 rfl (lv_at hl 3 rfl) ?_
  refine lv_aload_n hx hb dX11_papers_16 rfl (lv_at hl 0 rfl) ?_
  obtain ⟨t3, ht3, h⟩ := Option.bind_eq_some_iff.mp h
  refine xr_getP X O ht3 fl_X11_19 dX11_papers_17 ?_
  obtain ⟨t4, ht4, h⟩ := Option.bind_eq_some_iff.mp h
  refine xr_getI X O ht4 fl_X11_283 (Or.inl rfl) dX11_papers_20 ?_
  refine lv_icmp_ge (tgt := 50) hx hb dX11_papers_23 (by decide) (fun hc23 => ?_) (fun hc23 => ?_)
  · rw [if_pos hc23] at h
    obtain ⟨_, hw0, ew0⟩ := Option.map_eq_some_iff.mp h
    rw [← ew0] at hK
    have h := hw0
    exact F_X11_papers_50_ok X hr hlk v2 M _ h hK H locs ls O (lv_sub hl [2] rfl)
  rw [if_neg hc23] at h
  refine lv_iload_n hx hb dX11_papers_26 rfl (lv_at hl 2 rfl) ?_
  refine lv_aload_n hx hb dX11_papers_27 rfl (lv_at hl 0 rfl) ?_
  obtain ⟨t5, ht5, h⟩ := Option.bind_eq_some_iff.mp h
  refine xr_getP X O ht5 fl_X11_19 dX11_papers_28 ?_
  obtain ⟨t6, ht6, h⟩ := Option.bind_eq_some_iff.mp h
  refine xr_getP X O ht6 fl_X11_295 dX11_papers_31 ?_
  refine lv_iload_n hx hb dX11_papers_34 rfl (lv_at hl 3 rfl) ?_
  obtain ⟨t7, ht7, h⟩ := Option.bind_eq_some_iff.mp h
  refine xr_aldI X O ht7 dX11_papers_35 ?_
  refine lv_iload_n hx hb dX11_papers_36 rfl (lv_at hl 1 rfl) ?_
  refine lv_ishr hx hb dX11_papers_37 ?_
  refine lv_iconst (v := (1 : Int32)) hx hb dX11_papers_38 (by decide) ?_
  refine lv_iand hx hb dX11_papers_39 ?_
  refine lv_iload_n hx hb dX11_papers_40 rfl (lv_at hl 3 rfl) ?_
  refine lv_ishl hx hb dX11_papers_41 ?_
  refine lv_ior hx hb dX11_papers_42 ?_
  obtain ⟨t8, ht8, h⟩ := Option.bind_eq_some_iff.mp h
  refine xr_top (w := .int t8) (by rw [Option.some.inj ht8]) ?_
  refine lv_istore_n (lv' := [(2, .int t8), (0, .ref (κ.1 + v0)), (1, .int v1), (3, .int v3)]) hx hb dX11_papers_43 rfl hl (by decide) rfl (fun ls hl => ?_)
  refine lv_iinc (v := (v3 + 1)) (lv' := [(3, .int (v3 + 1)), (2, .int t8), (0, .ref (κ.1 + v0)), (1, .int v1)]) hx hb dX11_papers_44 hl (k := 3) rfl rfl (by decide) rfl (fun ls hl => ?_)
  refine lv_goto (tgt := 15) hx hb dX11_papers_47 (by decide) ?_
  rw [← Option.some.inj h] at hK
  exact hW15 t8 (v3 + 1) M hK H locs ls O (lv_sub hl [2, 3, 1, 0] rfl)
set_option maxRecDepth 100000 in
set_option maxHeartbeats 4000000 in
theorem F_X11_papers_15_ok (X : xX p s m args c cX11_papers 4 RX11 κ) (hr : meth.sig.returnType = (some .int)) (hlk : meth.locks = false) {ro : Int32} {mo : xM} (v0 : Nat) (v1 : Int32) (v2 : Int32) (v3 : Int32) (M : xM) (x : Int32 × xM) (h : F_X11_papers_15 v0 v1 v2 v3 M = some x) (hK : (fun o => o = (ro, mo)) x) (H : Heap) (locs : List Loc) (ls : Array Slot) (O : xO κ s M H locs) (hl : lv_has ls 4 [(0, .ref (κ.1 + v0)), (1, .int v1), (2, .int v2), (3, .int v3)]) : W p l e (xRm 4 0 0) s m args below meth c H locs 0 0 (xQf below args s 0 0 κ (some (.int ro)) mo) (F0 m 15 ls []) := by
  refine xit_K (Wh := fun x => ∀ (H : Heap) (locs : List Loc) (ls : Array Slot), xO κ s x.2.2 H locs → lv_has ls 4 [(0, .ref (κ.1 + v0)), (1, .int v1), (2, .int x.1), (3, .int x.2.1)] → W p l e (xRm 4 0 0) s m args below meth c H locs 0 0 (xQf below args s 0 0 κ (some (.int ro)) mo) (F0 m 15 ls [])) (Kp := (fun o => o = (ro, mo))) ?_ xFU (v2, v3, M) x h hK H locs ls O hl
  intro y x h hK H locs ls O hl
  exact F_X11_papers_15_bok X hr hlk v0 v1 y.1 y.2.1 (fun _ _ _ hw => hw) y.2.2 x h hK H locs ls O hl
set_option maxRecDepth 100000 in
set_option maxHeartbeats 4000000 in
theorem T_X11_papers (l : Launch) (κ : xQ) (a0 : Nat) (a1 : Int32) (M : xM) (ro : Int32) (mo : xM) (h : F_X11_papers a0 a1 M = some (ro, mo)) : xC l yX11_papers cX11_papers 4 (some .int) 4 0 0 κ [.ref (κ.1 + a0), .int a1] M (some (.int ro)) mo := by
  refine xC_of rfl (Nat.le_of_ble_eq_true rfl) fun p e s m args below meth c X hr hlk hnm H locs ls O hl => ?_
  have X : xX p s m args c cX11_papers 4 RX11 κ := X
  have hl : lv_has ls 4 [(0, .ref (κ.1 + a0)), (1, .int a1)] := hl
  have hx := X.1
  have hb := X.2.1
  obtain ⟨x, hx0⟩ : ∃ x, (ro, mo) = x := ⟨_, rfl⟩
  rw [hx0] at h
  have hK : x = (ro, mo) := hx0.symm
  unfold F_X11_papers at h
  refine lv_aload_n hx hb dX11_papers_0 rfl (lv_at hl 0 rfl) ?_
  refine lv_iload_n hx hb dX11_papers_1 rfl (lv_at hl 1 rfl) ?_
  obtain ⟨_, hut1, h⟩ := Option.bind_eq_some_iff.mp h
  obtain ⟨t2, ht2, h⟩ := Option.bind_eq_some_iff.mp h
  refine xr_callV (rest := []) X O (T_X11_isCell l κ a0 a1 M _ _ ht2) lk_X11_133 hut1 (Nat.le_of_ble_eq_true rfl) rfl hl.1 rfl (Nat.le_of_ble_eq_true rfl) dX11_papers_2 ⟨Nat.le_of_ble_eq_true rfl, Nat.le_of_ble_eq_true rfl⟩ (fun H locs O => ?_)
  refine W.eq (g2 := F0 m 5 ls [.int t2.1]) rfl ?_
  refine lv_if_ne (tgt := 11) hx hb dX11_papers_5 (by decide) (fun hc5 => ?_) (fun hc5 => ?_)
  · rw [if_neg hc5] at h
    refine lv_iconst (v := (0 : Int32)) hx hb dX11_papers_11 (by decide) ?_
    refine lv_istore_n (lv' := [(2, .int (0 : Int32)), (0, .ref (κ.1 + a0)), (1, .int a1)]) hx hb dX11_papers_12 rfl hl (by decide) rfl (fun ls hl => ?_)
    refine lv_iconst (v := (0 : Int32)) hx hb dX11_papers_13 (by decide) ?_
    refine lv_istore_n (lv' := [(3, .int (0 : Int32)), (2, .int (0 : Int32)), (0, .ref (κ.1 + a0)), (1, .int a1)]) hx hb dX11_papers_14 rfl hl (by decide) rfl (fun ls hl => ?_)
    exact F_X11_papers_15_ok X hr hlk a0 a1 (0 : Int32) (0 : Int32) t2.2 _ h hK H locs ls O (lv_sub hl [2, 3, 1, 0] rfl)
  rw [if_pos hc5] at h
  refine lv_bipush (v := (-2 : Int32)) hx hb dX11_papers_8 (by decide) ?_
  rw [← Option.some.inj h] at hK
  have hK : ((-2 : Int32), t2.2) = (ro, mo) := hK
  obtain ⟨hK1, hK2⟩ := Prod.mk.inj hK
  rw [hK2] at O
  refine xr_top (w := .int ro) (by rw [hK1]) ?_
  exact xr_iret X hr hlk O dX11_papers_10
def F_X11_balance_9 (M : xM) : Option (Int32 × xM) :=
some ((-99000002 : Int32), M)
def F_X11_balance (a0 : Nat) (a1 : Int32) (M : xM) : Option (Int32 × xM) :=
if a1 < 0 then (
F_X11_balance_9 M)
else (
if a1 < (5 : Int32) then (
(xgP M a0 11 2).bind fun t1 =>
(xgP M t1 3 16).bind fun t2 =>
(xaI M 20 t2 a1).bind fun t3 =>
some (t3, M))
else (
F_X11_balance_9 M))
set_option maxRecDepth 100000 in
set_option maxHeartbeats 4000000 in
theorem F_X11_balance_9_ok (X : xX p s m args c cX11_balance 2 RX11 κ) (hr : meth.sig.returnType = (some .int)) (hlk : meth.locks = false) {ro : Int32} {mo : xM} (M : xM) (x : Int32 × xM) (h : F_X11_balance_9 M = some x) (hK : (fun o => o = (ro, mo)) x) (H : Heap) (locs : List Loc) (ls : Array Slot) (O : xO κ s M H locs) (hl : lv_has ls 2 []) : W p l e (xRm 2 0 0) s m args below meth c H locs 0 0 (xQf below args s 0 0 κ (some (.int ro)) mo) (F0 m 9 ls []) := by
  unfold F_X11_balance_9 at h
  have hx := X.1
  have hb := X.2.1
  refine lv_ldcw (v := (-99000002 : Int32)) hx hb X.2.2.2.1 (X.2.2.2.2.1 _ ct_X11_298) dX11_balance_9 ?_
  refine lv_goto (tgt := 24) hx hb dX11_balance_12 (by decide) ?_
  rw [← Option.some.inj h] at hK
  have hK : ((-99000002 : Int32), M) = (ro, mo) := hK
  obtain ⟨hK1, hK2⟩ := Prod.mk.inj hK
  rw [hK2] at O
  refine xr_top (w := .int ro) (by rw [hK1]) ?_
  exact xr_iret X hr hlk O dX11_balance_24
set_option maxRecDepth 100000 in
set_option maxHeartbeats 4000000 in
theorem T_X11_balance (l : Launch) (κ : xQ) (a0 : Nat) (a1 : Int32) (M : xM) (ro : Int32) (mo : xM) (h : F_X11_balance a0 a1 M = some (ro, mo)) : xC l yX11_balance cX11_balance 2 (some .int) 2 0 0 κ [.ref (κ.1 + a0), .int a1] M (some (.int ro)) mo := by
  refine xC_of rfl (Nat.le_of_ble_eq_true rfl) fun p e s m args below meth c X hr hlk hnm H locs ls O hl => ?_
  have X : xX p s m args c cX11_balance 2 RX11 κ := X
  have hl : lv_has ls 2 [(0, .ref (κ.1 + a0)), (1, .int a1)] := hl
  have hx := X.1
  have hb := X.2.1
  obtain ⟨x, hx0⟩ : ∃ x, (ro, mo) = x := ⟨_, rfl⟩
  rw [hx0] at h
  have hK : x = (ro, mo) := hx0.symm
  unfold F_X11_balance at h
  refine lv_iload_n hx hb dX11_balance_0 rfl (lv_at hl 1 rfl) ?_
  refine lv_if_lt (tgt := 9) hx hb dX11_balance_1 (by decide) (fun hc1 => ?_) (fun hc1 => ?_)
  · rw [if_pos hc1] at h
    exact F_X11_balance_9_ok X hr hlk  M _ h hK H locs ls O (lv_sub hl [] rfl)
  rw [if_neg hc1] at h
  refine lv_iload_n hx hb dX11_balance_4 rfl (lv_at hl 1 rfl) ?_
  refine lv_iconst (v := (5 : Int32)) hx hb dX11_balance_5 (by decide) ?_
  refine lv_icmp_lt (tgt := 15) hx hb dX11_balance_6 (by decide) (fun hc6 => ?_) (fun hc6 => ?_)
  · rw [if_pos hc6] at h
    refine lv_aload_n hx hb dX11_balance_15 rfl (lv_at hl 0 rfl) ?_
    obtain ⟨t1, ht1, h⟩ := Option.bind_eq_some_iff.mp h
    refine xr_getP X O ht1 fl_X11_19 dX11_balance_16 ?_
    obtain ⟨t2, ht2, h⟩ := Option.bind_eq_some_iff.mp h
    refine xr_getP X O ht2 fl_X11_299 dX11_balance_19 ?_
    refine lv_iload_n hx hb dX11_balance_22 rfl (lv_at hl 1 rfl) ?_
    obtain ⟨t3, ht3, h⟩ := Option.bind_eq_some_iff.mp h
    refine xr_aldI X O ht3 dX11_balance_23 ?_
    rw [← Option.some.inj h] at hK
    have hK : (t3, M) = (ro, mo) := hK
    obtain ⟨hK1, hK2⟩ := Prod.mk.inj hK
    rw [hK2] at O
    refine xr_top (w := .int ro) (by rw [hK1]) ?_
    exact xr_iret X hr hlk O dX11_balance_24
  rw [if_neg hc6] at h
  exact F_X11_balance_9_ok X hr hlk  M _ h hK H locs ls O (lv_sub hl [] rfl)
def F_X11_payments (a0 : Nat) (M : xM) : Option (Int32 × xM) :=
(xgP M a0 11 2).bind fun t1 =>
(xck M t1 3).bind fun _ =>
(F_X3_fewestPayments t1 M).bind fun t3 =>
some (t3.1, t3.2)
set_option maxRecDepth 100000 in
set_option maxHeartbeats 4000000 in
theorem T_X11_payments (l : Launch) (κ : xQ) (a0 : Nat) (M : xM) (ro : Int32) (mo : xM) (h : F_X11_payments a0 M = some (ro, mo)) : xC l yX11_payments cX11_payments 1 (some .int) 11 0 0 κ [.ref (κ.1 + a0)] M (some (.int ro)) mo := by
  refine xC_of rfl (Nat.le_of_ble_eq_true rfl) fun p e s m args below meth c X hr hlk hnm H locs ls O hl => ?_
  have X : xX p s m args c cX11_payments 1 RX11 κ := X
  have hl : lv_has ls 1 [(0, .ref (κ.1 + a0))] := hl
  have hx := X.1
  have hb := X.2.1
  obtain ⟨x, hx0⟩ : ∃ x, (ro, mo) = x := ⟨_, rfl⟩
  rw [hx0] at h
  have hK : x = (ro, mo) := hx0.symm
  unfold F_X11_payments at h
  refine lv_aload_n hx hb dX11_payments_0 rfl (lv_at hl 0 rfl) ?_
  obtain ⟨t1, ht1, h⟩ := Option.bind_eq_some_iff.mp h
  refine xr_getP X O ht1 fl_X11_19 dX11_payments_1 ?_
  obtain ⟨_, hut2, h⟩ := Option.bind_eq_some_iff.mp h
  obtain ⟨t3, ht3, h⟩ := Option.bind_eq_some_iff.mp h
  refine xr_callV (rest := []) X O (T_X3_fewestPayments l κ t1 M _ _ ht3) lk_X11_302 hut2 (Nat.le_of_ble_eq_true rfl) rfl hl.1 rfl (Nat.le_of_ble_eq_true rfl) dX11_payments_4 ⟨Nat.le_of_ble_eq_true rfl, Nat.le_of_ble_eq_true rfl⟩ (fun H locs O => ?_)
  refine W.eq (g2 := F0 m 7 ls [.int t3.1]) rfl ?_
  rw [← Option.some.inj h] at hK
  have hK : (t3.1, t3.2) = (ro, mo) := hK
  obtain ⟨hK1, hK2⟩ := Prod.mk.inj hK
  rw [hK2] at O
  refine xr_top (w := .int ro) (by rw [hK1]) ?_
  exact xr_iret X hr hlk O dX11_payments_7
def F_X11_refusedLooks_80 (M : xM) : Option (Int32 × xM) :=
some ((-3 : Int32), M)
def F_X11_refusedLooks_89 (M : xM) : Option (Int32 × xM) :=
some ((0 : Int32), M)
def F_X11_refusedLooks_42b (v3 : Nat) : (Int32 × xM) → Option ((Int32 × xM) ⊕ (Int32 × xM)) := fun ⟨v4, M⟩ =>
(xgI M v3 10 0).bind fun t7 =>
if t7 ≤ v4 then (
(F_X11_refusedLooks_89 M).map Sum.inr)
else (
(xgP M v3 10 2).bind fun t8 =>
(xaJ M t8 v4).bind fun t9 =>
if (lg_cmp t9 (0 : Int64)) < 0 then (
(F_X11_refusedLooks_80 M).map Sum.inr)
else (
(xgP M v3 10 2).bind fun t10 =>
(xaJ M t10 v4).bind fun t11 =>
(F_X11_isLevel (t11 / (100 : Int64)) M).bind fun t12 =>
if t12.1 = 0 then (
(F_X11_refusedLooks_80 t12.2).map Sum.inr)
else (
some (.inl ((v4 + 1), t12.2)))))
def F_X11_refusedLooks_42 (v3 : Nat) (v4 : Int32) (M : xM) : Option (Int32 × xM) := xit (F_X11_refusedLooks_42b v3) xFU (v4, M)
def F_X11_refusedLooks (a0 : Nat) (a1 : Int32) (M : xM) : Option (Int32 × xM) :=
(xck M a0 11).bind fun _ =>
(F_X11_refusedTray a0 a1 M).bind fun t2 =>
if t2.1 = 0 then (
(xgP t2.2 a0 11 7).bind fun t3 =>
(xaP t2.2 40 t3 a1).bind fun t4 =>
(xgI t2.2 t4 10 0).bind fun t5 =>
if t5 < (1 : Int32) then (
some ((-4 : Int32), t2.2))
else (
(xgI t2.2 t4 10 0).bind fun t6 =>
if t6 ≤ (8 : Int32) then (
F_X11_refusedLooks_42 t4 (0 : Int32) t2.2)
else (
some ((-4 : Int32), t2.2))))
else (
some (t2.1, t2.2))
set_option maxRecDepth 100000 in
set_option maxHeartbeats 4000000 in
theorem F_X11_refusedLooks_80_ok (X : xX p s m args c cX11_refusedLooks 5 RX11 κ) (hr : meth.sig.returnType = (some .int)) (hlk : meth.locks = false) {ro : Int32} {mo : xM} (M : xM) (x : Int32 × xM) (h : F_X11_refusedLooks_80 M = some x) (hK : (fun o => o = (ro, mo)) x) (H : Heap) (locs : List Loc) (ls : Array Slot) (O : xO κ s M H locs) (hl : lv_has ls 5 []) : W p l e (xRm 4 0 0) s m args below meth c H locs 0 0 (xQf below args s 0 0 κ (some (.int ro)) mo) (F0 m 80 ls []) := by
  unfold F_X11_refusedLooks_80 at h
  have hx := X.1
  have hb := X.2.1
  refine lv_bipush (v := (-3 : Int32)) hx hb dX11_refusedLooks_80 (by decide) ?_
  rw [← Option.some.inj h] at hK
  have hK : ((-3 : Int32), M) = (ro, mo) := hK
  obtain ⟨hK1, hK2⟩ := Prod.mk.inj hK
  rw [hK2] at O
  refine xr_top (w := .int ro) (by rw [hK1]) ?_
  exact xr_iret X hr hlk O dX11_refusedLooks_82
set_option maxRecDepth 100000 in
set_option maxHeartbeats 4000000 in
theorem F_X11_refusedLooks_89_ok (X : xX p s m args c cX11_refusedLooks 5 RX11 κ) (hr : meth.sig.returnType = (some .int)) (hlk : meth.locks = false) {ro : Int32} {mo : xM} (M : xM) (x : Int32 × xM) (h : F_X11_refusedLooks_89 M = some x) (hK : (fun o => o = (ro, mo)) x) (H : Heap) (locs : List Loc) (ls : Array Slot) (O : xO κ s M H locs) (hl : lv_has ls 5 []) : W p l e (xRm 4 0 0) s m args below meth c H locs 0 0 (xQf below args s 0 0 κ (some (.int ro)) mo) (F0 m 89 ls []) := by
  unfold F_X11_refusedLooks_89 at h
  have hx := X.1
  have hb := X.2.1
  refine lv_iconst (v := (0 : Int32)) hx hb dX11_refusedLooks_89 (by decide) ?_
  rw [← Option.some.inj h] at hK
  have hK : ((0 : Int32), M) = (ro, mo) := hK
  obtain ⟨hK1, hK2⟩ := Prod.mk.inj hK
  rw [hK2] at O
  refine xr_top (w := .int ro) (by rw [hK1]) ?_
  exact xr_iret X hr hlk O dX11_refusedLooks_90
set_option maxRecDepth 100000 in
set_option maxHeartbeats 4000000 in
theorem F_X11_refusedLooks_42_bok (X : xX p s m args c cX11_refusedLooks 5 RX11 κ) (hr : meth.sig.returnType = (some .int)) (hlk : meth.locks = false) {ro : Int32} {mo : xM} (v3 : Nat) (v4 : Int32) {W42 : Int32 × xM → Prop} (hW42 : ∀ (v4 : Int32) (M : xM), W42 (v4, M) → ∀ (H : Heap) (locs : List Loc) (ls : Array Slot), xO κ s M H locs → lv_has ls 5 [(3, .ref (κ.1 + v3)), (4, .int v4)] → W p l e (xRm 4 0 0) s m args below meth c H locs 0 0 (xQf below args s 0 0 κ (some (.int ro)) mo) (F0 m 42 ls [])) (M : xM) (x : (Int32 × xM) ⊕ (Int32 × xM)) (h : F_X11_refusedLooks_42b v3 (v4, M) = some x) (hK : (xKl W42 (fun o => o = (ro, mo))) x) (H : Heap) (locs : List Loc) (ls : Array Slot) (O : xO κ s M H locs) (hl : lv_has ls 5 [(3, .ref (κ.1 + v3)), (4, .int v4)]) : W p l e (xRm 4 0 0) s m args below meth c H locs 0 0 (xQf below args s 0 0 κ (some (.int ro)) mo) (F0 m 42 ls []) := by
  unfold F_X11_refusedLooks_42b at h
  dsimp only at h
  have hx := X.1
  have hb := X.2.1
  refine lv_iload hx hb dX11_refusedLooks_42 (lv_at hl 1 rfl) ?_
  refine lv_aload_n hx hb dX11_refusedLooks_44 rfl (lv_at hl 0 rfl) ?_
  obtain ⟨t7, ht7, h⟩ := Option.bind_eq_some_iff.mp h
  refine xr_getI X O ht7 fl_X11_232 (Or.inl rfl) dX11_refusedLooks_45 ?_
  refine lv_icmp_ge (tgt := 89) hx hb dX11_refusedLooks_48 (by decide) (fun hc48 => ?_) (fun hc48 => ?_)
  · rw [if_pos hc48] at h
    obtain ⟨_, hw0, ew0⟩ := Option.map_eq_some_iff.mp h
    rw [← ew0] at hK
    have h := hw0
    exact F_X11_refusedLooks_89_ok X hr hlk  M _ h hK H locs ls O (lv_sub hl [] rfl)
  rw [if_neg hc48] at h
  refine lv_aload_n hx hb dX11_refusedLooks_51 rfl (lv_at hl 0 rfl) ?_
  obtain ⟨t8, ht8, h⟩ := Option.bind_eq_some_iff.mp h
  refine xr_getP X O ht8 fl_X11_233 dX11_refusedLooks_52 ?_
  refine lv_iload hx hb dX11_refusedLooks_55 (lv_at hl 1 rfl) ?_
  obtain ⟨t9, ht9, h⟩ := Option.bind_eq_some_iff.mp h
  refine xr_aldJ X O ht9 dX11_refusedLooks_57 ?_
  refine lv_lconst (v := (0 : Int64)) hx hb dX11_refusedLooks_58 (by decide) ?_
  refine W.lcmp hx hb dX11_refusedLooks_59 ?_
  refine lv_if_lt (tgt := 80) hx hb dX11_refusedLooks_60 (by decide) (fun hc60 => ?_) (fun hc60 => ?_)
  · rw [if_pos hc60] at h
    obtain ⟨_, hw0, ew0⟩ := Option.map_eq_some_iff.mp h
    rw [← ew0] at hK
    have h := hw0
    exact F_X11_refusedLooks_80_ok X hr hlk  M _ h hK H locs ls O (lv_sub hl [] rfl)
  rw [if_neg hc60] at h
  refine lv_aload_n hx hb dX11_refusedLooks_63 rfl (lv_at hl 0 rfl) ?_
  obtain ⟨t10, ht10, h⟩ := Option.bind_eq_some_iff.mp h
  refine xr_getP X O ht10 fl_X11_233 dX11_refusedLooks_64 ?_
  refine lv_iload hx hb dX11_refusedLooks_67 (lv_at hl 1 rfl) ?_
  obtain ⟨t11, ht11, h⟩ := Option.bind_eq_some_iff.mp h
  refine xr_aldJ X O ht11 dX11_refusedLooks_69 ?_
  refine lv_ldc2 (v := (100 : Int64)) hx hb X.2.2.2.1 (X.2.2.2.2.1 _ ct_X11_371) dX11_refusedLooks_70 ?_
  refine lv_ldiv hx hb dX11_refusedLooks_73 (by decide) ?_
  obtain ⟨t12, ht12, h⟩ := Option.bind_eq_some_iff.mp h
  refine xr_callS (rest := []) X O (T_X11_isLevel l κ (t11 / (100 : Int64)) M _ _ ht12) lk_X11_170 (Nat.le_of_ble_eq_true rfl) rfl hl.1 rfl (Nat.le_of_ble_eq_true rfl) dX11_refusedLooks_74 ⟨Nat.le_of_ble_eq_true rfl, Nat.le_of_ble_eq_true rfl⟩ (fun H locs O => ?_)
  refine W.eq (g2 := F0 m 77 ls [.int t12.1]) rfl ?_
  refine lv_if_ne (tgt := 83) hx hb dX11_refusedLooks_77 (by decide) (fun hc77 => ?_) (fun hc77 => ?_)
  · rw [if_neg hc77] at h
    refine lv_iinc (v := (v4 + 1)) (lv' := [(4, .int (v4 + 1)), (3, .ref (κ.1 + v3))]) hx hb dX11_refusedLooks_83 hl (k := 1) rfl rfl (by decide) rfl (fun ls hl => ?_)
    refine lv_goto (tgt := 42) hx hb dX11_refusedLooks_86 (by decide) ?_
    rw [← Option.some.inj h] at hK
    exact hW42 (v4 + 1) t12.2 hK H locs ls O (lv_sub hl [1, 0] rfl)
  rw [if_pos hc77] at h
  obtain ⟨_, hw0, ew0⟩ := Option.map_eq_some_iff.mp h
  rw [← ew0] at hK
  have h := hw0
  exact F_X11_refusedLooks_80_ok X hr hlk  t12.2 _ h hK H locs ls O (lv_sub hl [] rfl)
set_option maxRecDepth 100000 in
set_option maxHeartbeats 4000000 in
theorem F_X11_refusedLooks_42_ok (X : xX p s m args c cX11_refusedLooks 5 RX11 κ) (hr : meth.sig.returnType = (some .int)) (hlk : meth.locks = false) {ro : Int32} {mo : xM} (v3 : Nat) (v4 : Int32) (M : xM) (x : Int32 × xM) (h : F_X11_refusedLooks_42 v3 v4 M = some x) (hK : (fun o => o = (ro, mo)) x) (H : Heap) (locs : List Loc) (ls : Array Slot) (O : xO κ s M H locs) (hl : lv_has ls 5 [(3, .ref (κ.1 + v3)), (4, .int v4)]) : W p l e (xRm 4 0 0) s m args below meth c H locs 0 0 (xQf below args s 0 0 κ (some (.int ro)) mo) (F0 m 42 ls []) := by
  refine xit_K (Wh := fun x => ∀ (H : Heap) (locs : List Loc) (ls : Array Slot), xO κ s x.2 H locs → lv_has ls 5 [(3, .ref (κ.1 + v3)), (4, .int x.1)] → W p l e (xRm 4 0 0) s m args below meth c H locs 0 0 (xQf below args s 0 0 κ (some (.int ro)) mo) (F0 m 42 ls [])) (Kp := (fun o => o = (ro, mo))) ?_ xFU (v4, M) x h hK H locs ls O hl
  intro y x h hK H locs ls O hl
  exact F_X11_refusedLooks_42_bok X hr hlk v3 y.1 (fun _ _ hw => hw) y.2 x h hK H locs ls O hl
set_option maxRecDepth 100000 in
set_option maxHeartbeats 4000000 in
theorem T_X11_refusedLooks (l : Launch) (κ : xQ) (a0 : Nat) (a1 : Int32) (M : xM) (ro : Int32) (mo : xM) (h : F_X11_refusedLooks a0 a1 M = some (ro, mo)) : xC l yX11_refusedLooks cX11_refusedLooks 5 (some .int) 4 0 0 κ [.ref (κ.1 + a0), .int a1] M (some (.int ro)) mo := by
  refine xC_of rfl (Nat.le_of_ble_eq_true rfl) fun p e s m args below meth c X hr hlk hnm H locs ls O hl => ?_
  have X : xX p s m args c cX11_refusedLooks 5 RX11 κ := X
  have hl : lv_has ls 5 [(0, .ref (κ.1 + a0)), (1, .int a1)] := hl
  have hx := X.1
  have hb := X.2.1
  obtain ⟨x, hx0⟩ : ∃ x, (ro, mo) = x := ⟨_, rfl⟩
  rw [hx0] at h
  have hK : x = (ro, mo) := hx0.symm
  unfold F_X11_refusedLooks at h
  refine lv_aload_n hx hb dX11_refusedLooks_0 rfl (lv_at hl 0 rfl) ?_
  refine lv_iload_n hx hb dX11_refusedLooks_1 rfl (lv_at hl 1 rfl) ?_
  obtain ⟨_, hut1, h⟩ := Option.bind_eq_some_iff.mp h
  obtain ⟨t2, ht2, h⟩ := Option.bind_eq_some_iff.mp h
  refine xr_callV (rest := []) X O (T_X11_refusedTray l κ a0 a1 M _ _ ht2) lk_X11_225 hut1 (Nat.le_of_ble_eq_true rfl) rfl hl.1 rfl (Nat.le_of_ble_eq_true rfl) dX11_refusedLooks_2 ⟨Nat.le_of_ble_eq_true rfl, Nat.le_of_ble_eq_true rfl⟩ (fun H locs O => ?_)
  refine W.eq (g2 := F0 m 5 ls [.int t2.1]) rfl ?_
  refine lv_istore_n (lv' := [(2, .int t2.1), (0, .ref (κ.1 + a0)), (1, .int a1)]) hx hb dX11_refusedLooks_5 rfl hl (by decide) rfl (fun ls hl => ?_)
  refine lv_iload_n hx hb dX11_refusedLooks_6 rfl (lv_at hl 0 rfl) ?_
  refine lv_if_eq (tgt := 12) hx hb dX11_refusedLooks_7 (by decide) (fun hc7 => ?_) (fun hc7 => ?_)
  · rw [if_pos hc7] at h
    refine lv_aload_n hx hb dX11_refusedLooks_12 rfl (lv_at hl 1 rfl) ?_
    obtain ⟨t3, ht3, h⟩ := Option.bind_eq_some_iff.mp h
    refine xr_getP X O ht3 fl_X11_49 dX11_refusedLooks_13 ?_
    refine lv_iload_n hx hb dX11_refusedLooks_16 rfl (lv_at hl 2 rfl) ?_
    obtain ⟨t4, ht4, h⟩ := Option.bind_eq_some_iff.mp h
    refine xr_aldP (t0 := 6) (C := RX10) X O ht4 (by simp [xRk]) dX11_refusedLooks_17 ?_
    refine lv_astore_n (lv' := [(3, .ref (κ.1 + t4)), (2, .int t2.1), (0, .ref (κ.1 + a0)), (1, .int a1)]) hx hb dX11_refusedLooks_18 rfl hl (by decide) rfl (fun ls hl => ?_)
    refine lv_aload_n hx hb dX11_refusedLooks_19 rfl (lv_at hl 0 rfl) ?_
    obtain ⟨t5, ht5, h⟩ := Option.bind_eq_some_iff.mp h
    refine xr_getI X O ht5 fl_X11_232 (Or.inl rfl) dX11_refusedLooks_20 ?_
    refine lv_iconst (v := (1 : Int32)) hx hb dX11_refusedLooks_23 (by decide) ?_
    refine lv_icmp_lt (tgt := 36) hx hb dX11_refusedLooks_24 (by decide) (fun hc24 => ?_) (fun hc24 => ?_)
    · rw [if_pos hc24] at h
      refine lv_bipush (v := (-4 : Int32)) hx hb dX11_refusedLooks_36 (by decide) ?_
      rw [← Option.some.inj h] at hK
      have hK : ((-4 : Int32), t2.2) = (ro, mo) := hK
      obtain ⟨hK1, hK2⟩ := Prod.mk.inj hK
      rw [hK2] at O
      refine xr_top (w := .int ro) (by rw [hK1]) ?_
      exact xr_iret X hr hlk O dX11_refusedLooks_38
    rw [if_neg hc24] at h
    refine lv_aload_n hx hb dX11_refusedLooks_27 rfl (lv_at hl 0 rfl) ?_
    obtain ⟨t6, ht6, h⟩ := Option.bind_eq_some_iff.mp h
    refine xr_getI X O ht6 fl_X11_232 (Or.inl rfl) dX11_refusedLooks_28 ?_
    refine lv_bipush (v := (8 : Int32)) hx hb dX11_refusedLooks_31 (by decide) ?_
    refine lv_icmp_le (tgt := 39) hx hb dX11_refusedLooks_33 (by decide) (fun hc33 => ?_) (fun hc33 => ?_)
    · rw [if_pos hc33] at h
      refine lv_iconst (v := (0 : Int32)) hx hb dX11_refusedLooks_39 (by decide) ?_
      refine lv_istore (lv' := [(4, .int (0 : Int32)), (3, .ref (κ.1 + t4)), (2, .int t2.1), (0, .ref (κ.1 + a0)), (1, .int a1)]) hx hb dX11_refusedLooks_40 hl (by decide) rfl (fun ls hl => ?_)
      exact F_X11_refusedLooks_42_ok X hr hlk t4 (0 : Int32) t2.2 _ h hK H locs ls O (lv_sub hl [1, 0] rfl)
    rw [if_neg hc33] at h
    refine lv_bipush (v := (-4 : Int32)) hx hb dX11_refusedLooks_36 (by decide) ?_
    rw [← Option.some.inj h] at hK
    have hK : ((-4 : Int32), t2.2) = (ro, mo) := hK
    obtain ⟨hK1, hK2⟩ := Prod.mk.inj hK
    rw [hK2] at O
    refine xr_top (w := .int ro) (by rw [hK1]) ?_
    exact xr_iret X hr hlk O dX11_refusedLooks_38
  rw [if_neg hc7] at h
  refine lv_iload_n hx hb dX11_refusedLooks_10 rfl (lv_at hl 0 rfl) ?_
  rw [← Option.some.inj h] at hK
  have hK : (t2.1, t2.2) = (ro, mo) := hK
  obtain ⟨hK1, hK2⟩ := Prod.mk.inj hK
  rw [hK2] at O
  refine xr_top (w := .int ro) (by rw [hK1]) ?_
  exact xr_iret X hr hlk O dX11_refusedLooks_11
def F_X11_moonsSeen_78 (v0 : Nat) (v1 : Nat) (v2 : Int32) (v3 : Int32) (v5 : Int32) (s0 : Int32) (M : xM) : Option ((Int32 × Int32 × xM) ⊕ ((Int32 × Int32 × xM) ⊕ (Int32 × xM))) :=
some (.inl (s0, (v5 + 1), M))
def F_X11_moonsSeen_97 (v0 : Nat) (v1 : Nat) (v2 : Int32) (v3 : Int32) (M : xM) : Option ((Int32 × Int32 × xM) ⊕ (Int32 × xM)) :=
some (.inl (v2, (v3 + 1), M))
def F_X11_moonsSeen_86 (v0 : Nat) (v1 : Nat) (v2 : Int32) (v3 : Int32) (v4 : Int32) (M : xM) : Option ((Int32 × Int32 × xM) ⊕ (Int32 × xM)) :=
if v4 = 0 then (
F_X11_moonsSeen_97 v0 v1 v2 v3 M)
else (
(some ((v2 ||| ((1 : Int32) <<< (v3 &&& 31))))).bind fun t10 =>
F_X11_moonsSeen_97 v0 v1 t10 v3 M)
def F_X11_moonsSeen_16b (v0 : Nat) (v1 : Nat) (v2 : Int32) (v3 : Int32) : (Int32 × Int32 × xM) → Option ((Int32 × Int32 × xM) ⊕ ((Int32 × Int32 × xM) ⊕ (Int32 × xM))) := fun ⟨v4, v5, M⟩ =>
(xgI M v1 10 0).bind fun t1 =>
if t1 ≤ v5 then (
(F_X11_moonsSeen_86 v0 v1 v2 v3 v4 M).map Sum.inr)
else (
if v4 = 0 then (
(F_X11_moonsSeen_86 v0 v1 v2 v3 v4 M).map Sum.inr)
else (
(xgP M v1 10 2).bind fun t2 =>
(xaJ M t2 v5).bind fun t3 =>
(xgP M v0 11 5).bind fun t4 =>
(xgP M v0 11 2).bind fun t5 =>
(xgP M v0 11 3).bind fun t6 =>
(xgI M t6 0 6).bind fun t7 =>
(xck M t4 8).bind fun _ =>
(F_X8_tideAt t4 t5 (t7 + (t3.toInt32 - t3.toInt32 / (100 : Int32) * (100 : Int32))) v3 M).bind fun t9 =>
if t9.1 = (t3.toInt32 / (100 : Int32)) then (
F_X11_moonsSeen_78 v0 v1 v2 v3 v5 (1 : Int32) t9.2)
else (
F_X11_moonsSeen_78 v0 v1 v2 v3 v5 (0 : Int32) t9.2)))
def F_X11_moonsSeen_16 (v0 : Nat) (v1 : Nat) (v2 : Int32) (v3 : Int32) (v4 : Int32) (v5 : Int32) (M : xM) : Option ((Int32 × Int32 × xM) ⊕ (Int32 × xM)) := xit (F_X11_moonsSeen_16b v0 v1 v2 v3) xFU (v4, v5, M)
def F_X11_moonsSeen_103 (v2 : Int32) (M : xM) : Option (Int32 × xM) :=
some (v2, M)
def F_X11_moonsSeen_4b (v0 : Nat) (v1 : Nat) : (Int32 × Int32 × xM) → Option ((Int32 × Int32 × xM) ⊕ (Int32 × xM)) := fun ⟨v2, v3, M⟩ =>
if (10 : Int32) ≤ v3 then (
(F_X11_moonsSeen_103 v2 M).map Sum.inr)
else (
F_X11_moonsSeen_16 v0 v1 v2 v3 (1 : Int32) (0 : Int32) M)
def F_X11_moonsSeen_4 (v0 : Nat) (v1 : Nat) (v2 : Int32) (v3 : Int32) (M : xM) : Option (Int32 × xM) := xit (F_X11_moonsSeen_4b v0 v1) xFU (v2, v3, M)
def F_X11_moonsSeen (a0 : Nat) (a1 : Nat) (M : xM) : Option (Int32 × xM) :=
F_X11_moonsSeen_4 a0 a1 (0 : Int32) (0 : Int32) M
set_option maxRecDepth 100000 in
set_option maxHeartbeats 4000000 in
theorem F_X11_moonsSeen_78_ok (X : xX p s m args c cX11_moonsSeen 7 RX11 κ) (hr : meth.sig.returnType = (some .int)) (hlk : meth.locks = false) {ro : Int32} {mo : xM} (v0 : Nat) (v1 : Nat) (v2 : Int32) (v3 : Int32) (v5 : Int32) (s0 : Int32) {W4 : Int32 × Int32 × xM → Prop} (hW4 : ∀ (v2 : Int32) (v3 : Int32) (M : xM), W4 (v2, v3, M) → ∀ (H : Heap) (locs : List Loc) (ls : Array Slot), xO κ s M H locs → lv_has ls 7 [(0, .ref (κ.1 + v0)), (1, .ref (κ.1 + v1)), (2, .int v2), (3, .int v3)] → W p l e (xRm 5 0 0) s m args below meth c H locs 0 0 (xQf below args s 0 0 κ (some (.int ro)) mo) (F0 m 4 ls [])) {W16 : Int32 × Int32 × xM → Prop} (hW16 : ∀ (v4 : Int32) (v5 : Int32) (M : xM), W16 (v4, v5, M) → ∀ (H : Heap) (locs : List Loc) (ls : Array Slot), xO κ s M H locs → lv_has ls 7 [(0, .ref (κ.1 + v0)), (1, .ref (κ.1 + v1)), (2, .int v2), (3, .int v3), (4, .int v4), (5, .int v5)] → W p l e (xRm 5 0 0) s m args below meth c H locs 0 0 (xQf below args s 0 0 κ (some (.int ro)) mo) (F0 m 16 ls [])) (M : xM) (x : (Int32 × Int32 × xM) ⊕ ((Int32 × Int32 × xM) ⊕ (Int32 × xM))) (h : F_X11_moonsSeen_78 v0 v1 v2 v3 v5 s0 M = some x) (hK : (xKl W16 (xKl W4 (fun o => o = (ro, mo)))) x) (H : Heap) (locs : List Loc) (ls : Array Slot) (O : xO κ s M H locs) (hl : lv_has ls 7 [(0, .ref (κ.1 + v0)), (1, .ref (κ.1 + v1)), (2, .int v2), (3, .int v3), (5, .int v5)]) : W p l e (xRm 5 0 0) s m args below meth c H locs 0 0 (xQf below args s 0 0 κ (some (.int ro)) mo) (F0 m 78 ls [.int s0]) := by
  unfold F_X11_moonsSeen_78 at h
  have hx := X.1
  have hb := X.2.1
  refine lv_istore (lv' := [(4, .int s0), (0, .ref (κ.1 + v0)), (1, .ref (κ.1 + v1)), (2, .int v2), (3, .int v3), (5, .int v5)]) hx hb dX11_moonsSeen_78 hl (by decide) rfl (fun ls hl => ?_)
  refine lv_iinc (v := (v5 + 1)) (lv' := [(5, .int (v5 + 1)), (4, .int s0), (0, .ref (κ.1 + v0)), (1, .ref (κ.1 + v1)), (2, .int v2), (3, .int v3)]) hx hb dX11_moonsSeen_80 hl (k := 5) rfl rfl (by decide) rfl (fun ls hl => ?_)
  refine lv_goto (tgt := 16) hx hb dX11_moonsSeen_83 (by decide) ?_
  rw [← Option.some.inj h] at hK
  exact hW16 s0 (v5 + 1) M hK H locs ls O (lv_sub hl [2, 3, 4, 5, 1, 0] rfl)
set_option maxRecDepth 100000 in
set_option maxHeartbeats 4000000 in
theorem F_X11_moonsSeen_97_ok (X : xX p s m args c cX11_moonsSeen 7 RX11 κ) (hr : meth.sig.returnType = (some .int)) (hlk : meth.locks = false) {ro : Int32} {mo : xM} (v0 : Nat) (v1 : Nat) (v2 : Int32) (v3 : Int32) {W4 : Int32 × Int32 × xM → Prop} (hW4 : ∀ (v2 : Int32) (v3 : Int32) (M : xM), W4 (v2, v3, M) → ∀ (H : Heap) (locs : List Loc) (ls : Array Slot), xO κ s M H locs → lv_has ls 7 [(0, .ref (κ.1 + v0)), (1, .ref (κ.1 + v1)), (2, .int v2), (3, .int v3)] → W p l e (xRm 5 0 0) s m args below meth c H locs 0 0 (xQf below args s 0 0 κ (some (.int ro)) mo) (F0 m 4 ls [])) (M : xM) (x : (Int32 × Int32 × xM) ⊕ (Int32 × xM)) (h : F_X11_moonsSeen_97 v0 v1 v2 v3 M = some x) (hK : (xKl W4 (fun o => o = (ro, mo))) x) (H : Heap) (locs : List Loc) (ls : Array Slot) (O : xO κ s M H locs) (hl : lv_has ls 7 [(0, .ref (κ.1 + v0)), (1, .ref (κ.1 + v1)), (2, .int v2), (3, .int v3)]) : W p l e (xRm 5 0 0) s m args below meth c H locs 0 0 (xQf below args s 0 0 κ (some (.int ro)) mo) (F0 m 97 ls []) := by
  unfold F_X11_moonsSeen_97 at h
  have hx := X.1
  have hb := X.2.1
  refine lv_iinc (v := (v3 + 1)) (lv' := [(3, .int (v3 + 1)), (0, .ref (κ.1 + v0)), (1, .ref (κ.1 + v1)), (2, .int v2)]) hx hb dX11_moonsSeen_97 hl (k := 3) rfl rfl (by decide) rfl (fun ls hl => ?_)
  refine lv_goto (tgt := 4) hx hb dX11_moonsSeen_100 (by decide) ?_
  rw [← Option.some.inj h] at hK
  exact hW4 v2 (v3 + 1) M hK H locs ls O (lv_sub hl [1, 2, 3, 0] rfl)
set_option maxRecDepth 100000 in
set_option maxHeartbeats 4000000 in
theorem F_X11_moonsSeen_86_ok (X : xX p s m args c cX11_moonsSeen 7 RX11 κ) (hr : meth.sig.returnType = (some .int)) (hlk : meth.locks = false) {ro : Int32} {mo : xM} (v0 : Nat) (v1 : Nat) (v2 : Int32) (v3 : Int32) (v4 : Int32) {W4 : Int32 × Int32 × xM → Prop} (hW4 : ∀ (v2 : Int32) (v3 : Int32) (M : xM), W4 (v2, v3, M) → ∀ (H : Heap) (locs : List Loc) (ls : Array Slot), xO κ s M H locs → lv_has ls 7 [(0, .ref (κ.1 + v0)), (1, .ref (κ.1 + v1)), (2, .int v2), (3, .int v3)] → W p l e (xRm 5 0 0) s m args below meth c H locs 0 0 (xQf below args s 0 0 κ (some (.int ro)) mo) (F0 m 4 ls [])) (M : xM) (x : (Int32 × Int32 × xM) ⊕ (Int32 × xM)) (h : F_X11_moonsSeen_86 v0 v1 v2 v3 v4 M = some x) (hK : (xKl W4 (fun o => o = (ro, mo))) x) (H : Heap) (locs : List Loc) (ls : Array Slot) (O : xO κ s M H locs) (hl : lv_has ls 7 [(0, .ref (κ.1 + v0)), (1, .ref (κ.1 + v1)), (2, .int v2), (3, .int v3), (4, .int v4)]) : W p l e (xRm 5 0 0) s m args below meth c H locs 0 0 (xQf below args s 0 0 κ (some (.int ro)) mo) (F0 m 86 ls []) := by
  unfold F_X11_moonsSeen_86 at h
  have hx := X.1
  have hb := X.2.1
  refine lv_iload hx hb dX11_moonsSeen_86 (lv_at hl 4 rfl) ?_
  refine lv_if_eq (tgt := 97) hx hb dX11_moonsSeen_88 (by decide) (fun hc88 => ?_) (fun hc88 => ?_)
  · rw [if_pos hc88] at h
    exact F_X11_moonsSeen_97_ok X hr hlk v0 v1 v2 v3 hW4 M _ h hK H locs ls O (lv_sub hl [0, 1, 2, 3] rfl)
  rw [if_neg hc88] at h
  refine lv_iload_n hx hb dX11_moonsSeen_91 rfl (lv_at hl 2 rfl) ?_
  refine lv_iconst (v := (1 : Int32)) hx hb dX11_moonsSeen_92 (by decide) ?_
  refine lv_iload_n hx hb dX11_moonsSeen_93 rfl (lv_at hl 3 rfl) ?_
  refine lv_ishl hx hb dX11_moonsSeen_94 ?_
  refine lv_ior hx hb dX11_moonsSeen_95 ?_
  obtain ⟨t10, ht10, h⟩ := Option.bind_eq_some_iff.mp h
  refine xr_top (w := .int t10) (by rw [Option.some.inj ht10]) ?_
  refine lv_istore_n (lv' := [(2, .int t10), (0, .ref (κ.1 + v0)), (1, .ref (κ.1 + v1)), (3, .int v3), (4, .int v4)]) hx hb dX11_moonsSeen_96 rfl hl (by decide) rfl (fun ls hl => ?_)
  exact F_X11_moonsSeen_97_ok X hr hlk v0 v1 t10 v3 hW4 M _ h hK H locs ls O (lv_sub hl [1, 2, 0, 3] rfl)
set_option maxRecDepth 100000 in
set_option maxHeartbeats 4000000 in
theorem F_X11_moonsSeen_16_bok (X : xX p s m args c cX11_moonsSeen 7 RX11 κ) (hr : meth.sig.returnType = (some .int)) (hlk : meth.locks = false) {ro : Int32} {mo : xM} (v0 : Nat) (v1 : Nat) (v2 : Int32) (v3 : Int32) (v4 : Int32) (v5 : Int32) {W4 : Int32 × Int32 × xM → Prop} (hW4 : ∀ (v2 : Int32) (v3 : Int32) (M : xM), W4 (v2, v3, M) → ∀ (H : Heap) (locs : List Loc) (ls : Array Slot), xO κ s M H locs → lv_has ls 7 [(0, .ref (κ.1 + v0)), (1, .ref (κ.1 + v1)), (2, .int v2), (3, .int v3)] → W p l e (xRm 5 0 0) s m args below meth c H locs 0 0 (xQf below args s 0 0 κ (some (.int ro)) mo) (F0 m 4 ls [])) {W16 : Int32 × Int32 × xM → Prop} (hW16 : ∀ (v4 : Int32) (v5 : Int32) (M : xM), W16 (v4, v5, M) → ∀ (H : Heap) (locs : List Loc) (ls : Array Slot), xO κ s M H locs → lv_has ls 7 [(0, .ref (κ.1 + v0)), (1, .ref (κ.1 + v1)), (2, .int v2), (3, .int v3), (4, .int v4), (5, .int v5)] → W p l e (xRm 5 0 0) s m args below meth c H locs 0 0 (xQf below args s 0 0 κ (some (.int ro)) mo) (F0 m 16 ls [])) (M : xM) (x : (Int32 × Int32 × xM) ⊕ ((Int32 × Int32 × xM) ⊕ (Int32 × xM))) (h : F_X11_moonsSeen_16b v0 v1 v2 v3 (v4, v5, M) = some x) (hK : (xKl W16 (xKl W4 (fun o => o = (ro, mo)))) x) (H : Heap) (locs : List Loc) (ls : Array Slot) (O : xO κ s M H locs) (hl : lv_has ls 7 [(0, .ref (κ.1 + v0)), (1, .ref (κ.1 + v1)), (2, .int v2), (3, .int v3), (4, .int v4), (5, .int v5)]) : W p l e (xRm 5 0 0) s m args below meth c H locs 0 0 (xQf below args s 0 0 κ (some (.int ro)) mo) (F0 m 16 ls []) := by
  unfold F_X11_moonsSeen_16b at h
  dsimp only at h
  have hx := X.1
  have hb := X.2.1
  refine lv_iload hx hb dX11_moonsSeen_16 (lv_at hl 5 rfl) ?_
  refine lv_aload_n hx hb dX11_moonsSeen_18 rfl (lv_at hl 1 rfl) ?_
  obtain ⟨t1, ht1, h⟩ := Option.bind_eq_some_iff.mp h
  refine xr_getI X O ht1 fl_X11_232 (Or.inl rfl) dX11_moonsSeen_19 ?_
  refine lv_icmp_ge (tgt := 86) hx hb dX11_moonsSeen_22 (by decide) (fun hc22 => ?_) (fun hc22 => ?_)
  · rw [if_pos hc22] at h
    obtain ⟨_, hw0, ew0⟩ := Option.map_eq_some_iff.mp h
    rw [← ew0] at hK
    have h := hw0
    exact F_X11_moonsSeen_86_ok X hr hlk v0 v1 v2 v3 v4 hW4 M _ h hK H locs ls O (lv_sub hl [0, 1, 2, 3, 4] rfl)
  rw [if_neg hc22] at h
  refine lv_iload hx hb dX11_moonsSeen_25 (lv_at hl 4 rfl) ?_
  refine lv_if_eq (tgt := 86) hx hb dX11_moonsSeen_27 (by decide) (fun hc27 => ?_) (fun hc27 => ?_)
  · rw [if_pos hc27] at h
    obtain ⟨_, hw0, ew0⟩ := Option.map_eq_some_iff.mp h
    rw [← ew0] at hK
    have h := hw0
    exact F_X11_moonsSeen_86_ok X hr hlk v0 v1 v2 v3 v4 hW4 M _ h hK H locs ls O (lv_sub hl [0, 1, 2, 3, 4] rfl)
  rw [if_neg hc27] at h
  refine lv_aload_n hx hb dX11_moonsSeen_30 rfl (lv_at hl 1 rfl) ?_
  obtain ⟨t2, ht2, h⟩ := Option.bind_eq_some_iff.mp h
  refine xr_getP X O ht2 fl_X11_233 dX11_moonsSeen_31 ?_
  refine lv_iload hx hb dX11_moonsSeen_34 (lv_at hl 5 rfl) ?_
  obtain ⟨t3, ht3, h⟩ := Option.bind_eq_some_iff.mp h
  refine xr_aldJ X O ht3 dX11_moonsSeen_36 ?_
  refine lv_l2i (v := t3.toInt32) hx hb dX11_moonsSeen_37 rfl ?_
  refine lv_istore (lv' := [(6, .int t3.toInt32), (0, .ref (κ.1 + v0)), (1, .ref (κ.1 + v1)), (2, .int v2), (3, .int v3), (4, .int v4), (5, .int v5)]) hx hb dX11_moonsSeen_38 hl (by decide) rfl (fun ls hl => ?_)
  refine lv_aload_n hx hb dX11_moonsSeen_40 rfl (lv_at hl 1 rfl) ?_
  obtain ⟨t4, ht4, h⟩ := Option.bind_eq_some_iff.mp h
  refine xr_getP X O ht4 fl_X11_36 dX11_moonsSeen_41 ?_
  refine lv_aload_n hx hb dX11_moonsSeen_44 rfl (lv_at hl 1 rfl) ?_
  obtain ⟨t5, ht5, h⟩ := Option.bind_eq_some_iff.mp h
  refine xr_getP X O ht5 fl_X11_19 dX11_moonsSeen_45 ?_
  refine lv_aload_n hx hb dX11_moonsSeen_48 rfl (lv_at hl 1 rfl) ?_
  obtain ⟨t6, ht6, h⟩ := Option.bind_eq_some_iff.mp h
  refine xr_getP X O ht6 fl_X11_26 dX11_moonsSeen_49 ?_
  obtain ⟨t7, ht7, h⟩ := Option.bind_eq_some_iff.mp h
  refine xr_getI X O ht7 fl_X11_312 (Or.inl rfl) dX11_moonsSeen_52 ?_
  refine lv_iload hx hb dX11_moonsSeen_55 (lv_at hl 0 rfl) ?_
  refine lv_bipush (v := (100 : Int32)) hx hb dX11_moonsSeen_57 (by decide) ?_
  refine lv_irem hx hb dX11_moonsSeen_59 (by decide) ?_
  refine lv_iadd hx hb dX11_moonsSeen_60 ?_
  refine lv_iload_n hx hb dX11_moonsSeen_61 rfl (lv_at hl 4 rfl) ?_
  obtain ⟨_, hut8, h⟩ := Option.bind_eq_some_iff.mp h
  obtain ⟨t9, ht9, h⟩ := Option.bind_eq_some_iff.mp h
  refine xr_callV (rest := []) X O (T_X8_tideAt l κ t4 t5 (t7 + (t3.toInt32 - t3.toInt32 / (100 : Int32) * (100 : Int32))) v3 M _ _ ht9) lk_X11_166 hut8 (Nat.le_of_ble_eq_true rfl) rfl hl.1 rfl (Nat.le_of_ble_eq_true rfl) dX11_moonsSeen_62 ⟨Nat.le_of_ble_eq_true rfl, Nat.le_of_ble_eq_true rfl⟩ (fun H locs O => ?_)
  refine W.eq (g2 := F0 m 65 ls [.int t9.1]) rfl ?_
  refine lv_iload hx hb dX11_moonsSeen_65 (lv_at hl 0 rfl) ?_
  refine lv_bipush (v := (100 : Int32)) hx hb dX11_moonsSeen_67 (by decide) ?_
  refine lv_idiv hx hb dX11_moonsSeen_69 (by decide) ?_
  refine lv_icmp_ne (tgt := 77) hx hb dX11_moonsSeen_70 (by decide) (fun hc70 => ?_) (fun hc70 => ?_)
  · rw [if_neg hc70] at h
    refine lv_iconst (v := (0 : Int32)) hx hb dX11_moonsSeen_77 (by decide) ?_
    exact F_X11_moonsSeen_78_ok X hr hlk v0 v1 v2 v3 v5 (0 : Int32) hW4 hW16 t9.2 _ h hK H locs ls O (lv_sub hl [1, 2, 3, 4, 6] rfl)
  rw [if_pos hc70] at h
  refine lv_iconst (v := (1 : Int32)) hx hb dX11_moonsSeen_73 (by decide) ?_
  refine lv_goto (tgt := 78) hx hb dX11_moonsSeen_74 (by decide) ?_
  exact F_X11_moonsSeen_78_ok X hr hlk v0 v1 v2 v3 v5 (1 : Int32) hW4 hW16 t9.2 _ h hK H locs ls O (lv_sub hl [1, 2, 3, 4, 6] rfl)
set_option maxRecDepth 100000 in
set_option maxHeartbeats 4000000 in
theorem F_X11_moonsSeen_16_ok (X : xX p s m args c cX11_moonsSeen 7 RX11 κ) (hr : meth.sig.returnType = (some .int)) (hlk : meth.locks = false) {ro : Int32} {mo : xM} (v0 : Nat) (v1 : Nat) (v2 : Int32) (v3 : Int32) (v4 : Int32) (v5 : Int32) {W4 : Int32 × Int32 × xM → Prop} (hW4 : ∀ (v2 : Int32) (v3 : Int32) (M : xM), W4 (v2, v3, M) → ∀ (H : Heap) (locs : List Loc) (ls : Array Slot), xO κ s M H locs → lv_has ls 7 [(0, .ref (κ.1 + v0)), (1, .ref (κ.1 + v1)), (2, .int v2), (3, .int v3)] → W p l e (xRm 5 0 0) s m args below meth c H locs 0 0 (xQf below args s 0 0 κ (some (.int ro)) mo) (F0 m 4 ls [])) (M : xM) (x : (Int32 × Int32 × xM) ⊕ (Int32 × xM)) (h : F_X11_moonsSeen_16 v0 v1 v2 v3 v4 v5 M = some x) (hK : (xKl W4 (fun o => o = (ro, mo))) x) (H : Heap) (locs : List Loc) (ls : Array Slot) (O : xO κ s M H locs) (hl : lv_has ls 7 [(0, .ref (κ.1 + v0)), (1, .ref (κ.1 + v1)), (2, .int v2), (3, .int v3), (4, .int v4), (5, .int v5)]) : W p l e (xRm 5 0 0) s m args below meth c H locs 0 0 (xQf below args s 0 0 κ (some (.int ro)) mo) (F0 m 16 ls []) := by
  refine xit_K (Wh := fun x => ∀ (H : Heap) (locs : List Loc) (ls : Array Slot), xO κ s x.2.2 H locs → lv_has ls 7 [(0, .ref (κ.1 + v0)), (1, .ref (κ.1 + v1)), (2, .int v2), (3, .int v3), (4, .int x.1), (5, .int x.2.1)] → W p l e (xRm 5 0 0) s m args below meth c H locs 0 0 (xQf below args s 0 0 κ (some (.int ro)) mo) (F0 m 16 ls [])) (Kp := (xKl W4 (fun o => o = (ro, mo)))) ?_ xFU (v4, v5, M) x h hK H locs ls O hl
  intro y x h hK H locs ls O hl
  exact F_X11_moonsSeen_16_bok X hr hlk v0 v1 v2 v3 y.1 y.2.1 hW4 (fun _ _ _ hw => hw) y.2.2 x h hK H locs ls O hl
set_option maxRecDepth 100000 in
set_option maxHeartbeats 4000000 in
theorem F_X11_moonsSeen_103_ok (X : xX p s m args c cX11_moonsSeen 7 RX11 κ) (hr : meth.sig.returnType = (some .int)) (hlk : meth.locks = false) {ro : Int32} {mo : xM} (v2 : Int32) (M : xM) (x : Int32 × xM) (h : F_X11_moonsSeen_103 v2 M = some x) (hK : (fun o => o = (ro, mo)) x) (H : Heap) (locs : List Loc) (ls : Array Slot) (O : xO κ s M H locs) (hl : lv_has ls 7 [(2, .int v2)]) : W p l e (xRm 5 0 0) s m args below meth c H locs 0 0 (xQf below args s 0 0 κ (some (.int ro)) mo) (F0 m 103 ls []) := by
  unfold F_X11_moonsSeen_103 at h
  have hx := X.1
  have hb := X.2.1
  refine lv_iload_n hx hb dX11_moonsSeen_103 rfl (lv_at hl 0 rfl) ?_
  rw [← Option.some.inj h] at hK
  have hK : (v2, M) = (ro, mo) := hK
  obtain ⟨hK1, hK2⟩ := Prod.mk.inj hK
  rw [hK2] at O
  refine xr_top (w := .int ro) (by rw [hK1]) ?_
  exact xr_iret X hr hlk O dX11_moonsSeen_104
set_option maxRecDepth 100000 in
set_option maxHeartbeats 4000000 in
theorem F_X11_moonsSeen_4_bok (X : xX p s m args c cX11_moonsSeen 7 RX11 κ) (hr : meth.sig.returnType = (some .int)) (hlk : meth.locks = false) {ro : Int32} {mo : xM} (v0 : Nat) (v1 : Nat) (v2 : Int32) (v3 : Int32) {W4 : Int32 × Int32 × xM → Prop} (hW4 : ∀ (v2 : Int32) (v3 : Int32) (M : xM), W4 (v2, v3, M) → ∀ (H : Heap) (locs : List Loc) (ls : Array Slot), xO κ s M H locs → lv_has ls 7 [(0, .ref (κ.1 + v0)), (1, .ref (κ.1 + v1)), (2, .int v2), (3, .int v3)] → W p l e (xRm 5 0 0) s m args below meth c H locs 0 0 (xQf below args s 0 0 κ (some (.int ro)) mo) (F0 m 4 ls [])) (M : xM) (x : (Int32 × Int32 × xM) ⊕ (Int32 × xM)) (h : F_X11_moonsSeen_4b v0 v1 (v2, v3, M) = some x) (hK : (xKl W4 (fun o => o = (ro, mo))) x) (H : Heap) (locs : List Loc) (ls : Array Slot) (O : xO κ s M H locs) (hl : lv_has ls 7 [(0, .ref (κ.1 + v0)), (1, .ref (κ.1 + v1)), (2, .int v2), (3, .int v3)]) : W p l e (xRm 5 0 0) s m args below meth c H locs 0 0 (xQf below args s 0 0 κ (some (.int ro)) mo) (F0 m 4 ls []) := by
  unfold F_X11_moonsSeen_4b at h
  dsimp only at h
  have hx := X.1
  have hb := X.2.1
  refine lv_iload_n hx hb dX11_moonsSeen_4 rfl (lv_at hl 3 rfl) ?_
  refine lv_bipush (v := (10 : Int32)) hx hb dX11_moonsSeen_5 (by decide) ?_
  refine lv_icmp_ge (tgt := 103) hx hb dX11_moonsSeen_7 (by decide) (fun hc7 => ?_) (fun hc7 => ?_)
  · rw [if_pos hc7] at h
    obtain ⟨_, hw0, ew0⟩ := Option.map_eq_some_iff.mp h
    rw [← ew0] at hK
    have h := hw0
    exact F_X11_moonsSeen_103_ok X hr hlk v2 M _ h hK H locs ls O (lv_sub hl [2] rfl)
  rw [if_neg hc7] at h
  refine lv_iconst (v := (1 : Int32)) hx hb dX11_moonsSeen_10 (by decide) ?_
  refine lv_istore (lv' := [(4, .int (1 : Int32)), (0, .ref (κ.1 + v0)), (1, .ref (κ.1 + v1)), (2, .int v2), (3, .int v3)]) hx hb dX11_moonsSeen_11 hl (by decide) rfl (fun ls hl => ?_)
  refine lv_iconst (v := (0 : Int32)) hx hb dX11_moonsSeen_13 (by decide) ?_
  refine lv_istore (lv' := [(5, .int (0 : Int32)), (4, .int (1 : Int32)), (0, .ref (κ.1 + v0)), (1, .ref (κ.1 + v1)), (2, .int v2), (3, .int v3)]) hx hb dX11_moonsSeen_14 hl (by decide) rfl (fun ls hl => ?_)
  exact F_X11_moonsSeen_16_ok X hr hlk v0 v1 v2 v3 (1 : Int32) (0 : Int32) hW4 M _ h hK H locs ls O (lv_sub hl [2, 3, 4, 5, 1, 0] rfl)
set_option maxRecDepth 100000 in
set_option maxHeartbeats 4000000 in
theorem F_X11_moonsSeen_4_ok (X : xX p s m args c cX11_moonsSeen 7 RX11 κ) (hr : meth.sig.returnType = (some .int)) (hlk : meth.locks = false) {ro : Int32} {mo : xM} (v0 : Nat) (v1 : Nat) (v2 : Int32) (v3 : Int32) (M : xM) (x : Int32 × xM) (h : F_X11_moonsSeen_4 v0 v1 v2 v3 M = some x) (hK : (fun o => o = (ro, mo)) x) (H : Heap) (locs : List Loc) (ls : Array Slot) (O : xO κ s M H locs) (hl : lv_has ls 7 [(0, .ref (κ.1 + v0)), (1, .ref (κ.1 + v1)), (2, .int v2), (3, .int v3)]) : W p l e (xRm 5 0 0) s m args below meth c H locs 0 0 (xQf below args s 0 0 κ (some (.int ro)) mo) (F0 m 4 ls []) := by
  refine xit_K (Wh := fun x => ∀ (H : Heap) (locs : List Loc) (ls : Array Slot), xO κ s x.2.2 H locs → lv_has ls 7 [(0, .ref (κ.1 + v0)), (1, .ref (κ.1 + v1)), (2, .int x.1), (3, .int x.2.1)] → W p l e (xRm 5 0 0) s m args below meth c H locs 0 0 (xQf below args s 0 0 κ (some (.int ro)) mo) (F0 m 4 ls [])) (Kp := (fun o => o = (ro, mo))) ?_ xFU (v2, v3, M) x h hK H locs ls O hl
  intro y x h hK H locs ls O hl
  exact F_X11_moonsSeen_4_bok X hr hlk v0 v1 y.1 y.2.1 (fun _ _ _ hw => hw) y.2.2 x h hK H locs ls O hl
set_option maxRecDepth 100000 in
set_option maxHeartbeats 4000000 in
theorem T_X11_moonsSeen (l : Launch) (κ : xQ) (a0 : Nat) (a1 : Nat) (M : xM) (ro : Int32) (mo : xM) (h : F_X11_moonsSeen a0 a1 M = some (ro, mo)) : xC l yX11_moonsSeen cX11_moonsSeen 7 (some .int) 5 0 0 κ [.ref (κ.1 + a0), .ref (κ.1 + a1)] M (some (.int ro)) mo := by
  refine xC_of rfl (Nat.le_of_ble_eq_true rfl) fun p e s m args below meth c X hr hlk hnm H locs ls O hl => ?_
  have X : xX p s m args c cX11_moonsSeen 7 RX11 κ := X
  have hl : lv_has ls 7 [(0, .ref (κ.1 + a0)), (1, .ref (κ.1 + a1))] := hl
  have hx := X.1
  have hb := X.2.1
  obtain ⟨x, hx0⟩ : ∃ x, (ro, mo) = x := ⟨_, rfl⟩
  rw [hx0] at h
  have hK : x = (ro, mo) := hx0.symm
  unfold F_X11_moonsSeen at h
  refine lv_iconst (v := (0 : Int32)) hx hb dX11_moonsSeen_0 (by decide) ?_
  refine lv_istore_n (lv' := [(2, .int (0 : Int32)), (0, .ref (κ.1 + a0)), (1, .ref (κ.1 + a1))]) hx hb dX11_moonsSeen_1 rfl hl (by decide) rfl (fun ls hl => ?_)
  refine lv_iconst (v := (0 : Int32)) hx hb dX11_moonsSeen_2 (by decide) ?_
  refine lv_istore_n (lv' := [(3, .int (0 : Int32)), (2, .int (0 : Int32)), (0, .ref (κ.1 + a0)), (1, .ref (κ.1 + a1))]) hx hb dX11_moonsSeen_3 rfl hl (by decide) rfl (fun ls hl => ?_)
  exact F_X11_moonsSeen_4_ok X hr hlk a0 a1 (0 : Int32) (0 : Int32) M _ h hK H locs ls O (lv_sub hl [2, 3, 1, 0] rfl)
def F_X11_moons (a0 : Nat) (a1 : Int32) (M : xM) : Option (Int32 × xM) :=
(xck M a0 11).bind fun _ =>
(F_X11_refusedLooks a0 a1 M).bind fun t2 =>
if t2.1 = 0 then (
(xgP t2.2 a0 11 7).bind fun t3 =>
(xaP t2.2 40 t3 a1).bind fun t4 =>
(xck t2.2 a0 11).bind fun _ =>
(F_X11_moonsSeen a0 t4 t2.2).bind fun t6 =>
some (t6.1, t6.2))
else (
some (t2.1, t2.2))
set_option maxRecDepth 100000 in
set_option maxHeartbeats 4000000 in
theorem T_X11_moons (l : Launch) (κ : xQ) (a0 : Nat) (a1 : Int32) (M : xM) (ro : Int32) (mo : xM) (h : F_X11_moons a0 a1 M = some (ro, mo)) : xC l yX11_moons cX11_moons 3 (some .int) 6 0 0 κ [.ref (κ.1 + a0), .int a1] M (some (.int ro)) mo := by
  refine xC_of rfl (Nat.le_of_ble_eq_true rfl) fun p e s m args below meth c X hr hlk hnm H locs ls O hl => ?_
  have X : xX p s m args c cX11_moons 3 RX11 κ := X
  have hl : lv_has ls 3 [(0, .ref (κ.1 + a0)), (1, .int a1)] := hl
  have hx := X.1
  have hb := X.2.1
  obtain ⟨x, hx0⟩ : ∃ x, (ro, mo) = x := ⟨_, rfl⟩
  rw [hx0] at h
  have hK : x = (ro, mo) := hx0.symm
  unfold F_X11_moons at h
  refine lv_aload_n hx hb dX11_moons_0 rfl (lv_at hl 0 rfl) ?_
  refine lv_iload_n hx hb dX11_moons_1 rfl (lv_at hl 1 rfl) ?_
  obtain ⟨_, hut1, h⟩ := Option.bind_eq_some_iff.mp h
  obtain ⟨t2, ht2, h⟩ := Option.bind_eq_some_iff.mp h
  refine xr_callV (rest := []) X O (T_X11_refusedLooks l κ a0 a1 M _ _ ht2) lk_X11_305 hut1 (Nat.le_of_ble_eq_true rfl) rfl hl.1 rfl (Nat.le_of_ble_eq_true rfl) dX11_moons_2 ⟨Nat.le_of_ble_eq_true rfl, Nat.le_of_ble_eq_true rfl⟩ (fun H locs O => ?_)
  refine W.eq (g2 := F0 m 5 ls [.int t2.1]) rfl ?_
  refine lv_istore_n (lv' := [(2, .int t2.1), (0, .ref (κ.1 + a0)), (1, .int a1)]) hx hb dX11_moons_5 rfl hl (by decide) rfl (fun ls hl => ?_)
  refine lv_iload_n hx hb dX11_moons_6 rfl (lv_at hl 0 rfl) ?_
  refine lv_if_eq (tgt := 14) hx hb dX11_moons_7 (by decide) (fun hc7 => ?_) (fun hc7 => ?_)
  · rw [if_pos hc7] at h
    refine lv_aload_n hx hb dX11_moons_14 rfl (lv_at hl 1 rfl) ?_
    refine lv_aload_n hx hb dX11_moons_15 rfl (lv_at hl 1 rfl) ?_
    obtain ⟨t3, ht3, h⟩ := Option.bind_eq_some_iff.mp h
    refine xr_getP X O ht3 fl_X11_49 dX11_moons_16 ?_
    refine lv_iload_n hx hb dX11_moons_19 rfl (lv_at hl 2 rfl) ?_
    obtain ⟨t4, ht4, h⟩ := Option.bind_eq_some_iff.mp h
    refine xr_aldP (t0 := 6) (C := RX10) X O ht4 (by simp [xRk]) dX11_moons_20 ?_
    obtain ⟨_, hut5, h⟩ := Option.bind_eq_some_iff.mp h
    obtain ⟨t6, ht6, h⟩ := Option.bind_eq_some_iff.mp h
    refine xr_callV (rest := []) X O (T_X11_moonsSeen l κ a0 t4 t2.2 _ _ ht6) lk_X11_308 hut5 (Nat.le_of_ble_eq_true rfl) rfl hl.1 rfl (Nat.le_of_ble_eq_true rfl) dX11_moons_21 ⟨Nat.le_of_ble_eq_true rfl, Nat.le_of_ble_eq_true rfl⟩ (fun H locs O => ?_)
    refine W.eq (g2 := F0 m 24 ls [.int t6.1]) rfl ?_
    rw [← Option.some.inj h] at hK
    have hK : (t6.1, t6.2) = (ro, mo) := hK
    obtain ⟨hK1, hK2⟩ := Prod.mk.inj hK
    rw [hK2] at O
    refine xr_top (w := .int ro) (by rw [hK1]) ?_
    exact xr_iret X hr hlk O dX11_moons_24
  rw [if_neg hc7] at h
  refine lv_iload_n hx hb dX11_moons_10 rfl (lv_at hl 0 rfl) ?_
  refine lv_goto (tgt := 24) hx hb dX11_moons_11 (by decide) ?_
  rw [← Option.some.inj h] at hK
  have hK : (t2.1, t2.2) = (ro, mo) := hK
  obtain ⟨hK1, hK2⟩ := Prod.mk.inj hK
  rw [hK2] at O
  refine xr_top (w := .int ro) (by rw [hK1]) ?_
  exact xr_iret X hr hlk O dX11_moons_24
def F_X11_look_85 (v0 : Nat) (v3 : Int32) (v4 : Int32) (v5 : Int32) (v6 : Int32) (M : xM) : Option ((Int32 × Int32 × Int32 × xM) ⊕ (Int32 × xM)) :=
some (.inl (v4, v5, (v6 + 1), M))
def F_X11_look_91 (v4 : Int32) (M : xM) : Option (Int32 × xM) :=
some (v4, M)
def F_X11_look_39b (v0 : Nat) (v3 : Int32) : (Int32 × Int32 × Int32 × xM) → Option ((Int32 × Int32 × Int32 × xM) ⊕ (Int32 × xM)) := fun ⟨v4, v5, v6, M⟩ =>
if (100 : Int32) ≤ v6 then (
(F_X11_look_91 v4 M).map Sum.inr)
else (
(xgP M v0 11 5).bind fun t7 =>
(xgP M v0 11 2).bind fun t8 =>
(xgP M v0 11 3).bind fun t9 =>
(xgI M t9 0 6).bind fun t10 =>
(xck M t7 8).bind fun _ =>
(F_X8_mostAlike t7 t8 (t10 + v6) v3 M).bind fun t12 =>
if v5 ≤ t12.1 then (
F_X11_look_85 v0 v3 v4 v5 v6 t12.2)
else (
F_X11_look_85 v0 v3 v6 t12.1 v6 t12.2))
def F_X11_look_39 (v0 : Nat) (v3 : Int32) (v4 : Int32) (v5 : Int32) (v6 : Int32) (M : xM) : Option (Int32 × xM) := xit (F_X11_look_39b v0 v3) xFU (v4, v5, v6, M)
def F_X11_look (a0 : Nat) (a1 : Int32) (M : xM) : Option (Int32 × xM) :=
(xck M a0 11).bind fun _ =>
(F_X11_refusedLooks a0 a1 M).bind fun t2 =>
if t2.1 = 0 then (
(xgP t2.2 a0 11 7).bind fun t3 =>
(xaP t2.2 40 t3 a1).bind fun t4 =>
(xck t2.2 a0 11).bind fun _ =>
(F_X11_moonsSeen a0 t4 t2.2).bind fun t6 =>
if t6.1 = 0 then (
some ((-1 : Int32), t6.2))
else (
F_X11_look_39 a0 t6.1 (0 : Int32) (11 : Int32) (0 : Int32) t6.2))
else (
some (t2.1, t2.2))
set_option maxRecDepth 100000 in
set_option maxHeartbeats 4000000 in
theorem F_X11_look_85_ok (X : xX p s m args c cX11_look 8 RX11 κ) (hr : meth.sig.returnType = (some .int)) (hlk : meth.locks = false) {ro : Int32} {mo : xM} (v0 : Nat) (v3 : Int32) (v4 : Int32) (v5 : Int32) (v6 : Int32) {W39 : Int32 × Int32 × Int32 × xM → Prop} (hW39 : ∀ (v4 : Int32) (v5 : Int32) (v6 : Int32) (M : xM), W39 (v4, v5, v6, M) → ∀ (H : Heap) (locs : List Loc) (ls : Array Slot), xO κ s M H locs → lv_has ls 8 [(0, .ref (κ.1 + v0)), (3, .int v3), (4, .int v4), (5, .int v5), (6, .int v6)] → W p l e (xRm 6 0 0) s m args below meth c H locs 0 0 (xQf below args s 0 0 κ (some (.int ro)) mo) (F0 m 39 ls [])) (M : xM) (x : (Int32 × Int32 × Int32 × xM) ⊕ (Int32 × xM)) (h : F_X11_look_85 v0 v3 v4 v5 v6 M = some x) (hK : (xKl W39 (fun o => o = (ro, mo))) x) (H : Heap) (locs : List Loc) (ls : Array Slot) (O : xO κ s M H locs) (hl : lv_has ls 8 [(0, .ref (κ.1 + v0)), (3, .int v3), (4, .int v4), (5, .int v5), (6, .int v6)]) : W p l e (xRm 6 0 0) s m args below meth c H locs 0 0 (xQf below args s 0 0 κ (some (.int ro)) mo) (F0 m 85 ls []) := by
  unfold F_X11_look_85 at h
  have hx := X.1
  have hb := X.2.1
  refine lv_iinc (v := (v6 + 1)) (lv' := [(6, .int (v6 + 1)), (0, .ref (κ.1 + v0)), (3, .int v3), (4, .int v4), (5, .int v5)]) hx hb dX11_look_85 hl (k := 4) rfl rfl (by decide) rfl (fun ls hl => ?_)
  refine lv_goto (tgt := 39) hx hb dX11_look_88 (by decide) ?_
  rw [← Option.some.inj h] at hK
  exact hW39 v4 v5 (v6 + 1) M hK H locs ls O (lv_sub hl [1, 2, 3, 4, 0] rfl)
set_option maxRecDepth 100000 in
set_option maxHeartbeats 4000000 in
theorem F_X11_look_91_ok (X : xX p s m args c cX11_look 8 RX11 κ) (hr : meth.sig.returnType = (some .int)) (hlk : meth.locks = false) {ro : Int32} {mo : xM} (v4 : Int32) (M : xM) (x : Int32 × xM) (h : F_X11_look_91 v4 M = some x) (hK : (fun o => o = (ro, mo)) x) (H : Heap) (locs : List Loc) (ls : Array Slot) (O : xO κ s M H locs) (hl : lv_has ls 8 [(4, .int v4)]) : W p l e (xRm 6 0 0) s m args below meth c H locs 0 0 (xQf below args s 0 0 κ (some (.int ro)) mo) (F0 m 91 ls []) := by
  unfold F_X11_look_91 at h
  have hx := X.1
  have hb := X.2.1
  refine lv_iload hx hb dX11_look_91 (lv_at hl 0 rfl) ?_
  rw [← Option.some.inj h] at hK
  have hK : (v4, M) = (ro, mo) := hK
  obtain ⟨hK1, hK2⟩ := Prod.mk.inj hK
  rw [hK2] at O
  refine xr_top (w := .int ro) (by rw [hK1]) ?_
  exact xr_iret X hr hlk O dX11_look_93
set_option maxRecDepth 100000 in
set_option maxHeartbeats 4000000 in
theorem F_X11_look_39_bok (X : xX p s m args c cX11_look 8 RX11 κ) (hr : meth.sig.returnType = (some .int)) (hlk : meth.locks = false) {ro : Int32} {mo : xM} (v0 : Nat) (v3 : Int32) (v4 : Int32) (v5 : Int32) (v6 : Int32) {W39 : Int32 × Int32 × Int32 × xM → Prop} (hW39 : ∀ (v4 : Int32) (v5 : Int32) (v6 : Int32) (M : xM), W39 (v4, v5, v6, M) → ∀ (H : Heap) (locs : List Loc) (ls : Array Slot), xO κ s M H locs → lv_has ls 8 [(0, .ref (κ.1 + v0)), (3, .int v3), (4, .int v4), (5, .int v5), (6, .int v6)] → W p l e (xRm 6 0 0) s m args below meth c H locs 0 0 (xQf below args s 0 0 κ (some (.int ro)) mo) (F0 m 39 ls [])) (M : xM) (x : (Int32 × Int32 × Int32 × xM) ⊕ (Int32 × xM)) (h : F_X11_look_39b v0 v3 (v4, v5, v6, M) = some x) (hK : (xKl W39 (fun o => o = (ro, mo))) x) (H : Heap) (locs : List Loc) (ls : Array Slot) (O : xO κ s M H locs) (hl : lv_has ls 8 [(0, .ref (κ.1 + v0)), (3, .int v3), (4, .int v4), (5, .int v5), (6, .int v6)]) : W p l e (xRm 6 0 0) s m args below meth c H locs 0 0 (xQf below args s 0 0 κ (some (.int ro)) mo) (F0 m 39 ls []) := by
  unfold F_X11_look_39b at h
  dsimp only at h
  have hx := X.1
  have hb := X.2.1
  refine lv_iload hx hb dX11_look_39 (lv_at hl 4 rfl) ?_
  refine lv_bipush (v := (100 : Int32)) hx hb dX11_look_41 (by decide) ?_
  refine lv_icmp_ge (tgt := 91) hx hb dX11_look_43 (by decide) (fun hc43 => ?_) (fun hc43 => ?_)
  · rw [if_pos hc43] at h
    obtain ⟨_, hw0, ew0⟩ := Option.map_eq_some_iff.mp h
    rw [← ew0] at hK
    have h := hw0
    exact F_X11_look_91_ok X hr hlk v4 M _ h hK H locs ls O (lv_sub hl [2] rfl)
  rw [if_neg hc43] at h
  refine lv_aload_n hx hb dX11_look_46 rfl (lv_at hl 0 rfl) ?_
  obtain ⟨t7, ht7, h⟩ := Option.bind_eq_some_iff.mp h
  refine xr_getP X O ht7 fl_X11_36 dX11_look_47 ?_
  refine lv_aload_n hx hb dX11_look_50 rfl (lv_at hl 0 rfl) ?_
  obtain ⟨t8, ht8, h⟩ := Option.bind_eq_some_iff.mp h
  refine xr_getP X O ht8 fl_X11_19 dX11_look_51 ?_
  refine lv_aload_n hx hb dX11_look_54 rfl (lv_at hl 0 rfl) ?_
  obtain ⟨t9, ht9, h⟩ := Option.bind_eq_some_iff.mp h
  refine xr_getP X O ht9 fl_X11_26 dX11_look_55 ?_
  obtain ⟨t10, ht10, h⟩ := Option.bind_eq_some_iff.mp h
  refine xr_getI X O ht10 fl_X11_312 (Or.inl rfl) dX11_look_58 ?_
  refine lv_iload hx hb dX11_look_61 (lv_at hl 4 rfl) ?_
  refine lv_iadd hx hb dX11_look_63 ?_
  refine lv_iload_n hx hb dX11_look_64 rfl (lv_at hl 1 rfl) ?_
  obtain ⟨_, hut11, h⟩ := Option.bind_eq_some_iff.mp h
  obtain ⟨t12, ht12, h⟩ := Option.bind_eq_some_iff.mp h
  refine xr_callV (rest := []) X O (T_X8_mostAlike l κ t7 t8 (t10 + v6) v3 M _ _ ht12) lk_X11_315 hut11 (Nat.le_of_ble_eq_true rfl) rfl hl.1 rfl (Nat.le_of_ble_eq_true rfl) dX11_look_65 ⟨Nat.le_of_ble_eq_true rfl, Nat.le_of_ble_eq_true rfl⟩ (fun H locs O => ?_)
  refine W.eq (g2 := F0 m 68 ls [.int t12.1]) rfl ?_
  refine lv_istore (lv' := [(7, .int t12.1), (0, .ref (κ.1 + v0)), (3, .int v3), (4, .int v4), (5, .int v5), (6, .int v6)]) hx hb dX11_look_68 hl (by decide) rfl (fun ls hl => ?_)
  refine lv_iload hx hb dX11_look_70 (lv_at hl 0 rfl) ?_
  refine lv_iload hx hb dX11_look_72 (lv_at hl 4 rfl) ?_
  refine lv_icmp_ge (tgt := 85) hx hb dX11_look_74 (by decide) (fun hc74 => ?_) (fun hc74 => ?_)
  · rw [if_pos hc74] at h
    exact F_X11_look_85_ok X hr hlk v0 v3 v4 v5 v6 hW39 t12.2 _ h hK H locs ls O (lv_sub hl [1, 2, 3, 4, 5] rfl)
  rw [if_neg hc74] at h
  refine lv_iload hx hb dX11_look_77 (lv_at hl 0 rfl) ?_
  refine lv_istore (lv' := [(5, .int t12.1), (7, .int t12.1), (0, .ref (κ.1 + v0)), (3, .int v3), (4, .int v4), (6, .int v6)]) hx hb dX11_look_79 hl (by decide) rfl (fun ls hl => ?_)
  refine lv_iload hx hb dX11_look_81 (lv_at hl 5 rfl) ?_
  refine lv_istore (lv' := [(4, .int v6), (5, .int t12.1), (7, .int t12.1), (0, .ref (κ.1 + v0)), (3, .int v3), (6, .int v6)]) hx hb dX11_look_83 hl (by decide) rfl (fun ls hl => ?_)
  exact F_X11_look_85_ok X hr hlk v0 v3 v6 t12.1 v6 hW39 t12.2 _ h hK H locs ls O (lv_sub hl [3, 4, 0, 1, 5] rfl)
set_option maxRecDepth 100000 in
set_option maxHeartbeats 4000000 in
theorem F_X11_look_39_ok (X : xX p s m args c cX11_look 8 RX11 κ) (hr : meth.sig.returnType = (some .int)) (hlk : meth.locks = false) {ro : Int32} {mo : xM} (v0 : Nat) (v3 : Int32) (v4 : Int32) (v5 : Int32) (v6 : Int32) (M : xM) (x : Int32 × xM) (h : F_X11_look_39 v0 v3 v4 v5 v6 M = some x) (hK : (fun o => o = (ro, mo)) x) (H : Heap) (locs : List Loc) (ls : Array Slot) (O : xO κ s M H locs) (hl : lv_has ls 8 [(0, .ref (κ.1 + v0)), (3, .int v3), (4, .int v4), (5, .int v5), (6, .int v6)]) : W p l e (xRm 6 0 0) s m args below meth c H locs 0 0 (xQf below args s 0 0 κ (some (.int ro)) mo) (F0 m 39 ls []) := by
  refine xit_K (Wh := fun x => ∀ (H : Heap) (locs : List Loc) (ls : Array Slot), xO κ s x.2.2.2 H locs → lv_has ls 8 [(0, .ref (κ.1 + v0)), (3, .int v3), (4, .int x.1), (5, .int x.2.1), (6, .int x.2.2.1)] → W p l e (xRm 6 0 0) s m args below meth c H locs 0 0 (xQf below args s 0 0 κ (some (.int ro)) mo) (F0 m 39 ls [])) (Kp := (fun o => o = (ro, mo))) ?_ xFU (v4, v5, v6, M) x h hK H locs ls O hl
  intro y x h hK H locs ls O hl
  exact F_X11_look_39_bok X hr hlk v0 v3 y.1 y.2.1 y.2.2.1 (fun _ _ _ _ hw => hw) y.2.2.2 x h hK H locs ls O hl
set_option maxRecDepth 100000 in
set_option maxHeartbeats 4000000 in
theorem T_X11_look (l : Launch) (κ : xQ) (a0 : Nat) (a1 : Int32) (M : xM) (ro : Int32) (mo : xM) (h : F_X11_look a0 a1 M = some (ro, mo)) : xC l yX11_look cX11_look 8 (some .int) 6 0 0 κ [.ref (κ.1 + a0), .int a1] M (some (.int ro)) mo := by
  refine xC_of rfl (Nat.le_of_ble_eq_true rfl) fun p e s m args below meth c X hr hlk hnm H locs ls O hl => ?_
  have X : xX p s m args c cX11_look 8 RX11 κ := X
  have hl : lv_has ls 8 [(0, .ref (κ.1 + a0)), (1, .int a1)] := hl
  have hx := X.1
  have hb := X.2.1
  obtain ⟨x, hx0⟩ : ∃ x, (ro, mo) = x := ⟨_, rfl⟩
  rw [hx0] at h
  have hK : x = (ro, mo) := hx0.symm
  unfold F_X11_look at h
  refine lv_aload_n hx hb dX11_look_0 rfl (lv_at hl 0 rfl) ?_
  refine lv_iload_n hx hb dX11_look_1 rfl (lv_at hl 1 rfl) ?_
  obtain ⟨_, hut1, h⟩ := Option.bind_eq_some_iff.mp h
  obtain ⟨t2, ht2, h⟩ := Option.bind_eq_some_iff.mp h
  refine xr_callV (rest := []) X O (T_X11_refusedLooks l κ a0 a1 M _ _ ht2) lk_X11_305 hut1 (Nat.le_of_ble_eq_true rfl) rfl hl.1 rfl (Nat.le_of_ble_eq_true rfl) dX11_look_2 ⟨Nat.le_of_ble_eq_true rfl, Nat.le_of_ble_eq_true rfl⟩ (fun H locs O => ?_)
  refine W.eq (g2 := F0 m 5 ls [.int t2.1]) rfl ?_
  refine lv_istore_n (lv' := [(2, .int t2.1), (0, .ref (κ.1 + a0)), (1, .int a1)]) hx hb dX11_look_5 rfl hl (by decide) rfl (fun ls hl => ?_)
  refine lv_iload_n hx hb dX11_look_6 rfl (lv_at hl 0 rfl) ?_
  refine lv_if_eq (tgt := 12) hx hb dX11_look_7 (by decide) (fun hc7 => ?_) (fun hc7 => ?_)
  · rw [if_pos hc7] at h
    refine lv_aload_n hx hb dX11_look_12 rfl (lv_at hl 1 rfl) ?_
    refine lv_aload_n hx hb dX11_look_13 rfl (lv_at hl 1 rfl) ?_
    obtain ⟨t3, ht3, h⟩ := Option.bind_eq_some_iff.mp h
    refine xr_getP X O ht3 fl_X11_49 dX11_look_14 ?_
    refine lv_iload_n hx hb dX11_look_17 rfl (lv_at hl 2 rfl) ?_
    obtain ⟨t4, ht4, h⟩ := Option.bind_eq_some_iff.mp h
    refine xr_aldP (t0 := 6) (C := RX10) X O ht4 (by simp [xRk]) dX11_look_18 ?_
    obtain ⟨_, hut5, h⟩ := Option.bind_eq_some_iff.mp h
    obtain ⟨t6, ht6, h⟩ := Option.bind_eq_some_iff.mp h
    refine xr_callV (rest := []) X O (T_X11_moonsSeen l κ a0 t4 t2.2 _ _ ht6) lk_X11_308 hut5 (Nat.le_of_ble_eq_true rfl) rfl hl.1 rfl (Nat.le_of_ble_eq_true rfl) dX11_look_19 ⟨Nat.le_of_ble_eq_true rfl, Nat.le_of_ble_eq_true rfl⟩ (fun H locs O => ?_)
    refine W.eq (g2 := F0 m 22 ls [.int t6.1]) rfl ?_
    refine lv_istore_n (lv' := [(3, .int t6.1), (2, .int t2.1), (0, .ref (κ.1 + a0)), (1, .int a1)]) hx hb dX11_look_22 rfl hl (by decide) rfl (fun ls hl => ?_)
    refine lv_iload_n hx hb dX11_look_23 rfl (lv_at hl 0 rfl) ?_
    refine lv_if_ne (tgt := 29) hx hb dX11_look_24 (by decide) (fun hc24 => ?_) (fun hc24 => ?_)
    · rw [if_neg hc24] at h
      refine lv_iconst (v := (0 : Int32)) hx hb dX11_look_29 (by decide) ?_
      refine lv_istore (lv' := [(4, .int (0 : Int32)), (3, .int t6.1), (2, .int t2.1), (0, .ref (κ.1 + a0)), (1, .int a1)]) hx hb dX11_look_30 hl (by decide) rfl (fun ls hl => ?_)
      refine lv_bipush (v := (11 : Int32)) hx hb dX11_look_32 (by decide) ?_
      refine lv_istore (lv' := [(5, .int (11 : Int32)), (4, .int (0 : Int32)), (3, .int t6.1), (2, .int t2.1), (0, .ref (κ.1 + a0)), (1, .int a1)]) hx hb dX11_look_34 hl (by decide) rfl (fun ls hl => ?_)
      refine lv_iconst (v := (0 : Int32)) hx hb dX11_look_36 (by decide) ?_
      refine lv_istore (lv' := [(6, .int (0 : Int32)), (5, .int (11 : Int32)), (4, .int (0 : Int32)), (3, .int t6.1), (2, .int t2.1), (0, .ref (κ.1 + a0)), (1, .int a1)]) hx hb dX11_look_37 hl (by decide) rfl (fun ls hl => ?_)
      exact F_X11_look_39_ok X hr hlk a0 t6.1 (0 : Int32) (11 : Int32) (0 : Int32) t6.2 _ h hK H locs ls O (lv_sub hl [5, 3, 2, 1, 0] rfl)
    rw [if_pos hc24] at h
    refine lv_iconst (v := (-1 : Int32)) hx hb dX11_look_27 (by decide) ?_
    rw [← Option.some.inj h] at hK
    have hK : ((-1 : Int32), t6.2) = (ro, mo) := hK
    obtain ⟨hK1, hK2⟩ := Prod.mk.inj hK
    rw [hK2] at O
    refine xr_top (w := .int ro) (by rw [hK1]) ?_
    exact xr_iret X hr hlk O dX11_look_28
  rw [if_neg hc7] at h
  refine lv_iload_n hx hb dX11_look_10 rfl (lv_at hl 0 rfl) ?_
  rw [← Option.some.inj h] at hK
  have hK : (t2.1, t2.2) = (ro, mo) := hK
  obtain ⟨hK1, hK2⟩ := Prod.mk.inj hK
  rw [hK2] at O
  refine xr_top (w := .int ro) (by rw [hK1]) ?_
  exact xr_iret X hr hlk O dX11_look_11
def F_X11_freeIn (a0 : Nat) (a1 : Int32) (M : xM) : Option (Int32 × xM) :=
(xgP M a0 11 2).bind fun t1 =>
(xgI M t1 3 1).bind fun t2 =>
(some ((((1 : Int32) <<< (t2 &&& 31)) - (1 : Int32)))).bind fun t3 =>
(xgP M a0 11 3).bind fun t4 =>
(xck M t4 0).bind fun _ =>
(F_X0_builtCells t4 M).bind fun t6 =>
(xgP t6.2 a0 11 2).bind fun t7 =>
(xgI t6.2 t7 3 1).bind fun t8 =>
(some (((t6.1 >>> ((a1 * t8) &&& 31)) &&& t3))).bind fun t9 =>
some ((t3 &&& (((t9 ||| (t9 <<< ((1 : Int32) &&& 31))) ||| (t9 >>> ((1 : Int32) &&& 31))) ^^^ (-1 : Int32))), t6.2)
set_option maxRecDepth 100000 in
set_option maxHeartbeats 4000000 in
theorem T_X11_freeIn (l : Launch) (κ : xQ) (a0 : Nat) (a1 : Int32) (M : xM) (ro : Int32) (mo : xM) (h : F_X11_freeIn a0 a1 M = some (ro, mo)) : xC l yX11_freeIn cX11_freeIn 4 (some .int) 3 0 0 κ [.ref (κ.1 + a0), .int a1] M (some (.int ro)) mo := by
  refine xC_of rfl (Nat.le_of_ble_eq_true rfl) fun p e s m args below meth c X hr hlk hnm H locs ls O hl => ?_
  have X : xX p s m args c cX11_freeIn 4 RX11 κ := X
  have hl : lv_has ls 4 [(0, .ref (κ.1 + a0)), (1, .int a1)] := hl
  have hx := X.1
  have hb := X.2.1
  obtain ⟨x, hx0⟩ : ∃ x, (ro, mo) = x := ⟨_, rfl⟩
  rw [hx0] at h
  have hK : x = (ro, mo) := hx0.symm
  unfold F_X11_freeIn at h
  refine lv_iconst (v := (1 : Int32)) hx hb dX11_freeIn_0 (by decide) ?_
  refine lv_aload_n hx hb dX11_freeIn_1 rfl (lv_at hl 0 rfl) ?_
  obtain ⟨t1, ht1, h⟩ := Option.bind_eq_some_iff.mp h
  refine xr_getP X O ht1 fl_X11_19 dX11_freeIn_2 ?_
  obtain ⟨t2, ht2, h⟩ := Option.bind_eq_some_iff.mp h
  refine xr_getI X O ht2 fl_X11_324 (Or.inl rfl) dX11_freeIn_5 ?_
  refine lv_ishl hx hb dX11_freeIn_8 ?_
  refine lv_iconst (v := (1 : Int32)) hx hb dX11_freeIn_9 (by decide) ?_
  refine lv_isub hx hb dX11_freeIn_10 ?_
  obtain ⟨t3, ht3, h⟩ := Option.bind_eq_some_iff.mp h
  refine xr_top (w := .int t3) (by rw [Option.some.inj ht3]) ?_
  refine lv_istore_n (lv' := [(2, .int t3), (0, .ref (κ.1 + a0)), (1, .int a1)]) hx hb dX11_freeIn_11 rfl hl (by decide) rfl (fun ls hl => ?_)
  refine lv_aload_n hx hb dX11_freeIn_12 rfl (lv_at hl 1 rfl) ?_
  obtain ⟨t4, ht4, h⟩ := Option.bind_eq_some_iff.mp h
  refine xr_getP X O ht4 fl_X11_26 dX11_freeIn_13 ?_
  obtain ⟨_, hut5, h⟩ := Option.bind_eq_some_iff.mp h
  obtain ⟨t6, ht6, h⟩ := Option.bind_eq_some_iff.mp h
  refine xr_callV (rest := []) X O (T_X0_builtCells l κ t4 M _ _ ht6) lk_X11_386 hut5 (Nat.le_of_ble_eq_true rfl) rfl hl.1 rfl (Nat.le_of_ble_eq_true rfl) dX11_freeIn_16 ⟨Nat.le_of_ble_eq_true rfl, Nat.le_of_ble_eq_true rfl⟩ (fun H locs O => ?_)
  refine W.eq (g2 := F0 m 19 ls [.int t6.1]) rfl ?_
  refine lv_iload_n hx hb dX11_freeIn_19 rfl (lv_at hl 2 rfl) ?_
  refine lv_aload_n hx hb dX11_freeIn_20 rfl (lv_at hl 1 rfl) ?_
  obtain ⟨t7, ht7, h⟩ := Option.bind_eq_some_iff.mp h
  refine xr_getP X O ht7 fl_X11_19 dX11_freeIn_21 ?_
  obtain ⟨t8, ht8, h⟩ := Option.bind_eq_some_iff.mp h
  refine xr_getI X O ht8 fl_X11_324 (Or.inl rfl) dX11_freeIn_24 ?_
  refine lv_imul hx hb dX11_freeIn_27 ?_
  refine lv_ishr hx hb dX11_freeIn_28 ?_
  refine lv_iload_n hx hb dX11_freeIn_29 rfl (lv_at hl 0 rfl) ?_
  refine lv_iand hx hb dX11_freeIn_30 ?_
  obtain ⟨t9, ht9, h⟩ := Option.bind_eq_some_iff.mp h
  refine xr_top (w := .int t9) (by rw [Option.some.inj ht9]) ?_
  refine lv_istore_n (lv' := [(3, .int t9), (2, .int t3), (0, .ref (κ.1 + a0)), (1, .int a1)]) hx hb dX11_freeIn_31 rfl hl (by decide) rfl (fun ls hl => ?_)
  refine lv_iload_n hx hb dX11_freeIn_32 rfl (lv_at hl 1 rfl) ?_
  refine lv_iload_n hx hb dX11_freeIn_33 rfl (lv_at hl 0 rfl) ?_
  refine lv_iload_n hx hb dX11_freeIn_34 rfl (lv_at hl 0 rfl) ?_
  refine lv_iconst (v := (1 : Int32)) hx hb dX11_freeIn_35 (by decide) ?_
  refine lv_ishl hx hb dX11_freeIn_36 ?_
  refine lv_ior hx hb dX11_freeIn_37 ?_
  refine lv_iload_n hx hb dX11_freeIn_38 rfl (lv_at hl 0 rfl) ?_
  refine lv_iconst (v := (1 : Int32)) hx hb dX11_freeIn_39 (by decide) ?_
  refine lv_ishr hx hb dX11_freeIn_40 ?_
  refine lv_ior hx hb dX11_freeIn_41 ?_
  refine lv_iconst (v := (-1 : Int32)) hx hb dX11_freeIn_42 (by decide) ?_
  refine lv_ixor hx hb dX11_freeIn_43 ?_
  refine lv_iand hx hb dX11_freeIn_44 ?_
  rw [← Option.some.inj h] at hK
  have hK : ((t3 &&& (((t9 ||| (t9 <<< ((1 : Int32) &&& 31))) ||| (t9 >>> ((1 : Int32) &&& 31))) ^^^ (-1 : Int32))), t6.2) = (ro, mo) := hK
  obtain ⟨hK1, hK2⟩ := Prod.mk.inj hK
  rw [hK2] at O
  refine xr_top (w := .int ro) (by rw [hK1]) ?_
  exact xr_iret X hr hlk O dX11_freeIn_45
def F_X11_puts_58 (v0 : Nat) (v1 : Int32) (v3 : Int32) (M : xM) : Option (Int32 × xM) :=
(xgP M v0 11 2).bind fun t10 =>
(xgI M t10 3 1).bind fun t11 =>
some (((v1 * t11) + v3), M)
def F_X11_puts_70 (v0 : Nat) (v1 : Int32) (v2 : Int32) (v3 : Int32) (M : xM) : Option ((Int32 × xM) ⊕ (Int32 × xM)) :=
some (.inl ((v3 + 1), M))
def F_X11_puts_76 (M : xM) : Option (Int32 × xM) :=
some ((-1 : Int32), M)
def F_X11_puts_26b (v0 : Nat) (v1 : Int32) (v2 : Int32) : (Int32 × xM) → Option ((Int32 × xM) ⊕ (Int32 × xM)) := fun ⟨v3, M⟩ =>
(xgP M v0 11 2).bind fun t5 =>
(xgI M t5 3 1).bind fun t6 =>
if t6 ≤ v3 then (
(F_X11_puts_76 M).map Sum.inr)
else (
if ((v2 >>> (v3 &&& 31)) &&& (1 : Int32)) = 0 then (
F_X11_puts_70 v0 v1 v2 v3 M)
else (
(xgP M v0 11 14).bind fun t7 =>
(F_X11_afterPut v2 v3 M).bind fun t8 =>
(xaI t8.2 20 t7 t8.1).bind fun t9 =>
if t9 = 0 then (
(F_X11_puts_58 v0 v1 v3 t8.2).map Sum.inr)
else (
F_X11_puts_70 v0 v1 v2 v3 t8.2)))
def F_X11_puts_26 (v0 : Nat) (v1 : Int32) (v2 : Int32) (v3 : Int32) (M : xM) : Option (Int32 × xM) := xit (F_X11_puts_26b v0 v1 v2) xFU (v3, M)
def F_X11_puts (a0 : Nat) (a1 : Int32) (M : xM) : Option (Int32 × xM) :=
if a1 < 0 then (
some ((-2 : Int32), M))
else (
(xgP M a0 11 2).bind fun t1 =>
(xgI M t1 3 0).bind fun t2 =>
if a1 < t2 then (
(xck M a0 11).bind fun _ =>
(F_X11_freeIn a0 a1 M).bind fun t4 =>
F_X11_puts_26 a0 a1 t4.1 (0 : Int32) t4.2)
else (
some ((-2 : Int32), M)))
set_option maxRecDepth 100000 in
set_option maxHeartbeats 4000000 in
theorem F_X11_puts_58_ok (X : xX p s m args c cX11_puts 4 RX11 κ) (hr : meth.sig.returnType = (some .int)) (hlk : meth.locks = false) {ro : Int32} {mo : xM} (v0 : Nat) (v1 : Int32) (v3 : Int32) (M : xM) (x : Int32 × xM) (h : F_X11_puts_58 v0 v1 v3 M = some x) (hK : (fun o => o = (ro, mo)) x) (H : Heap) (locs : List Loc) (ls : Array Slot) (O : xO κ s M H locs) (hl : lv_has ls 4 [(0, .ref (κ.1 + v0)), (1, .int v1), (3, .int v3)]) : W p l e (xRm 4 0 0) s m args below meth c H locs 0 0 (xQf below args s 0 0 κ (some (.int ro)) mo) (F0 m 58 ls []) := by
  unfold F_X11_puts_58 at h
  have hx := X.1
  have hb := X.2.1
  refine lv_iload_n hx hb dX11_puts_58 rfl (lv_at hl 1 rfl) ?_
  refine lv_aload_n hx hb dX11_puts_59 rfl (lv_at hl 0 rfl) ?_
  obtain ⟨t10, ht10, h⟩ := Option.bind_eq_some_iff.mp h
  refine xr_getP X O ht10 fl_X11_19 dX11_puts_60 ?_
  obtain ⟨t11, ht11, h⟩ := Option.bind_eq_some_iff.mp h
  refine xr_getI X O ht11 fl_X11_324 (Or.inl rfl) dX11_puts_63 ?_
  refine lv_imul hx hb dX11_puts_66 ?_
  refine lv_iload_n hx hb dX11_puts_67 rfl (lv_at hl 2 rfl) ?_
  refine lv_iadd hx hb dX11_puts_68 ?_
  rw [← Option.some.inj h] at hK
  have hK : (((v1 * t11) + v3), M) = (ro, mo) := hK
  obtain ⟨hK1, hK2⟩ := Prod.mk.inj hK
  rw [hK2] at O
  refine xr_top (w := .int ro) (by rw [hK1]) ?_
  exact xr_iret X hr hlk O dX11_puts_69
set_option maxRecDepth 100000 in
set_option maxHeartbeats 4000000 in
theorem F_X11_puts_70_ok (X : xX p s m args c cX11_puts 4 RX11 κ) (hr : meth.sig.returnType = (some .int)) (hlk : meth.locks = false) {ro : Int32} {mo : xM} (v0 : Nat) (v1 : Int32) (v2 : Int32) (v3 : Int32) {W26 : Int32 × xM → Prop} (hW26 : ∀ (v3 : Int32) (M : xM), W26 (v3, M) → ∀ (H : Heap) (locs : List Loc) (ls : Array Slot), xO κ s M H locs → lv_has ls 4 [(0, .ref (κ.1 + v0)), (1, .int v1), (2, .int v2), (3, .int v3)] → W p l e (xRm 4 0 0) s m args below meth c H locs 0 0 (xQf below args s 0 0 κ (some (.int ro)) mo) (F0 m 26 ls [])) (M : xM) (x : (Int32 × xM) ⊕ (Int32 × xM)) (h : F_X11_puts_70 v0 v1 v2 v3 M = some x) (hK : (xKl W26 (fun o => o = (ro, mo))) x) (H : Heap) (locs : List Loc) (ls : Array Slot) (O : xO κ s M H locs) (hl : lv_has ls 4 [(0, .ref (κ.1 + v0)), (1, .int v1), (2, .int v2), (3, .int v3)]) : W p l e (xRm 4 0 0) s m args below meth c H locs 0 0 (xQf below args s 0 0 κ (some (.int ro)) mo) (F0 m 70 ls []) := by
  unfold F_X11_puts_70 at h
  have hx := X.1
  have hb := X.2.1
  refine lv_iinc (v := (v3 + 1)) (lv' := [(3, .int (v3 + 1)), (0, .ref (κ.1 + v0)), (1, .int v1), (2, .int v2)]) hx hb dX11_puts_70 hl (k := 3) rfl rfl (by decide) rfl (fun ls hl => ?_)
  refine lv_goto (tgt := 26) hx hb dX11_puts_73 (by decide) ?_
  rw [← Option.some.inj h] at hK
  exact hW26 (v3 + 1) M hK H locs ls O (lv_sub hl [1, 2, 3, 0] rfl)
set_option maxRecDepth 100000 in
set_option maxHeartbeats 4000000 in
theorem F_X11_puts_76_ok (X : xX p s m args c cX11_puts 4 RX11 κ) (hr : meth.sig.returnType = (some .int)) (hlk : meth.locks = false) {ro : Int32} {mo : xM} (M : xM) (x : Int32 × xM) (h : F_X11_puts_76 M = some x) (hK : (fun o => o = (ro, mo)) x) (H : Heap) (locs : List Loc) (ls : Array Slot) (O : xO κ s M H locs) (hl : lv_has ls 4 []) : W p l e (xRm 4 0 0) s m args below meth c H locs 0 0 (xQf below args s 0 0 κ (some (.int ro)) mo) (F0 m 76 ls []) := by
  unfold F_X11_puts_76 at h
  have hx := X.1
  have hb := X.2.1
  refine lv_iconst (v := (-1 : Int32)) hx hb dX11_puts_76 (by decide) ?_
  rw [← Option.some.inj h] at hK
  have hK : ((-1 : Int32), M) = (ro, mo) := hK
  obtain ⟨hK1, hK2⟩ := Prod.mk.inj hK
  rw [hK2] at O
  refine xr_top (w := .int ro) (by rw [hK1]) ?_
  exact xr_iret X hr hlk O dX11_puts_77
set_option maxRecDepth 100000 in
set_option maxHeartbeats 4000000 in
theorem F_X11_puts_26_bok (X : xX p s m args c cX11_puts 4 RX11 κ) (hr : meth.sig.returnType = (some .int)) (hlk : meth.locks = false) {ro : Int32} {mo : xM} (v0 : Nat) (v1 : Int32) (v2 : Int32) (v3 : Int32) {W26 : Int32 × xM → Prop} (hW26 : ∀ (v3 : Int32) (M : xM), W26 (v3, M) → ∀ (H : Heap) (locs : List Loc) (ls : Array Slot), xO κ s M H locs → lv_has ls 4 [(0, .ref (κ.1 + v0)), (1, .int v1), (2, .int v2), (3, .int v3)] → W p l e (xRm 4 0 0) s m args below meth c H locs 0 0 (xQf below args s 0 0 κ (some (.int ro)) mo) (F0 m 26 ls [])) (M : xM) (x : (Int32 × xM) ⊕ (Int32 × xM)) (h : F_X11_puts_26b v0 v1 v2 (v3, M) = some x) (hK : (xKl W26 (fun o => o = (ro, mo))) x) (H : Heap) (locs : List Loc) (ls : Array Slot) (O : xO κ s M H locs) (hl : lv_has ls 4 [(0, .ref (κ.1 + v0)), (1, .int v1), (2, .int v2), (3, .int v3)]) : W p l e (xRm 4 0 0) s m args below meth c H locs 0 0 (xQf below args s 0 0 κ (some (.int ro)) mo) (F0 m 26 ls []) := by
  unfold F_X11_puts_26b at h
  dsimp only at h
  have hx := X.1
  have hb := X.2.1
  refine lv_iload_n hx hb dX11_puts_26 rfl (lv_at hl 3 rfl) ?_
  refine lv_aload_n hx hb dX11_puts_27 rfl (lv_at hl 0 rfl) ?_
  obtain ⟨t5, ht5, h⟩ := Option.bind_eq_some_iff.mp h
  refine xr_getP X O ht5 fl_X11_19 dX11_puts_28 ?_
  obtain ⟨t6, ht6, h⟩ := Option.bind_eq_some_iff.mp h
  refine xr_getI X O ht6 fl_X11_324 (Or.inl rfl) dX11_puts_31 ?_
  refine lv_icmp_ge (tgt := 76) hx hb dX11_puts_34 (by decide) (fun hc34 => ?_) (fun hc34 => ?_)
  · rw [if_pos hc34] at h
    obtain ⟨_, hw0, ew0⟩ := Option.map_eq_some_iff.mp h
    rw [← ew0] at hK
    have h := hw0
    exact F_X11_puts_76_ok X hr hlk  M _ h hK H locs ls O (lv_sub hl [] rfl)
  rw [if_neg hc34] at h
  refine lv_iload_n hx hb dX11_puts_37 rfl (lv_at hl 2 rfl) ?_
  refine lv_iload_n hx hb dX11_puts_38 rfl (lv_at hl 3 rfl) ?_
  refine lv_ishr hx hb dX11_puts_39 ?_
  refine lv_iconst (v := (1 : Int32)) hx hb dX11_puts_40 (by decide) ?_
  refine lv_iand hx hb dX11_puts_41 ?_
  refine lv_if_eq (tgt := 70) hx hb dX11_puts_42 (by decide) (fun hc42 => ?_) (fun hc42 => ?_)
  · rw [if_pos hc42] at h
    exact F_X11_puts_70_ok X hr hlk v0 v1 v2 v3 hW26 M _ h hK H locs ls O (lv_sub hl [0, 1, 2, 3] rfl)
  rw [if_neg hc42] at h
  refine lv_aload_n hx hb dX11_puts_45 rfl (lv_at hl 0 rfl) ?_
  obtain ⟨t7, ht7, h⟩ := Option.bind_eq_some_iff.mp h
  refine xr_getP X O ht7 fl_X11_87 dX11_puts_46 ?_
  refine lv_iload_n hx hb dX11_puts_49 rfl (lv_at hl 2 rfl) ?_
  refine lv_iload_n hx hb dX11_puts_50 rfl (lv_at hl 3 rfl) ?_
  obtain ⟨t8, ht8, h⟩ := Option.bind_eq_some_iff.mp h
  refine xr_callS (rest := [.ref (κ.1 + t7)]) X O (T_X11_afterPut l κ v2 v3 M _ _ ht8) lk_X11_327 (Nat.le_of_ble_eq_true rfl) rfl hl.1 rfl (Nat.le_of_ble_eq_true rfl) dX11_puts_51 ⟨Nat.le_of_ble_eq_true rfl, Nat.le_of_ble_eq_true rfl⟩ (fun H locs O => ?_)
  refine W.eq (g2 := F0 m 54 ls [.int t8.1, .ref (κ.1 + t7)]) rfl ?_
  obtain ⟨t9, ht9, h⟩ := Option.bind_eq_some_iff.mp h
  refine xr_aldI X O ht9 dX11_puts_54 ?_
  refine lv_if_ne (tgt := 70) hx hb dX11_puts_55 (by decide) (fun hc55 => ?_) (fun hc55 => ?_)
  · rw [if_neg hc55] at h
    exact F_X11_puts_70_ok X hr hlk v0 v1 v2 v3 hW26 t8.2 _ h hK H locs ls O (lv_sub hl [0, 1, 2, 3] rfl)
  rw [if_pos hc55] at h
  obtain ⟨_, hw0, ew0⟩ := Option.map_eq_some_iff.mp h
  rw [← ew0] at hK
  have h := hw0
  exact F_X11_puts_58_ok X hr hlk v0 v1 v3 t8.2 _ h hK H locs ls O (lv_sub hl [0, 1, 3] rfl)
set_option maxRecDepth 100000 in
set_option maxHeartbeats 4000000 in
theorem F_X11_puts_26_ok (X : xX p s m args c cX11_puts 4 RX11 κ) (hr : meth.sig.returnType = (some .int)) (hlk : meth.locks = false) {ro : Int32} {mo : xM} (v0 : Nat) (v1 : Int32) (v2 : Int32) (v3 : Int32) (M : xM) (x : Int32 × xM) (h : F_X11_puts_26 v0 v1 v2 v3 M = some x) (hK : (fun o => o = (ro, mo)) x) (H : Heap) (locs : List Loc) (ls : Array Slot) (O : xO κ s M H locs) (hl : lv_has ls 4 [(0, .ref (κ.1 + v0)), (1, .int v1), (2, .int v2), (3, .int v3)]) : W p l e (xRm 4 0 0) s m args below meth c H locs 0 0 (xQf below args s 0 0 κ (some (.int ro)) mo) (F0 m 26 ls []) := by
  refine xit_K (Wh := fun x => ∀ (H : Heap) (locs : List Loc) (ls : Array Slot), xO κ s x.2 H locs → lv_has ls 4 [(0, .ref (κ.1 + v0)), (1, .int v1), (2, .int v2), (3, .int x.1)] → W p l e (xRm 4 0 0) s m args below meth c H locs 0 0 (xQf below args s 0 0 κ (some (.int ro)) mo) (F0 m 26 ls [])) (Kp := (fun o => o = (ro, mo))) ?_ xFU (v3, M) x h hK H locs ls O hl
  intro y x h hK H locs ls O hl
  exact F_X11_puts_26_bok X hr hlk v0 v1 v2 y.1 (fun _ _ hw => hw) y.2 x h hK H locs ls O hl
set_option maxRecDepth 100000 in
set_option maxHeartbeats 4000000 in
theorem T_X11_puts (l : Launch) (κ : xQ) (a0 : Nat) (a1 : Int32) (M : xM) (ro : Int32) (mo : xM) (h : F_X11_puts a0 a1 M = some (ro, mo)) : xC l yX11_puts cX11_puts 4 (some .int) 4 0 0 κ [.ref (κ.1 + a0), .int a1] M (some (.int ro)) mo := by
  refine xC_of rfl (Nat.le_of_ble_eq_true rfl) fun p e s m args below meth c X hr hlk hnm H locs ls O hl => ?_
  have X : xX p s m args c cX11_puts 4 RX11 κ := X
  have hl : lv_has ls 4 [(0, .ref (κ.1 + a0)), (1, .int a1)] := hl
  have hx := X.1
  have hb := X.2.1
  obtain ⟨x, hx0⟩ : ∃ x, (ro, mo) = x := ⟨_, rfl⟩
  rw [hx0] at h
  have hK : x = (ro, mo) := hx0.symm
  unfold F_X11_puts at h
  refine lv_iload_n hx hb dX11_puts_0 rfl (lv_at hl 1 rfl) ?_
  refine lv_if_lt (tgt := 15) hx hb dX11_puts_1 (by decide) (fun hc1 => ?_) (fun hc1 => ?_)
  · rw [if_pos hc1] at h
    refine lv_bipush (v := (-2 : Int32)) hx hb dX11_puts_15 (by decide) ?_
    rw [← Option.some.inj h] at hK
    have hK : ((-2 : Int32), M) = (ro, mo) := hK
    obtain ⟨hK1, hK2⟩ := Prod.mk.inj hK
    rw [hK2] at O
    refine xr_top (w := .int ro) (by rw [hK1]) ?_
    exact xr_iret X hr hlk O dX11_puts_17
  rw [if_neg hc1] at h
  refine lv_iload_n hx hb dX11_puts_4 rfl (lv_at hl 1 rfl) ?_
  refine lv_aload_n hx hb dX11_puts_5 rfl (lv_at hl 0 rfl) ?_
  obtain ⟨t1, ht1, h⟩ := Option.bind_eq_some_iff.mp h
  refine xr_getP X O ht1 fl_X11_19 dX11_puts_6 ?_
  obtain ⟨t2, ht2, h⟩ := Option.bind_eq_some_iff.mp h
  refine xr_getI X O ht2 fl_X11_318 (Or.inl rfl) dX11_puts_9 ?_
  refine lv_icmp_lt (tgt := 18) hx hb dX11_puts_12 (by decide) (fun hc12 => ?_) (fun hc12 => ?_)
  · rw [if_pos hc12] at h
    refine lv_aload_n hx hb dX11_puts_18 rfl (lv_at hl 0 rfl) ?_
    refine lv_iload_n hx hb dX11_puts_19 rfl (lv_at hl 1 rfl) ?_
    obtain ⟨_, hut3, h⟩ := Option.bind_eq_some_iff.mp h
    obtain ⟨t4, ht4, h⟩ := Option.bind_eq_some_iff.mp h
    refine xr_callV (rest := []) X O (T_X11_freeIn l κ a0 a1 M _ _ ht4) lk_X11_321 hut3 (Nat.le_of_ble_eq_true rfl) rfl hl.1 rfl (Nat.le_of_ble_eq_true rfl) dX11_puts_20 ⟨Nat.le_of_ble_eq_true rfl, Nat.le_of_ble_eq_true rfl⟩ (fun H locs O => ?_)
    refine W.eq (g2 := F0 m 23 ls [.int t4.1]) rfl ?_
    refine lv_istore_n (lv' := [(2, .int t4.1), (0, .ref (κ.1 + a0)), (1, .int a1)]) hx hb dX11_puts_23 rfl hl (by decide) rfl (fun ls hl => ?_)
    refine lv_iconst (v := (0 : Int32)) hx hb dX11_puts_24 (by decide) ?_
    refine lv_istore_n (lv' := [(3, .int (0 : Int32)), (2, .int t4.1), (0, .ref (κ.1 + a0)), (1, .int a1)]) hx hb dX11_puts_25 rfl hl (by decide) rfl (fun ls hl => ?_)
    exact F_X11_puts_26_ok X hr hlk a0 a1 t4.1 (0 : Int32) t4.2 _ h hK H locs ls O (lv_sub hl [2, 3, 1, 0] rfl)
  rw [if_neg hc12] at h
  refine lv_bipush (v := (-2 : Int32)) hx hb dX11_puts_15 (by decide) ?_
  rw [← Option.some.inj h] at hK
  have hK : ((-2 : Int32), M) = (ro, mo) := hK
  obtain ⟨hK1, hK2⟩ := Prod.mk.inj hK
  rw [hK2] at O
  refine xr_top (w := .int ro) (by rw [hK1]) ?_
  exact xr_iret X hr hlk O dX11_puts_17
def F_X11_wins_34 (v1 : Int32) (M : xM) : Option (Int32 × xM) :=
if v1 = 0 then (
some ((0 : Int32), M))
else (
some ((1 : Int32), M))
def F_X11_wins_4b (v0 : Nat) : (Int32 × Int32 × xM) → Option ((Int32 × Int32 × xM) ⊕ (Int32 × xM)) := fun ⟨v1, v2, M⟩ =>
(xgP M v0 11 2).bind fun t1 =>
(xgI M t1 3 0).bind fun t2 =>
if t2 ≤ v2 then (
(F_X11_wins_34 v1 M).map Sum.inr)
else (
(xgP M v0 11 14).bind fun t3 =>
(xck M v0 11).bind fun _ =>
(F_X11_freeIn v0 v2 M).bind fun t5 =>
(xaI t5.2 20 t3 t5.1).bind fun t6 =>
(some ((v1 ^^^ t6))).bind fun t7 =>
some (.inl (t7, (v2 + 1), t5.2)))
def F_X11_wins_4 (v0 : Nat) (v1 : Int32) (v2 : Int32) (M : xM) : Option (Int32 × xM) := xit (F_X11_wins_4b v0) xFU (v1, v2, M)
def F_X11_wins (a0 : Nat) (M : xM) : Option (Int32 × xM) :=
F_X11_wins_4 a0 (0 : Int32) (0 : Int32) M
set_option maxRecDepth 100000 in
set_option maxHeartbeats 4000000 in
theorem F_X11_wins_34_ok (X : xX p s m args c cX11_wins 3 RX11 κ) (hr : meth.sig.returnType = (some .int)) (hlk : meth.locks = false) {ro : Int32} {mo : xM} (v1 : Int32) (M : xM) (x : Int32 × xM) (h : F_X11_wins_34 v1 M = some x) (hK : (fun o => o = (ro, mo)) x) (H : Heap) (locs : List Loc) (ls : Array Slot) (O : xO κ s M H locs) (hl : lv_has ls 3 [(1, .int v1)]) : W p l e (xRm 4 0 0) s m args below meth c H locs 0 0 (xQf below args s 0 0 κ (some (.int ro)) mo) (F0 m 34 ls []) := by
  unfold F_X11_wins_34 at h
  have hx := X.1
  have hb := X.2.1
  refine lv_iload_n hx hb dX11_wins_34 rfl (lv_at hl 0 rfl) ?_
  refine lv_if_eq (tgt := 42) hx hb dX11_wins_35 (by decide) (fun hc35 => ?_) (fun hc35 => ?_)
  · rw [if_pos hc35] at h
    refine lv_iconst (v := (0 : Int32)) hx hb dX11_wins_42 (by decide) ?_
    rw [← Option.some.inj h] at hK
    have hK : ((0 : Int32), M) = (ro, mo) := hK
    obtain ⟨hK1, hK2⟩ := Prod.mk.inj hK
    rw [hK2] at O
    refine xr_top (w := .int ro) (by rw [hK1]) ?_
    exact xr_iret X hr hlk O dX11_wins_43
  rw [if_neg hc35] at h
  refine lv_iconst (v := (1 : Int32)) hx hb dX11_wins_38 (by decide) ?_
  refine lv_goto (tgt := 43) hx hb dX11_wins_39 (by decide) ?_
  rw [← Option.some.inj h] at hK
  have hK : ((1 : Int32), M) = (ro, mo) := hK
  obtain ⟨hK1, hK2⟩ := Prod.mk.inj hK
  rw [hK2] at O
  refine xr_top (w := .int ro) (by rw [hK1]) ?_
  exact xr_iret X hr hlk O dX11_wins_43
set_option maxRecDepth 100000 in
set_option maxHeartbeats 4000000 in
theorem F_X11_wins_4_bok (X : xX p s m args c cX11_wins 3 RX11 κ) (hr : meth.sig.returnType = (some .int)) (hlk : meth.locks = false) {ro : Int32} {mo : xM} (v0 : Nat) (v1 : Int32) (v2 : Int32) {W4 : Int32 × Int32 × xM → Prop} (hW4 : ∀ (v1 : Int32) (v2 : Int32) (M : xM), W4 (v1, v2, M) → ∀ (H : Heap) (locs : List Loc) (ls : Array Slot), xO κ s M H locs → lv_has ls 3 [(0, .ref (κ.1 + v0)), (1, .int v1), (2, .int v2)] → W p l e (xRm 4 0 0) s m args below meth c H locs 0 0 (xQf below args s 0 0 κ (some (.int ro)) mo) (F0 m 4 ls [])) (M : xM) (x : (Int32 × Int32 × xM) ⊕ (Int32 × xM)) (h : F_X11_wins_4b v0 (v1, v2, M) = some x) (hK : (xKl W4 (fun o => o = (ro, mo))) x) (H : Heap) (locs : List Loc) (ls : Array Slot) (O : xO κ s M H locs) (hl : lv_has ls 3 [(0, .ref (κ.1 + v0)), (1, .int v1), (2, .int v2)]) : W p l e (xRm 4 0 0) s m args below meth c H locs 0 0 (xQf below args s 0 0 κ (some (.int ro)) mo) (F0 m 4 ls []) := by
  unfold F_X11_wins_4b at h
  dsimp only at h
  have hx := X.1
  have hb := X.2.1
  refine lv_iload_n hx hb dX11_wins_4 rfl (lv_at hl 2 rfl) ?_
  refine lv_aload_n hx hb dX11_wins_5 rfl (lv_at hl 0 rfl) ?_
  obtain ⟨t1, ht1, h⟩ := Option.bind_eq_some_iff.mp h
  refine xr_getP X O ht1 fl_X11_19 dX11_wins_6 ?_
  obtain ⟨t2, ht2, h⟩ := Option.bind_eq_some_iff.mp h
  refine xr_getI X O ht2 fl_X11_318 (Or.inl rfl) dX11_wins_9 ?_
  refine lv_icmp_ge (tgt := 34) hx hb dX11_wins_12 (by decide) (fun hc12 => ?_) (fun hc12 => ?_)
  · rw [if_pos hc12] at h
    obtain ⟨_, hw0, ew0⟩ := Option.map_eq_some_iff.mp h
    rw [← ew0] at hK
    have h := hw0
    exact F_X11_wins_34_ok X hr hlk v1 M _ h hK H locs ls O (lv_sub hl [1] rfl)
  rw [if_neg hc12] at h
  refine lv_iload_n hx hb dX11_wins_15 rfl (lv_at hl 1 rfl) ?_
  refine lv_aload_n hx hb dX11_wins_16 rfl (lv_at hl 0 rfl) ?_
  obtain ⟨t3, ht3, h⟩ := Option.bind_eq_some_iff.mp h
  refine xr_getP X O ht3 fl_X11_87 dX11_wins_17 ?_
  refine lv_aload_n hx hb dX11_wins_20 rfl (lv_at hl 0 rfl) ?_
  refine lv_iload_n hx hb dX11_wins_21 rfl (lv_at hl 2 rfl) ?_
  obtain ⟨_, hut4, h⟩ := Option.bind_eq_some_iff.mp h
  obtain ⟨t5, ht5, h⟩ := Option.bind_eq_some_iff.mp h
  refine xr_callV (rest := [.ref (κ.1 + t3), .int v1]) X O (T_X11_freeIn l κ v0 v2 M _ _ ht5) lk_X11_321 hut4 (Nat.le_of_ble_eq_true rfl) rfl hl.1 rfl (Nat.le_of_ble_eq_true rfl) dX11_wins_22 ⟨Nat.le_of_ble_eq_true rfl, Nat.le_of_ble_eq_true rfl⟩ (fun H locs O => ?_)
  refine W.eq (g2 := F0 m 25 ls [.int t5.1, .ref (κ.1 + t3), .int v1]) rfl ?_
  obtain ⟨t6, ht6, h⟩ := Option.bind_eq_some_iff.mp h
  refine xr_aldI X O ht6 dX11_wins_25 ?_
  refine lv_ixor hx hb dX11_wins_26 ?_
  obtain ⟨t7, ht7, h⟩ := Option.bind_eq_some_iff.mp h
  refine xr_top (w := .int t7) (by rw [Option.some.inj ht7]) ?_
  refine lv_istore_n (lv' := [(1, .int t7), (0, .ref (κ.1 + v0)), (2, .int v2)]) hx hb dX11_wins_27 rfl hl (by decide) rfl (fun ls hl => ?_)
  refine lv_iinc (v := (v2 + 1)) (lv' := [(2, .int (v2 + 1)), (1, .int t7), (0, .ref (κ.1 + v0))]) hx hb dX11_wins_28 hl (k := 2) rfl rfl (by decide) rfl (fun ls hl => ?_)
  refine lv_goto (tgt := 4) hx hb dX11_wins_31 (by decide) ?_
  rw [← Option.some.inj h] at hK
  exact hW4 t7 (v2 + 1) t5.2 hK H locs ls O (lv_sub hl [2, 1, 0] rfl)
set_option maxRecDepth 100000 in
set_option maxHeartbeats 4000000 in
theorem F_X11_wins_4_ok (X : xX p s m args c cX11_wins 3 RX11 κ) (hr : meth.sig.returnType = (some .int)) (hlk : meth.locks = false) {ro : Int32} {mo : xM} (v0 : Nat) (v1 : Int32) (v2 : Int32) (M : xM) (x : Int32 × xM) (h : F_X11_wins_4 v0 v1 v2 M = some x) (hK : (fun o => o = (ro, mo)) x) (H : Heap) (locs : List Loc) (ls : Array Slot) (O : xO κ s M H locs) (hl : lv_has ls 3 [(0, .ref (κ.1 + v0)), (1, .int v1), (2, .int v2)]) : W p l e (xRm 4 0 0) s m args below meth c H locs 0 0 (xQf below args s 0 0 κ (some (.int ro)) mo) (F0 m 4 ls []) := by
  refine xit_K (Wh := fun x => ∀ (H : Heap) (locs : List Loc) (ls : Array Slot), xO κ s x.2.2 H locs → lv_has ls 3 [(0, .ref (κ.1 + v0)), (1, .int x.1), (2, .int x.2.1)] → W p l e (xRm 4 0 0) s m args below meth c H locs 0 0 (xQf below args s 0 0 κ (some (.int ro)) mo) (F0 m 4 ls [])) (Kp := (fun o => o = (ro, mo))) ?_ xFU (v1, v2, M) x h hK H locs ls O hl
  intro y x h hK H locs ls O hl
  exact F_X11_wins_4_bok X hr hlk v0 y.1 y.2.1 (fun _ _ _ hw => hw) y.2.2 x h hK H locs ls O hl
set_option maxRecDepth 100000 in
set_option maxHeartbeats 4000000 in
theorem T_X11_wins (l : Launch) (κ : xQ) (a0 : Nat) (M : xM) (ro : Int32) (mo : xM) (h : F_X11_wins a0 M = some (ro, mo)) : xC l yX11_wins cX11_wins 3 (some .int) 4 0 0 κ [.ref (κ.1 + a0)] M (some (.int ro)) mo := by
  refine xC_of rfl (Nat.le_of_ble_eq_true rfl) fun p e s m args below meth c X hr hlk hnm H locs ls O hl => ?_
  have X : xX p s m args c cX11_wins 3 RX11 κ := X
  have hl : lv_has ls 3 [(0, .ref (κ.1 + a0))] := hl
  have hx := X.1
  have hb := X.2.1
  obtain ⟨x, hx0⟩ : ∃ x, (ro, mo) = x := ⟨_, rfl⟩
  rw [hx0] at h
  have hK : x = (ro, mo) := hx0.symm
  unfold F_X11_wins at h
  refine lv_iconst (v := (0 : Int32)) hx hb dX11_wins_0 (by decide) ?_
  refine lv_istore_n (lv' := [(1, .int (0 : Int32)), (0, .ref (κ.1 + a0))]) hx hb dX11_wins_1 rfl hl (by decide) rfl (fun ls hl => ?_)
  refine lv_iconst (v := (0 : Int32)) hx hb dX11_wins_2 (by decide) ?_
  refine lv_istore_n (lv' := [(2, .int (0 : Int32)), (1, .int (0 : Int32)), (0, .ref (κ.1 + a0))]) hx hb dX11_wins_3 rfl hl (by decide) rfl (fun ls hl => ?_)
  exact F_X11_wins_4_ok X hr hlk a0 (0 : Int32) (0 : Int32) M _ h hK H locs ls O (lv_sub hl [2, 1, 0] rfl)
def F_X11_chance (a0 : Nat) (a1 : Int32) (a2 : Int32) (a3 : Int32) (M : xM) : Option (Int32 × xM) :=
(xck M a0 11).bind fun _ =>
(F_X11_isHouse a0 a1 M).bind fun t2 =>
if t2.1 = 0 then (
some ((-2 : Int32), t2.2))
else (
if a3 < 0 then (
some ((-2 : Int32), t2.2))
else (
if a3 ≤ (1 : Int32) then (
if a2 < 0 then (
some ((-3 : Int32), t2.2))
else (
if a2 ≤ (8 : Int32) then (
(xgP t2.2 a0 11 15).bind fun t3 =>
(xgP t2.2 a0 11 2).bind fun t4 =>
(xgP t2.2 a0 11 3).bind fun t5 =>
(xgP t2.2 a0 11 5).bind fun t6 =>
(xck t2.2 t3 2).bind fun _ =>
(F_X2_weigh t3 t4 t5 t6 a2 t2.2).bind fun t8 =>
(xgP t8 a0 11 15).bind fun t9 =>
(xgP t8 t9 2 0).bind fun t10 =>
(xaJ t8 t10 a1).bind fun t11 =>
(F_X2_lowest t11 a2 a3 t8).bind fun t12 =>
some (t12.1, t12.2))
else (
some ((-3 : Int32), t2.2))))
else (
some ((-2 : Int32), t2.2))))
set_option maxRecDepth 100000 in
set_option maxHeartbeats 4000000 in
theorem T_X11_chance (l : Launch) (κ : xQ) (a0 : Nat) (a1 : Int32) (a2 : Int32) (a3 : Int32) (M : xM) (ro : Int32) (mo : xM) (h : F_X11_chance a0 a1 a2 a3 M = some (ro, mo)) : xC l yX11_chance cX11_chance 4 (some .int) 17 0 0 κ [.ref (κ.1 + a0), .int a1, .int a2, .int a3] M (some (.int ro)) mo := by
  refine xC_of rfl (Nat.le_of_ble_eq_true rfl) fun p e s m args below meth c X hr hlk hnm H locs ls O hl => ?_
  have X : xX p s m args c cX11_chance 4 RX11 κ := X
  have hl : lv_has ls 4 [(0, .ref (κ.1 + a0)), (1, .int a1), (2, .int a2), (3, .int a3)] := hl
  have hx := X.1
  have hb := X.2.1
  obtain ⟨x, hx0⟩ : ∃ x, (ro, mo) = x := ⟨_, rfl⟩
  rw [hx0] at h
  have hK : x = (ro, mo) := hx0.symm
  unfold F_X11_chance at h
  refine lv_aload_n hx hb dX11_chance_0 rfl (lv_at hl 0 rfl) ?_
  refine lv_iload_n hx hb dX11_chance_1 rfl (lv_at hl 1 rfl) ?_
  obtain ⟨_, hut1, h⟩ := Option.bind_eq_some_iff.mp h
  obtain ⟨t2, ht2, h⟩ := Option.bind_eq_some_iff.mp h
  refine xr_callV (rest := []) X O (T_X11_isHouse l κ a0 a1 M _ _ ht2) lk_X11_139 hut1 (Nat.le_of_ble_eq_true rfl) rfl hl.1 rfl (Nat.le_of_ble_eq_true rfl) dX11_chance_2 ⟨Nat.le_of_ble_eq_true rfl, Nat.le_of_ble_eq_true rfl⟩ (fun H locs O => ?_)
  refine W.eq (g2 := F0 m 5 ls [.int t2.1]) rfl ?_
  refine lv_if_eq (tgt := 17) hx hb dX11_chance_5 (by decide) (fun hc5 => ?_) (fun hc5 => ?_)
  · rw [if_pos hc5] at h
    refine lv_bipush (v := (-2 : Int32)) hx hb dX11_chance_17 (by decide) ?_
    rw [← Option.some.inj h] at hK
    have hK : ((-2 : Int32), t2.2) = (ro, mo) := hK
    obtain ⟨hK1, hK2⟩ := Prod.mk.inj hK
    rw [hK2] at O
    refine xr_top (w := .int ro) (by rw [hK1]) ?_
    exact xr_iret X hr hlk O dX11_chance_19
  rw [if_neg hc5] at h
  refine lv_iload_n hx hb dX11_chance_8 rfl (lv_at hl 3 rfl) ?_
  refine lv_if_lt (tgt := 17) hx hb dX11_chance_9 (by decide) (fun hc9 => ?_) (fun hc9 => ?_)
  · rw [if_pos hc9] at h
    refine lv_bipush (v := (-2 : Int32)) hx hb dX11_chance_17 (by decide) ?_
    rw [← Option.some.inj h] at hK
    have hK : ((-2 : Int32), t2.2) = (ro, mo) := hK
    obtain ⟨hK1, hK2⟩ := Prod.mk.inj hK
    rw [hK2] at O
    refine xr_top (w := .int ro) (by rw [hK1]) ?_
    exact xr_iret X hr hlk O dX11_chance_19
  rw [if_neg hc9] at h
  refine lv_iload_n hx hb dX11_chance_12 rfl (lv_at hl 3 rfl) ?_
  refine lv_iconst (v := (1 : Int32)) hx hb dX11_chance_13 (by decide) ?_
  refine lv_icmp_le (tgt := 20) hx hb dX11_chance_14 (by decide) (fun hc14 => ?_) (fun hc14 => ?_)
  · rw [if_pos hc14] at h
    refine lv_iload_n hx hb dX11_chance_20 rfl (lv_at hl 2 rfl) ?_
    refine lv_if_lt (tgt := 30) hx hb dX11_chance_21 (by decide) (fun hc21 => ?_) (fun hc21 => ?_)
    · rw [if_pos hc21] at h
      refine lv_bipush (v := (-3 : Int32)) hx hb dX11_chance_30 (by decide) ?_
      rw [← Option.some.inj h] at hK
      have hK : ((-3 : Int32), t2.2) = (ro, mo) := hK
      obtain ⟨hK1, hK2⟩ := Prod.mk.inj hK
      rw [hK2] at O
      refine xr_top (w := .int ro) (by rw [hK1]) ?_
      exact xr_iret X hr hlk O dX11_chance_32
    rw [if_neg hc21] at h
    refine lv_iload_n hx hb dX11_chance_24 rfl (lv_at hl 2 rfl) ?_
    refine lv_bipush (v := (8 : Int32)) hx hb dX11_chance_25 (by decide) ?_
    refine lv_icmp_le (tgt := 33) hx hb dX11_chance_27 (by decide) (fun hc27 => ?_) (fun hc27 => ?_)
    · rw [if_pos hc27] at h
      refine lv_aload_n hx hb dX11_chance_33 rfl (lv_at hl 0 rfl) ?_
      obtain ⟨t3, ht3, h⟩ := Option.bind_eq_some_iff.mp h
      refine xr_getP X O ht3 fl_X11_94 dX11_chance_34 ?_
      refine lv_aload_n hx hb dX11_chance_37 rfl (lv_at hl 0 rfl) ?_
      obtain ⟨t4, ht4, h⟩ := Option.bind_eq_some_iff.mp h
      refine xr_getP X O ht4 fl_X11_19 dX11_chance_38 ?_
      refine lv_aload_n hx hb dX11_chance_41 rfl (lv_at hl 0 rfl) ?_
      obtain ⟨t5, ht5, h⟩ := Option.bind_eq_some_iff.mp h
      refine xr_getP X O ht5 fl_X11_26 dX11_chance_42 ?_
      refine lv_aload_n hx hb dX11_chance_45 rfl (lv_at hl 0 rfl) ?_
      obtain ⟨t6, ht6, h⟩ := Option.bind_eq_some_iff.mp h
      refine xr_getP X O ht6 fl_X11_36 dX11_chance_46 ?_
      refine lv_iload_n hx hb dX11_chance_49 rfl (lv_at hl 2 rfl) ?_
      obtain ⟨_, hut7, h⟩ := Option.bind_eq_some_iff.mp h
      obtain ⟨t8, ht8, h⟩ := Option.bind_eq_some_iff.mp h
      refine xr_callV (rest := []) X O (T_X2_weigh l κ t3 t4 t5 t6 a2 t2.2 _ ht8) lk_X11_330 hut7 (Nat.le_of_ble_eq_true rfl) rfl hl.1 rfl (Nat.le_of_ble_eq_true rfl) dX11_chance_50 ⟨Nat.le_of_ble_eq_true rfl, Nat.le_of_ble_eq_true rfl⟩ (fun H locs O => ?_)
      refine W.eq (g2 := F0 m 53 ls []) rfl ?_
      refine lv_aload_n hx hb dX11_chance_53 rfl (lv_at hl 0 rfl) ?_
      obtain ⟨t9, ht9, h⟩ := Option.bind_eq_some_iff.mp h
      refine xr_getP X O ht9 fl_X11_94 dX11_chance_54 ?_
      obtain ⟨t10, ht10, h⟩ := Option.bind_eq_some_iff.mp h
      refine xr_getP X O ht10 fl_X11_334 dX11_chance_57 ?_
      refine lv_iload_n hx hb dX11_chance_60 rfl (lv_at hl 1 rfl) ?_
      obtain ⟨t11, ht11, h⟩ := Option.bind_eq_some_iff.mp h
      refine xr_aldJ X O ht11 dX11_chance_61 ?_
      refine lv_iload_n hx hb dX11_chance_62 rfl (lv_at hl 2 rfl) ?_
      refine lv_iload_n hx hb dX11_chance_63 rfl (lv_at hl 3 rfl) ?_
      obtain ⟨t12, ht12, h⟩ := Option.bind_eq_some_iff.mp h
      refine xr_callS (rest := []) X O (T_X2_lowest l κ t11 a2 a3 t8 _ _ ht12) lk_X11_337 (Nat.le_of_ble_eq_true rfl) rfl hl.1 rfl (Nat.le_of_ble_eq_true rfl) dX11_chance_64 ⟨Nat.le_of_ble_eq_true rfl, Nat.le_of_ble_eq_true rfl⟩ (fun H locs O => ?_)
      refine W.eq (g2 := F0 m 67 ls [.int t12.1]) rfl ?_
      rw [← Option.some.inj h] at hK
      have hK : (t12.1, t12.2) = (ro, mo) := hK
      obtain ⟨hK1, hK2⟩ := Prod.mk.inj hK
      rw [hK2] at O
      refine xr_top (w := .int ro) (by rw [hK1]) ?_
      exact xr_iret X hr hlk O dX11_chance_67
    rw [if_neg hc27] at h
    refine lv_bipush (v := (-3 : Int32)) hx hb dX11_chance_30 (by decide) ?_
    rw [← Option.some.inj h] at hK
    have hK : ((-3 : Int32), t2.2) = (ro, mo) := hK
    obtain ⟨hK1, hK2⟩ := Prod.mk.inj hK
    rw [hK2] at O
    refine xr_top (w := .int ro) (by rw [hK1]) ?_
    exact xr_iret X hr hlk O dX11_chance_32
  rw [if_neg hc14] at h
  refine lv_bipush (v := (-2 : Int32)) hx hb dX11_chance_17 (by decide) ?_
  rw [← Option.some.inj h] at hK
  have hK : ((-2 : Int32), t2.2) = (ro, mo) := hK
  obtain ⟨hK1, hK2⟩ := Prod.mk.inj hK
  rw [hK2] at O
  refine xr_top (w := .int ro) (by rw [hK1]) ?_
  exact xr_iret X hr hlk O dX11_chance_19
def F_X11_mean_76 (v1 : Int32) (v2 : Int32) (v3 : Int64) (M : xM) : Option (Int32 × xM) :=
(F_X2_lowest v3 v1 v2 M).bind fun t11 =>
some (t11.1, t11.2)
def F_X11_mean_50b (v0 : Nat) (v1 : Int32) (v2 : Int32) : (Int64 × Int32 × xM) → Option ((Int64 × Int32 × xM) ⊕ (Int32 × xM)) := fun ⟨v3, v5, M⟩ =>
if (6 : Int32) ≤ v5 then (
(F_X11_mean_76 v1 v2 v3 M).map Sum.inr)
else (
(xgP M v0 11 15).bind fun t7 =>
(xgP M t7 2 0).bind fun t8 =>
(xaJ M t8 v5).bind fun t9 =>
(some ((v3 + t9))).bind fun t10 =>
some (.inl (t10, (v5 + 1), M)))
def F_X11_mean_50 (v0 : Nat) (v1 : Int32) (v2 : Int32) (v3 : Int64) (v5 : Int32) (M : xM) : Option (Int32 × xM) := xit (F_X11_mean_50b v0 v1 v2) xFU (v3, v5, M)
def F_X11_mean (a0 : Nat) (a1 : Int32) (a2 : Int32) (M : xM) : Option (Int32 × xM) :=
if a2 < 0 then (
some ((-2 : Int32), M))
else (
if a2 ≤ (1 : Int32) then (
if a1 < 0 then (
some ((-3 : Int32), M))
else (
if a1 ≤ (8 : Int32) then (
(xgP M a0 11 15).bind fun t1 =>
(xgP M a0 11 2).bind fun t2 =>
(xgP M a0 11 3).bind fun t3 =>
(xgP M a0 11 5).bind fun t4 =>
(xck M t1 2).bind fun _ =>
(F_X2_weigh t1 t2 t3 t4 a1 M).bind fun t6 =>
F_X11_mean_50 a0 a1 a2 (0 : Int64) (0 : Int32) t6)
else (
some ((-3 : Int32), M))))
else (
some ((-2 : Int32), M)))
set_option maxRecDepth 100000 in
set_option maxHeartbeats 4000000 in
theorem F_X11_mean_76_ok (X : xX p s m args c cX11_mean 6 RX11 κ) (hr : meth.sig.returnType = (some .int)) (hlk : meth.locks = false) {ro : Int32} {mo : xM} (v1 : Int32) (v2 : Int32) (v3 : Int64) (M : xM) (x : Int32 × xM) (h : F_X11_mean_76 v1 v2 v3 M = some x) (hK : (fun o => o = (ro, mo)) x) (H : Heap) (locs : List Loc) (ls : Array Slot) (O : xO κ s M H locs) (hl : lv_has ls 6 [(1, .int v1), (2, .int v2), (3, .long v3)]) : W p l e (xRm 17 0 0) s m args below meth c H locs 0 0 (xQf below args s 0 0 κ (some (.int ro)) mo) (F0 m 76 ls []) := by
  unfold F_X11_mean_76 at h
  have hx := X.1
  have hb := X.2.1
  refine lv_lload_n hx hb dX11_mean_76 rfl (lv_at hl 2 rfl) ?_
  refine lv_iload_n hx hb dX11_mean_77 rfl (lv_at hl 0 rfl) ?_
  refine lv_iload_n hx hb dX11_mean_78 rfl (lv_at hl 1 rfl) ?_
  obtain ⟨t11, ht11, h⟩ := Option.bind_eq_some_iff.mp h
  refine xr_callS (rest := []) X O (T_X2_lowest l κ v3 v1 v2 M _ _ ht11) lk_X11_337 (Nat.le_of_ble_eq_true rfl) rfl hl.1 rfl (Nat.le_of_ble_eq_true rfl) dX11_mean_79 ⟨Nat.le_of_ble_eq_true rfl, Nat.le_of_ble_eq_true rfl⟩ (fun H locs O => ?_)
  refine W.eq (g2 := F0 m 82 ls [.int t11.1]) rfl ?_
  rw [← Option.some.inj h] at hK
  have hK : (t11.1, t11.2) = (ro, mo) := hK
  obtain ⟨hK1, hK2⟩ := Prod.mk.inj hK
  rw [hK2] at O
  refine xr_top (w := .int ro) (by rw [hK1]) ?_
  exact xr_iret X hr hlk O dX11_mean_82
set_option maxRecDepth 100000 in
set_option maxHeartbeats 4000000 in
theorem F_X11_mean_50_bok (X : xX p s m args c cX11_mean 6 RX11 κ) (hr : meth.sig.returnType = (some .int)) (hlk : meth.locks = false) {ro : Int32} {mo : xM} (v0 : Nat) (v1 : Int32) (v2 : Int32) (v3 : Int64) (v5 : Int32) {W50 : Int64 × Int32 × xM → Prop} (hW50 : ∀ (v3 : Int64) (v5 : Int32) (M : xM), W50 (v3, v5, M) → ∀ (H : Heap) (locs : List Loc) (ls : Array Slot), xO κ s M H locs → lv_has ls 6 [(0, .ref (κ.1 + v0)), (1, .int v1), (2, .int v2), (3, .long v3), (5, .int v5)] → W p l e (xRm 17 0 0) s m args below meth c H locs 0 0 (xQf below args s 0 0 κ (some (.int ro)) mo) (F0 m 50 ls [])) (M : xM) (x : (Int64 × Int32 × xM) ⊕ (Int32 × xM)) (h : F_X11_mean_50b v0 v1 v2 (v3, v5, M) = some x) (hK : (xKl W50 (fun o => o = (ro, mo))) x) (H : Heap) (locs : List Loc) (ls : Array Slot) (O : xO κ s M H locs) (hl : lv_has ls 6 [(0, .ref (κ.1 + v0)), (1, .int v1), (2, .int v2), (3, .long v3), (5, .int v5)]) : W p l e (xRm 17 0 0) s m args below meth c H locs 0 0 (xQf below args s 0 0 κ (some (.int ro)) mo) (F0 m 50 ls []) := by
  unfold F_X11_mean_50b at h
  dsimp only at h
  have hx := X.1
  have hb := X.2.1
  refine lv_iload hx hb dX11_mean_50 (lv_at hl 4 rfl) ?_
  refine lv_bipush (v := (6 : Int32)) hx hb dX11_mean_52 (by decide) ?_
  refine lv_icmp_ge (tgt := 76) hx hb dX11_mean_54 (by decide) (fun hc54 => ?_) (fun hc54 => ?_)
  · rw [if_pos hc54] at h
    obtain ⟨_, hw0, ew0⟩ := Option.map_eq_some_iff.mp h
    rw [← ew0] at hK
    have h := hw0
    exact F_X11_mean_76_ok X hr hlk v1 v2 v3 M _ h hK H locs ls O (lv_sub hl [1, 2, 3] rfl)
  rw [if_neg hc54] at h
  refine lv_lload_n hx hb dX11_mean_57 rfl (lv_at hl 3 rfl) ?_
  refine lv_aload_n hx hb dX11_mean_58 rfl (lv_at hl 0 rfl) ?_
  obtain ⟨t7, ht7, h⟩ := Option.bind_eq_some_iff.mp h
  refine xr_getP X O ht7 fl_X11_94 dX11_mean_59 ?_
  obtain ⟨t8, ht8, h⟩ := Option.bind_eq_some_iff.mp h
  refine xr_getP X O ht8 fl_X11_334 dX11_mean_62 ?_
  refine lv_iload hx hb dX11_mean_65 (lv_at hl 4 rfl) ?_
  obtain ⟨t9, ht9, h⟩ := Option.bind_eq_some_iff.mp h
  refine xr_aldJ X O ht9 dX11_mean_67 ?_
  refine lv_ladd hx hb dX11_mean_68 ?_
  obtain ⟨t10, ht10, h⟩ := Option.bind_eq_some_iff.mp h
  refine xr_top (w := .long t10) (by rw [Option.some.inj ht10]) ?_
  refine lv_lstore_n (lv' := [(3, .long t10), (0, .ref (κ.1 + v0)), (1, .int v1), (2, .int v2), (5, .int v5)]) hx hb dX11_mean_69 rfl hl (by decide) rfl (fun ls hl => ?_)
  refine lv_iinc (v := (v5 + 1)) (lv' := [(5, .int (v5 + 1)), (3, .long t10), (0, .ref (κ.1 + v0)), (1, .int v1), (2, .int v2)]) hx hb dX11_mean_70 hl (k := 4) rfl rfl (by decide) rfl (fun ls hl => ?_)
  refine lv_goto (tgt := 50) hx hb dX11_mean_73 (by decide) ?_
  rw [← Option.some.inj h] at hK
  exact hW50 t10 (v5 + 1) M hK H locs ls O (lv_sub hl [2, 3, 4, 1, 0] rfl)
set_option maxRecDepth 100000 in
set_option maxHeartbeats 4000000 in
theorem F_X11_mean_50_ok (X : xX p s m args c cX11_mean 6 RX11 κ) (hr : meth.sig.returnType = (some .int)) (hlk : meth.locks = false) {ro : Int32} {mo : xM} (v0 : Nat) (v1 : Int32) (v2 : Int32) (v3 : Int64) (v5 : Int32) (M : xM) (x : Int32 × xM) (h : F_X11_mean_50 v0 v1 v2 v3 v5 M = some x) (hK : (fun o => o = (ro, mo)) x) (H : Heap) (locs : List Loc) (ls : Array Slot) (O : xO κ s M H locs) (hl : lv_has ls 6 [(0, .ref (κ.1 + v0)), (1, .int v1), (2, .int v2), (3, .long v3), (5, .int v5)]) : W p l e (xRm 17 0 0) s m args below meth c H locs 0 0 (xQf below args s 0 0 κ (some (.int ro)) mo) (F0 m 50 ls []) := by
  refine xit_K (Wh := fun x => ∀ (H : Heap) (locs : List Loc) (ls : Array Slot), xO κ s x.2.2 H locs → lv_has ls 6 [(0, .ref (κ.1 + v0)), (1, .int v1), (2, .int v2), (3, .long x.1), (5, .int x.2.1)] → W p l e (xRm 17 0 0) s m args below meth c H locs 0 0 (xQf below args s 0 0 κ (some (.int ro)) mo) (F0 m 50 ls [])) (Kp := (fun o => o = (ro, mo))) ?_ xFU (v3, v5, M) x h hK H locs ls O hl
  intro y x h hK H locs ls O hl
  exact F_X11_mean_50_bok X hr hlk v0 v1 v2 y.1 y.2.1 (fun _ _ _ hw => hw) y.2.2 x h hK H locs ls O hl
set_option maxRecDepth 100000 in
set_option maxHeartbeats 4000000 in
theorem T_X11_mean (l : Launch) (κ : xQ) (a0 : Nat) (a1 : Int32) (a2 : Int32) (M : xM) (ro : Int32) (mo : xM) (h : F_X11_mean a0 a1 a2 M = some (ro, mo)) : xC l yX11_mean cX11_mean 6 (some .int) 17 0 0 κ [.ref (κ.1 + a0), .int a1, .int a2] M (some (.int ro)) mo := by
  refine xC_of rfl (Nat.le_of_ble_eq_true rfl) fun p e s m args below meth c X hr hlk hnm H locs ls O hl => ?_
  have X : xX p s m args c cX11_mean 6 RX11 κ := X
  have hl : lv_has ls 6 [(0, .ref (κ.1 + a0)), (1, .int a1), (2, .int a2)] := hl
  have hx := X.1
  have hb := X.2.1
  obtain ⟨x, hx0⟩ : ∃ x, (ro, mo) = x := ⟨_, rfl⟩
  rw [hx0] at h
  have hK : x = (ro, mo) := hx0.symm
  unfold F_X11_mean at h
  refine lv_iload_n hx hb dX11_mean_0 rfl (lv_at hl 2 rfl) ?_
  refine lv_if_lt (tgt := 9) hx hb dX11_mean_1 (by decide) (fun hc1 => ?_) (fun hc1 => ?_)
  · rw [if_pos hc1] at h
    refine lv_bipush (v := (-2 : Int32)) hx hb dX11_mean_9 (by decide) ?_
    rw [← Option.some.inj h] at hK
    have hK : ((-2 : Int32), M) = (ro, mo) := hK
    obtain ⟨hK1, hK2⟩ := Prod.mk.inj hK
    rw [hK2] at O
    refine xr_top (w := .int ro) (by rw [hK1]) ?_
    exact xr_iret X hr hlk O dX11_mean_11
  rw [if_neg hc1] at h
  refine lv_iload_n hx hb dX11_mean_4 rfl (lv_at hl 2 rfl) ?_
  refine lv_iconst (v := (1 : Int32)) hx hb dX11_mean_5 (by decide) ?_
  refine lv_icmp_le (tgt := 12) hx hb dX11_mean_6 (by decide) (fun hc6 => ?_) (fun hc6 => ?_)
  · rw [if_pos hc6] at h
    refine lv_iload_n hx hb dX11_mean_12 rfl (lv_at hl 1 rfl) ?_
    refine lv_if_lt (tgt := 22) hx hb dX11_mean_13 (by decide) (fun hc13 => ?_) (fun hc13 => ?_)
    · rw [if_pos hc13] at h
      refine lv_bipush (v := (-3 : Int32)) hx hb dX11_mean_22 (by decide) ?_
      rw [← Option.some.inj h] at hK
      have hK : ((-3 : Int32), M) = (ro, mo) := hK
      obtain ⟨hK1, hK2⟩ := Prod.mk.inj hK
      rw [hK2] at O
      refine xr_top (w := .int ro) (by rw [hK1]) ?_
      exact xr_iret X hr hlk O dX11_mean_24
    rw [if_neg hc13] at h
    refine lv_iload_n hx hb dX11_mean_16 rfl (lv_at hl 1 rfl) ?_
    refine lv_bipush (v := (8 : Int32)) hx hb dX11_mean_17 (by decide) ?_
    refine lv_icmp_le (tgt := 25) hx hb dX11_mean_19 (by decide) (fun hc19 => ?_) (fun hc19 => ?_)
    · rw [if_pos hc19] at h
      refine lv_aload_n hx hb dX11_mean_25 rfl (lv_at hl 0 rfl) ?_
      obtain ⟨t1, ht1, h⟩ := Option.bind_eq_some_iff.mp h
      refine xr_getP X O ht1 fl_X11_94 dX11_mean_26 ?_
      refine lv_aload_n hx hb dX11_mean_29 rfl (lv_at hl 0 rfl) ?_
      obtain ⟨t2, ht2, h⟩ := Option.bind_eq_some_iff.mp h
      refine xr_getP X O ht2 fl_X11_19 dX11_mean_30 ?_
      refine lv_aload_n hx hb dX11_mean_33 rfl (lv_at hl 0 rfl) ?_
      obtain ⟨t3, ht3, h⟩ := Option.bind_eq_some_iff.mp h
      refine xr_getP X O ht3 fl_X11_26 dX11_mean_34 ?_
      refine lv_aload_n hx hb dX11_mean_37 rfl (lv_at hl 0 rfl) ?_
      obtain ⟨t4, ht4, h⟩ := Option.bind_eq_some_iff.mp h
      refine xr_getP X O ht4 fl_X11_36 dX11_mean_38 ?_
      refine lv_iload_n hx hb dX11_mean_41 rfl (lv_at hl 1 rfl) ?_
      obtain ⟨_, hut5, h⟩ := Option.bind_eq_some_iff.mp h
      obtain ⟨t6, ht6, h⟩ := Option.bind_eq_some_iff.mp h
      refine xr_callV (rest := []) X O (T_X2_weigh l κ t1 t2 t3 t4 a1 M _ ht6) lk_X11_330 hut5 (Nat.le_of_ble_eq_true rfl) rfl hl.1 rfl (Nat.le_of_ble_eq_true rfl) dX11_mean_42 ⟨Nat.le_of_ble_eq_true rfl, Nat.le_of_ble_eq_true rfl⟩ (fun H locs O => ?_)
      refine W.eq (g2 := F0 m 45 ls []) rfl ?_
      refine lv_lconst (v := (0 : Int64)) hx hb dX11_mean_45 (by decide) ?_
      refine lv_lstore_n (lv' := [(3, .long (0 : Int64)), (0, .ref (κ.1 + a0)), (1, .int a1), (2, .int a2)]) hx hb dX11_mean_46 rfl hl (by decide) rfl (fun ls hl => ?_)
      refine lv_iconst (v := (0 : Int32)) hx hb dX11_mean_47 (by decide) ?_
      refine lv_istore (lv' := [(5, .int (0 : Int32)), (3, .long (0 : Int64)), (0, .ref (κ.1 + a0)), (1, .int a1), (2, .int a2)]) hx hb dX11_mean_48 hl (by decide) rfl (fun ls hl => ?_)
      exact F_X11_mean_50_ok X hr hlk a0 a1 a2 (0 : Int64) (0 : Int32) t6 _ h hK H locs ls O (lv_sub hl [2, 3, 4, 1, 0] rfl)
    rw [if_neg hc19] at h
    refine lv_bipush (v := (-3 : Int32)) hx hb dX11_mean_22 (by decide) ?_
    rw [← Option.some.inj h] at hK
    have hK : ((-3 : Int32), M) = (ro, mo) := hK
    obtain ⟨hK1, hK2⟩ := Prod.mk.inj hK
    rw [hK2] at O
    refine xr_top (w := .int ro) (by rw [hK1]) ?_
    exact xr_iret X hr hlk O dX11_mean_24
  rw [if_neg hc6] at h
  refine lv_bipush (v := (-2 : Int32)) hx hb dX11_mean_9 (by decide) ?_
  rw [← Option.some.inj h] at hK
  have hK : ((-2 : Int32), M) = (ro, mo) := hK
  obtain ⟨hK1, hK2⟩ := Prod.mk.inj hK
  rw [hK2] at O
  refine xr_top (w := .int ro) (by rw [hK1]) ?_
  exact xr_iret X hr hlk O dX11_mean_11
def F_X11_numbers (a0 : Nat) (a1 : Int32) (a2 : Int32) (a3 : Int32) (M : xM) : Option (Int32 × xM) :=
(F_X11_isTray a1 M).bind fun t1 =>
if t1.1 = 0 then (
some ((-2 : Int32), t1.2))
else (
if a2 < 0 then (
some ((-2 : Int32), t1.2))
else (
if a2 ≤ (3 : Int32) then (
if a3 < 0 then (
some ((-3 : Int32), t1.2))
else (
if a3 ≤ (40 : Int32) then (
(xgP t1.2 a0 11 7).bind fun t2 =>
(xaP t1.2 40 t2 a1).bind fun t3 =>
(xck t1.2 t3 10).bind fun _ =>
(F_X10_lay t3 a2 a3 t1.2).bind fun t5 =>
some ((0 : Int32), t5))
else (
some ((-3 : Int32), t1.2))))
else (
some ((-2 : Int32), t1.2))))
set_option maxRecDepth 100000 in
set_option maxHeartbeats 4000000 in
theorem T_X11_numbers (l : Launch) (κ : xQ) (a0 : Nat) (a1 : Int32) (a2 : Int32) (a3 : Int32) (M : xM) (ro : Int32) (mo : xM) (h : F_X11_numbers a0 a1 a2 a3 M = some (ro, mo)) : xC l yX11_numbers cX11_numbers 4 (some .int) 4 0 0 κ [.ref (κ.1 + a0), .int a1, .int a2, .int a3] M (some (.int ro)) mo := by
  refine xC_of rfl (Nat.le_of_ble_eq_true rfl) fun p e s m args below meth c X hr hlk hnm H locs ls O hl => ?_
  have X : xX p s m args c cX11_numbers 4 RX11 κ := X
  have hl : lv_has ls 4 [(0, .ref (κ.1 + a0)), (1, .int a1), (2, .int a2), (3, .int a3)] := hl
  have hx := X.1
  have hb := X.2.1
  obtain ⟨x, hx0⟩ : ∃ x, (ro, mo) = x := ⟨_, rfl⟩
  rw [hx0] at h
  have hK : x = (ro, mo) := hx0.symm
  unfold F_X11_numbers at h
  refine lv_iload_n hx hb dX11_numbers_0 rfl (lv_at hl 1 rfl) ?_
  obtain ⟨t1, ht1, h⟩ := Option.bind_eq_some_iff.mp h
  refine xr_callS (rest := []) X O (T_X11_isTray l κ a1 M _ _ ht1) lk_X11_341 (Nat.le_of_ble_eq_true rfl) rfl hl.1 rfl (Nat.le_of_ble_eq_true rfl) dX11_numbers_1 ⟨Nat.le_of_ble_eq_true rfl, Nat.le_of_ble_eq_true rfl⟩ (fun H locs O => ?_)
  refine W.eq (g2 := F0 m 4 ls [.int t1.1]) rfl ?_
  refine lv_if_eq (tgt := 16) hx hb dX11_numbers_4 (by decide) (fun hc4 => ?_) (fun hc4 => ?_)
  · rw [if_pos hc4] at h
    refine lv_bipush (v := (-2 : Int32)) hx hb dX11_numbers_16 (by decide) ?_
    rw [← Option.some.inj h] at hK
    have hK : ((-2 : Int32), t1.2) = (ro, mo) := hK
    obtain ⟨hK1, hK2⟩ := Prod.mk.inj hK
    rw [hK2] at O
    refine xr_top (w := .int ro) (by rw [hK1]) ?_
    exact xr_iret X hr hlk O dX11_numbers_18
  rw [if_neg hc4] at h
  refine lv_iload_n hx hb dX11_numbers_7 rfl (lv_at hl 2 rfl) ?_
  refine lv_if_lt (tgt := 16) hx hb dX11_numbers_8 (by decide) (fun hc8 => ?_) (fun hc8 => ?_)
  · rw [if_pos hc8] at h
    refine lv_bipush (v := (-2 : Int32)) hx hb dX11_numbers_16 (by decide) ?_
    rw [← Option.some.inj h] at hK
    have hK : ((-2 : Int32), t1.2) = (ro, mo) := hK
    obtain ⟨hK1, hK2⟩ := Prod.mk.inj hK
    rw [hK2] at O
    refine xr_top (w := .int ro) (by rw [hK1]) ?_
    exact xr_iret X hr hlk O dX11_numbers_18
  rw [if_neg hc8] at h
  refine lv_iload_n hx hb dX11_numbers_11 rfl (lv_at hl 2 rfl) ?_
  refine lv_iconst (v := (3 : Int32)) hx hb dX11_numbers_12 (by decide) ?_
  refine lv_icmp_le (tgt := 19) hx hb dX11_numbers_13 (by decide) (fun hc13 => ?_) (fun hc13 => ?_)
  · rw [if_pos hc13] at h
    refine lv_iload_n hx hb dX11_numbers_19 rfl (lv_at hl 3 rfl) ?_
    refine lv_if_lt (tgt := 29) hx hb dX11_numbers_20 (by decide) (fun hc20 => ?_) (fun hc20 => ?_)
    · rw [if_pos hc20] at h
      refine lv_bipush (v := (-3 : Int32)) hx hb dX11_numbers_29 (by decide) ?_
      rw [← Option.some.inj h] at hK
      have hK : ((-3 : Int32), t1.2) = (ro, mo) := hK
      obtain ⟨hK1, hK2⟩ := Prod.mk.inj hK
      rw [hK2] at O
      refine xr_top (w := .int ro) (by rw [hK1]) ?_
      exact xr_iret X hr hlk O dX11_numbers_31
    rw [if_neg hc20] at h
    refine lv_iload_n hx hb dX11_numbers_23 rfl (lv_at hl 3 rfl) ?_
    refine lv_bipush (v := (40 : Int32)) hx hb dX11_numbers_24 (by decide) ?_
    refine lv_icmp_le (tgt := 32) hx hb dX11_numbers_26 (by decide) (fun hc26 => ?_) (fun hc26 => ?_)
    · rw [if_pos hc26] at h
      refine lv_aload_n hx hb dX11_numbers_32 rfl (lv_at hl 0 rfl) ?_
      obtain ⟨t2, ht2, h⟩ := Option.bind_eq_some_iff.mp h
      refine xr_getP X O ht2 fl_X11_49 dX11_numbers_33 ?_
      refine lv_iload_n hx hb dX11_numbers_36 rfl (lv_at hl 1 rfl) ?_
      obtain ⟨t3, ht3, h⟩ := Option.bind_eq_some_iff.mp h
      refine xr_aldP (t0 := 6) (C := RX10) X O ht3 (by simp [xRk]) dX11_numbers_37 ?_
      refine lv_iload_n hx hb dX11_numbers_38 rfl (lv_at hl 2 rfl) ?_
      refine lv_iload_n hx hb dX11_numbers_39 rfl (lv_at hl 3 rfl) ?_
      obtain ⟨_, hut4, h⟩ := Option.bind_eq_some_iff.mp h
      obtain ⟨t5, ht5, h⟩ := Option.bind_eq_some_iff.mp h
      refine xr_callV (rest := []) X O (T_X10_lay l κ t3 a2 a3 t1.2 _ ht5) lk_X11_344 hut4 (Nat.le_of_ble_eq_true rfl) rfl hl.1 rfl (Nat.le_of_ble_eq_true rfl) dX11_numbers_40 ⟨Nat.le_of_ble_eq_true rfl, Nat.le_of_ble_eq_true rfl⟩ (fun H locs O => ?_)
      refine W.eq (g2 := F0 m 43 ls []) rfl ?_
      refine lv_iconst (v := (0 : Int32)) hx hb dX11_numbers_43 (by decide) ?_
      rw [← Option.some.inj h] at hK
      have hK : ((0 : Int32), t5) = (ro, mo) := hK
      obtain ⟨hK1, hK2⟩ := Prod.mk.inj hK
      rw [hK2] at O
      refine xr_top (w := .int ro) (by rw [hK1]) ?_
      exact xr_iret X hr hlk O dX11_numbers_44
    rw [if_neg hc26] at h
    refine lv_bipush (v := (-3 : Int32)) hx hb dX11_numbers_29 (by decide) ?_
    rw [← Option.some.inj h] at hK
    have hK : ((-3 : Int32), t1.2) = (ro, mo) := hK
    obtain ⟨hK1, hK2⟩ := Prod.mk.inj hK
    rw [hK2] at O
    refine xr_top (w := .int ro) (by rw [hK1]) ?_
    exact xr_iret X hr hlk O dX11_numbers_31
  rw [if_neg hc13] at h
  refine lv_bipush (v := (-2 : Int32)) hx hb dX11_numbers_16 (by decide) ?_
  rw [← Option.some.inj h] at hK
  have hK : ((-2 : Int32), t1.2) = (ro, mo) := hK
  obtain ⟨hK1, hK2⟩ := Prod.mk.inj hK
  rw [hK2] at O
  refine xr_top (w := .int ro) (by rw [hK1]) ?_
  exact xr_iret X hr hlk O dX11_numbers_18
def F_X11_write (a0 : Nat) (a1 : Int32) (a2 : Int32) (a3 : Int64) (M : xM) : Option (Int64 × xM) :=
(xck M a0 11).bind fun _ =>
(F_X11_refusedTray a0 a1 M).bind fun t2 =>
if t2.1 = 0 then (
if a2 < 0 then (
some ((-7 : Int64), t2.2))
else (
(xgP t2.2 a0 11 7).bind fun t3 =>
(xaP t2.2 40 t3 a1).bind fun t4 =>
(xgI t2.2 t4 10 0).bind fun t5 =>
if a2 < t5 then (
(xgP t2.2 a0 11 7).bind fun t6 =>
(xaP t2.2 40 t6 a1).bind fun t7 =>
(xck t2.2 t7 10).bind fun _ =>
(F_X10_put t7 a2 a3 t2.2).bind fun t9 =>
some (t9.1, t9.2))
else (
some ((-7 : Int64), t2.2))))
else (
some (t2.1.toInt64, t2.2))
set_option maxRecDepth 100000 in
set_option maxHeartbeats 4000000 in
theorem T_X11_write (l : Launch) (κ : xQ) (a0 : Nat) (a1 : Int32) (a2 : Int32) (a3 : Int64) (M : xM) (ro : Int64) (mo : xM) (h : F_X11_write a0 a1 a2 a3 M = some (ro, mo)) : xC l yX11_write cX11_write 6 (some .long) 4 0 0 κ [.ref (κ.1 + a0), .int a1, .int a2, .long a3] M (some (.long ro)) mo := by
  refine xC_of rfl (Nat.le_of_ble_eq_true rfl) fun p e s m args below meth c X hr hlk hnm H locs ls O hl => ?_
  have X : xX p s m args c cX11_write 6 RX11 κ := X
  have hl : lv_has ls 6 [(0, .ref (κ.1 + a0)), (1, .int a1), (2, .int a2), (3, .long a3)] := hl
  have hx := X.1
  have hb := X.2.1
  obtain ⟨x, hx0⟩ : ∃ x, (ro, mo) = x := ⟨_, rfl⟩
  rw [hx0] at h
  have hK : x = (ro, mo) := hx0.symm
  unfold F_X11_write at h
  refine lv_aload_n hx hb dX11_write_0 rfl (lv_at hl 0 rfl) ?_
  refine lv_iload_n hx hb dX11_write_1 rfl (lv_at hl 1 rfl) ?_
  obtain ⟨_, hut1, h⟩ := Option.bind_eq_some_iff.mp h
  obtain ⟨t2, ht2, h⟩ := Option.bind_eq_some_iff.mp h
  refine xr_callV (rest := []) X O (T_X11_refusedTray l κ a0 a1 M _ _ ht2) lk_X11_225 hut1 (Nat.le_of_ble_eq_true rfl) rfl hl.1 rfl (Nat.le_of_ble_eq_true rfl) dX11_write_2 ⟨Nat.le_of_ble_eq_true rfl, Nat.le_of_ble_eq_true rfl⟩ (fun H locs O => ?_)
  refine W.eq (g2 := F0 m 5 ls [.int t2.1]) rfl ?_
  refine lv_istore (lv' := [(5, .int t2.1), (0, .ref (κ.1 + a0)), (1, .int a1), (2, .int a2), (3, .long a3)]) hx hb dX11_write_5 hl (by decide) rfl (fun ls hl => ?_)
  refine lv_iload hx hb dX11_write_7 (lv_at hl 0 rfl) ?_
  refine lv_if_eq (tgt := 16) hx hb dX11_write_9 (by decide) (fun hc9 => ?_) (fun hc9 => ?_)
  · rw [if_pos hc9] at h
    refine lv_iload_n hx hb dX11_write_16 rfl (lv_at hl 3 rfl) ?_
    refine lv_if_lt (tgt := 33) hx hb dX11_write_17 (by decide) (fun hc17 => ?_) (fun hc17 => ?_)
    · rw [if_pos hc17] at h
      refine lv_ldc2 (v := (-7 : Int64)) hx hb X.2.2.2.1 (X.2.2.2.2.1 _ ct_X11_348) dX11_write_33 ?_
      rw [← Option.some.inj h] at hK
      have hK : ((-7 : Int64), t2.2) = (ro, mo) := hK
      obtain ⟨hK1, hK2⟩ := Prod.mk.inj hK
      rw [hK2] at O
      refine xr_top (w := .long ro) (by rw [hK1]) ?_
      exact xr_lret X hr hlk O dX11_write_36
    rw [if_neg hc17] at h
    refine lv_iload_n hx hb dX11_write_20 rfl (lv_at hl 3 rfl) ?_
    refine lv_aload_n hx hb dX11_write_21 rfl (lv_at hl 1 rfl) ?_
    obtain ⟨t3, ht3, h⟩ := Option.bind_eq_some_iff.mp h
    refine xr_getP X O ht3 fl_X11_49 dX11_write_22 ?_
    refine lv_iload_n hx hb dX11_write_25 rfl (lv_at hl 2 rfl) ?_
    obtain ⟨t4, ht4, h⟩ := Option.bind_eq_some_iff.mp h
    refine xr_aldP (t0 := 6) (C := RX10) X O ht4 (by simp [xRk]) dX11_write_26 ?_
    obtain ⟨t5, ht5, h⟩ := Option.bind_eq_some_iff.mp h
    refine xr_getI X O ht5 fl_X11_232 (Or.inl rfl) dX11_write_27 ?_
    refine lv_icmp_lt (tgt := 37) hx hb dX11_write_30 (by decide) (fun hc30 => ?_) (fun hc30 => ?_)
    · rw [if_pos hc30] at h
      refine lv_aload_n hx hb dX11_write_37 rfl (lv_at hl 1 rfl) ?_
      obtain ⟨t6, ht6, h⟩ := Option.bind_eq_some_iff.mp h
      refine xr_getP X O ht6 fl_X11_49 dX11_write_38 ?_
      refine lv_iload_n hx hb dX11_write_41 rfl (lv_at hl 2 rfl) ?_
      obtain ⟨t7, ht7, h⟩ := Option.bind_eq_some_iff.mp h
      refine xr_aldP (t0 := 6) (C := RX10) X O ht7 (by simp [xRk]) dX11_write_42 ?_
      refine lv_iload_n hx hb dX11_write_43 rfl (lv_at hl 3 rfl) ?_
      refine lv_lload_n hx hb dX11_write_44 rfl (lv_at hl 4 rfl) ?_
      obtain ⟨_, hut8, h⟩ := Option.bind_eq_some_iff.mp h
      obtain ⟨t9, ht9, h⟩ := Option.bind_eq_some_iff.mp h
      refine xr_callV (rest := []) X O (T_X10_put l κ t7 a2 a3 t2.2 _ _ ht9) lk_X11_350 hut8 (Nat.le_of_ble_eq_true rfl) rfl hl.1 rfl (Nat.le_of_ble_eq_true rfl) dX11_write_45 ⟨Nat.le_of_ble_eq_true rfl, Nat.le_of_ble_eq_true rfl⟩ (fun H locs O => ?_)
      refine W.eq (g2 := F0 m 48 ls [.long t9.1]) rfl ?_
      rw [← Option.some.inj h] at hK
      have hK : (t9.1, t9.2) = (ro, mo) := hK
      obtain ⟨hK1, hK2⟩ := Prod.mk.inj hK
      rw [hK2] at O
      refine xr_top (w := .long ro) (by rw [hK1]) ?_
      exact xr_lret X hr hlk O dX11_write_48
    rw [if_neg hc30] at h
    refine lv_ldc2 (v := (-7 : Int64)) hx hb X.2.2.2.1 (X.2.2.2.2.1 _ ct_X11_348) dX11_write_33 ?_
    rw [← Option.some.inj h] at hK
    have hK : ((-7 : Int64), t2.2) = (ro, mo) := hK
    obtain ⟨hK1, hK2⟩ := Prod.mk.inj hK
    rw [hK2] at O
    refine xr_top (w := .long ro) (by rw [hK1]) ?_
    exact xr_lret X hr hlk O dX11_write_36
  rw [if_neg hc9] at h
  refine lv_iload hx hb dX11_write_12 (lv_at hl 0 rfl) ?_
  refine lv_i2l (v := t2.1.toInt64) hx hb dX11_write_14 rfl ?_
  rw [← Option.some.inj h] at hK
  have hK : (t2.1.toInt64, t2.2) = (ro, mo) := hK
  obtain ⟨hK1, hK2⟩ := Prod.mk.inj hK
  rw [hK2] at O
  refine xr_top (w := .long ro) (by rw [hK1]) ?_
  exact xr_lret X hr hlk O dX11_write_15
def F_X11_lists_70 (v3 : Int32) (M : xM) : Option (Int32 × xM) :=
some (v3, M)
def F_X11_lists_35b (v0 : Nat) (v1 : Int32) (v3 : Int32) : (Int32 × xM) → Option ((Int32 × xM) ⊕ (Int32 × xM)) := fun ⟨v4, M⟩ =>
if v3 ≤ v4 then (
(F_X11_lists_70 v3 M).map Sum.inr)
else (
(xgP M v0 11 7).bind fun t10 =>
(xaP M 40 t10 v1).bind fun t11 =>
(xgP M v0 11 3).bind fun t12 =>
(xgP M t12 0 0).bind fun t13 =>
(xaI M 20 t13 v4).bind fun t14 =>
(xck M t11 10).bind fun _ =>
(F_X10_put t11 v4 t14.toInt64 M).bind fun t16 =>
some (.inl ((v4 + 1), t16.2)))
def F_X11_lists_35 (v0 : Nat) (v1 : Int32) (v3 : Int32) (v4 : Int32) (M : xM) : Option (Int32 × xM) := xit (F_X11_lists_35b v0 v1 v3) xFU (v4, M)
def F_X11_lists (a0 : Nat) (a1 : Int32) (M : xM) : Option (Int32 × xM) :=
(xck M a0 11).bind fun _ =>
(F_X11_refusedTray a0 a1 M).bind fun t2 =>
if t2.1 = 0 then (
(xgP t2.2 a0 11 7).bind fun t3 =>
(xaP t2.2 40 t3 a1).bind fun t4 =>
(xgI t2.2 t4 10 0).bind fun t5 =>
(xgP t2.2 a0 11 2).bind fun t6 =>
(xck t2.2 t6 3).bind fun _ =>
(F_X3_cells t6 t2.2).bind fun t8 =>
(F_J9_min_7cf53 t5 t8.1 t8.2).bind fun t9 =>
F_X11_lists_35 a0 a1 t9.1 (0 : Int32) t9.2)
else (
some (t2.1, t2.2))
set_option maxRecDepth 100000 in
set_option maxHeartbeats 4000000 in
theorem F_X11_lists_70_ok (X : xX p s m args c cX11_lists 5 RX11 κ) (hr : meth.sig.returnType = (some .int)) (hlk : meth.locks = false) {ro : Int32} {mo : xM} (v3 : Int32) (M : xM) (x : Int32 × xM) (h : F_X11_lists_70 v3 M = some x) (hK : (fun o => o = (ro, mo)) x) (H : Heap) (locs : List Loc) (ls : Array Slot) (O : xO κ s M H locs) (hl : lv_has ls 5 [(3, .int v3)]) : W p l e (xRm 4 0 0) s m args below meth c H locs 0 0 (xQf below args s 0 0 κ (some (.int ro)) mo) (F0 m 70 ls []) := by
  unfold F_X11_lists_70 at h
  have hx := X.1
  have hb := X.2.1
  refine lv_iload_n hx hb dX11_lists_70 rfl (lv_at hl 0 rfl) ?_
  rw [← Option.some.inj h] at hK
  have hK : (v3, M) = (ro, mo) := hK
  obtain ⟨hK1, hK2⟩ := Prod.mk.inj hK
  rw [hK2] at O
  refine xr_top (w := .int ro) (by rw [hK1]) ?_
  exact xr_iret X hr hlk O dX11_lists_71
set_option maxRecDepth 100000 in
set_option maxHeartbeats 4000000 in
theorem F_X11_lists_35_bok (X : xX p s m args c cX11_lists 5 RX11 κ) (hr : meth.sig.returnType = (some .int)) (hlk : meth.locks = false) {ro : Int32} {mo : xM} (v0 : Nat) (v1 : Int32) (v3 : Int32) (v4 : Int32) {W35 : Int32 × xM → Prop} (hW35 : ∀ (v4 : Int32) (M : xM), W35 (v4, M) → ∀ (H : Heap) (locs : List Loc) (ls : Array Slot), xO κ s M H locs → lv_has ls 5 [(0, .ref (κ.1 + v0)), (1, .int v1), (3, .int v3), (4, .int v4)] → W p l e (xRm 4 0 0) s m args below meth c H locs 0 0 (xQf below args s 0 0 κ (some (.int ro)) mo) (F0 m 35 ls [])) (M : xM) (x : (Int32 × xM) ⊕ (Int32 × xM)) (h : F_X11_lists_35b v0 v1 v3 (v4, M) = some x) (hK : (xKl W35 (fun o => o = (ro, mo))) x) (H : Heap) (locs : List Loc) (ls : Array Slot) (O : xO κ s M H locs) (hl : lv_has ls 5 [(0, .ref (κ.1 + v0)), (1, .int v1), (3, .int v3), (4, .int v4)]) : W p l e (xRm 4 0 0) s m args below meth c H locs 0 0 (xQf below args s 0 0 κ (some (.int ro)) mo) (F0 m 35 ls []) := by
  unfold F_X11_lists_35b at h
  dsimp only at h
  have hx := X.1
  have hb := X.2.1
  refine lv_iload hx hb dX11_lists_35 (lv_at hl 3 rfl) ?_
  refine lv_iload_n hx hb dX11_lists_37 rfl (lv_at hl 2 rfl) ?_
  refine lv_icmp_ge (tgt := 70) hx hb dX11_lists_38 (by decide) (fun hc38 => ?_) (fun hc38 => ?_)
  · rw [if_pos hc38] at h
    obtain ⟨_, hw0, ew0⟩ := Option.map_eq_some_iff.mp h
    rw [← ew0] at hK
    have h := hw0
    exact F_X11_lists_70_ok X hr hlk v3 M _ h hK H locs ls O (lv_sub hl [2] rfl)
  rw [if_neg hc38] at h
  refine lv_aload_n hx hb dX11_lists_41 rfl (lv_at hl 0 rfl) ?_
  obtain ⟨t10, ht10, h⟩ := Option.bind_eq_some_iff.mp h
  refine xr_getP X O ht10 fl_X11_49 dX11_lists_42 ?_
  refine lv_iload_n hx hb dX11_lists_45 rfl (lv_at hl 1 rfl) ?_
  obtain ⟨t11, ht11, h⟩ := Option.bind_eq_some_iff.mp h
  refine xr_aldP (t0 := 6) (C := RX10) X O ht11 (by simp [xRk]) dX11_lists_46 ?_
  refine lv_iload hx hb dX11_lists_47 (lv_at hl 3 rfl) ?_
  refine lv_aload_n hx hb dX11_lists_49 rfl (lv_at hl 0 rfl) ?_
  obtain ⟨t12, ht12, h⟩ := Option.bind_eq_some_iff.mp h
  refine xr_getP X O ht12 fl_X11_26 dX11_lists_50 ?_
  obtain ⟨t13, ht13, h⟩ := Option.bind_eq_some_iff.mp h
  refine xr_getP X O ht13 fl_X11_136 dX11_lists_53 ?_
  refine lv_iload hx hb dX11_lists_56 (lv_at hl 3 rfl) ?_
  obtain ⟨t14, ht14, h⟩ := Option.bind_eq_some_iff.mp h
  refine xr_aldI X O ht14 dX11_lists_58 ?_
  refine lv_i2l (v := t14.toInt64) hx hb dX11_lists_59 rfl ?_
  obtain ⟨_, hut15, h⟩ := Option.bind_eq_some_iff.mp h
  obtain ⟨t16, ht16, h⟩ := Option.bind_eq_some_iff.mp h
  refine xr_callV (rest := []) X O (T_X10_put l κ t11 v4 t14.toInt64 M _ _ ht16) lk_X11_350 hut15 (Nat.le_of_ble_eq_true rfl) rfl hl.1 rfl (Nat.le_of_ble_eq_true rfl) dX11_lists_60 ⟨Nat.le_of_ble_eq_true rfl, Nat.le_of_ble_eq_true rfl⟩ (fun H locs O => ?_)
  refine W.eq (g2 := F0 m 63 ls [.long t16.1]) rfl ?_
  refine lv_pop2_2 hx hb dX11_lists_63 rfl ?_
  refine lv_iinc (v := (v4 + 1)) (lv' := [(4, .int (v4 + 1)), (0, .ref (κ.1 + v0)), (1, .int v1), (3, .int v3)]) hx hb dX11_lists_64 hl (k := 3) rfl rfl (by decide) rfl (fun ls hl => ?_)
  refine lv_goto (tgt := 35) hx hb dX11_lists_67 (by decide) ?_
  rw [← Option.some.inj h] at hK
  exact hW35 (v4 + 1) t16.2 hK H locs ls O (lv_sub hl [1, 2, 3, 0] rfl)
set_option maxRecDepth 100000 in
set_option maxHeartbeats 4000000 in
theorem F_X11_lists_35_ok (X : xX p s m args c cX11_lists 5 RX11 κ) (hr : meth.sig.returnType = (some .int)) (hlk : meth.locks = false) {ro : Int32} {mo : xM} (v0 : Nat) (v1 : Int32) (v3 : Int32) (v4 : Int32) (M : xM) (x : Int32 × xM) (h : F_X11_lists_35 v0 v1 v3 v4 M = some x) (hK : (fun o => o = (ro, mo)) x) (H : Heap) (locs : List Loc) (ls : Array Slot) (O : xO κ s M H locs) (hl : lv_has ls 5 [(0, .ref (κ.1 + v0)), (1, .int v1), (3, .int v3), (4, .int v4)]) : W p l e (xRm 4 0 0) s m args below meth c H locs 0 0 (xQf below args s 0 0 κ (some (.int ro)) mo) (F0 m 35 ls []) := by
  refine xit_K (Wh := fun x => ∀ (H : Heap) (locs : List Loc) (ls : Array Slot), xO κ s x.2 H locs → lv_has ls 5 [(0, .ref (κ.1 + v0)), (1, .int v1), (3, .int v3), (4, .int x.1)] → W p l e (xRm 4 0 0) s m args below meth c H locs 0 0 (xQf below args s 0 0 κ (some (.int ro)) mo) (F0 m 35 ls [])) (Kp := (fun o => o = (ro, mo))) ?_ xFU (v4, M) x h hK H locs ls O hl
  intro y x h hK H locs ls O hl
  exact F_X11_lists_35_bok X hr hlk v0 v1 v3 y.1 (fun _ _ hw => hw) y.2 x h hK H locs ls O hl
set_option maxRecDepth 100000 in
set_option maxHeartbeats 4000000 in
theorem T_X11_lists (l : Launch) (κ : xQ) (a0 : Nat) (a1 : Int32) (M : xM) (ro : Int32) (mo : xM) (h : F_X11_lists a0 a1 M = some (ro, mo)) : xC l yX11_lists cX11_lists 5 (some .int) 4 0 0 κ [.ref (κ.1 + a0), .int a1] M (some (.int ro)) mo := by
  refine xC_of rfl (Nat.le_of_ble_eq_true rfl) fun p e s m args below meth c X hr hlk hnm H locs ls O hl => ?_
  have X : xX p s m args c cX11_lists 5 RX11 κ := X
  have hl : lv_has ls 5 [(0, .ref (κ.1 + a0)), (1, .int a1)] := hl
  have hx := X.1
  have hb := X.2.1
  obtain ⟨x, hx0⟩ : ∃ x, (ro, mo) = x := ⟨_, rfl⟩
  rw [hx0] at h
  have hK : x = (ro, mo) := hx0.symm
  unfold F_X11_lists at h
  refine lv_aload_n hx hb dX11_lists_0 rfl (lv_at hl 0 rfl) ?_
  refine lv_iload_n hx hb dX11_lists_1 rfl (lv_at hl 1 rfl) ?_
  obtain ⟨_, hut1, h⟩ := Option.bind_eq_some_iff.mp h
  obtain ⟨t2, ht2, h⟩ := Option.bind_eq_some_iff.mp h
  refine xr_callV (rest := []) X O (T_X11_refusedTray l κ a0 a1 M _ _ ht2) lk_X11_225 hut1 (Nat.le_of_ble_eq_true rfl) rfl hl.1 rfl (Nat.le_of_ble_eq_true rfl) dX11_lists_2 ⟨Nat.le_of_ble_eq_true rfl, Nat.le_of_ble_eq_true rfl⟩ (fun H locs O => ?_)
  refine W.eq (g2 := F0 m 5 ls [.int t2.1]) rfl ?_
  refine lv_istore_n (lv' := [(2, .int t2.1), (0, .ref (κ.1 + a0)), (1, .int a1)]) hx hb dX11_lists_5 rfl hl (by decide) rfl (fun ls hl => ?_)
  refine lv_iload_n hx hb dX11_lists_6 rfl (lv_at hl 0 rfl) ?_
  refine lv_if_eq (tgt := 12) hx hb dX11_lists_7 (by decide) (fun hc7 => ?_) (fun hc7 => ?_)
  · rw [if_pos hc7] at h
    refine lv_aload_n hx hb dX11_lists_12 rfl (lv_at hl 1 rfl) ?_
    obtain ⟨t3, ht3, h⟩ := Option.bind_eq_some_iff.mp h
    refine xr_getP X O ht3 fl_X11_49 dX11_lists_13 ?_
    refine lv_iload_n hx hb dX11_lists_16 rfl (lv_at hl 2 rfl) ?_
    obtain ⟨t4, ht4, h⟩ := Option.bind_eq_some_iff.mp h
    refine xr_aldP (t0 := 6) (C := RX10) X O ht4 (by simp [xRk]) dX11_lists_17 ?_
    obtain ⟨t5, ht5, h⟩ := Option.bind_eq_some_iff.mp h
    refine xr_getI X O ht5 fl_X11_232 (Or.inl rfl) dX11_lists_18 ?_
    refine lv_aload_n hx hb dX11_lists_21 rfl (lv_at hl 1 rfl) ?_
    obtain ⟨t6, ht6, h⟩ := Option.bind_eq_some_iff.mp h
    refine xr_getP X O ht6 fl_X11_19 dX11_lists_22 ?_
    obtain ⟨_, hut7, h⟩ := Option.bind_eq_some_iff.mp h
    obtain ⟨t8, ht8, h⟩ := Option.bind_eq_some_iff.mp h
    refine xr_callV (rest := [.int t5]) X O (T_X3_cells l κ t6 t2.2 _ _ ht8) lk_X11_194 hut7 (Nat.le_of_ble_eq_true rfl) rfl hl.1 rfl (Nat.le_of_ble_eq_true rfl) dX11_lists_25 ⟨Nat.le_of_ble_eq_true rfl, Nat.le_of_ble_eq_true rfl⟩ (fun H locs O => ?_)
    refine W.eq (g2 := F0 m 28 ls [.int t8.1, .int t5]) rfl ?_
    obtain ⟨t9, ht9, h⟩ := Option.bind_eq_some_iff.mp h
    refine xr_callS (rest := []) X O (T_J9_min_7cf53 l κ t5 t8.1 t8.2 _ _ ht9) lk_X11_354 (Nat.le_of_ble_eq_true rfl) rfl hl.1 rfl (Nat.le_of_ble_eq_true rfl) dX11_lists_28 ⟨Nat.le_of_ble_eq_true rfl, Nat.le_of_ble_eq_true rfl⟩ (fun H locs O => ?_)
    refine W.eq (g2 := F0 m 31 ls [.int t9.1]) rfl ?_
    refine lv_istore_n (lv' := [(3, .int t9.1), (2, .int t2.1), (0, .ref (κ.1 + a0)), (1, .int a1)]) hx hb dX11_lists_31 rfl hl (by decide) rfl (fun ls hl => ?_)
    refine lv_iconst (v := (0 : Int32)) hx hb dX11_lists_32 (by decide) ?_
    refine lv_istore (lv' := [(4, .int (0 : Int32)), (3, .int t9.1), (2, .int t2.1), (0, .ref (κ.1 + a0)), (1, .int a1)]) hx hb dX11_lists_33 hl (by decide) rfl (fun ls hl => ?_)
    exact F_X11_lists_35_ok X hr hlk a0 a1 t9.1 (0 : Int32) t9.2 _ h hK H locs ls O (lv_sub hl [3, 4, 1, 0] rfl)
  rw [if_neg hc7] at h
  refine lv_iload_n hx hb dX11_lists_10 rfl (lv_at hl 0 rfl) ?_
  rw [← Option.some.inj h] at hK
  have hK : (t2.1, t2.2) = (ro, mo) := hK
  obtain ⟨hK1, hK2⟩ := Prod.mk.inj hK
  rw [hK2] at O
  refine xr_top (w := .int ro) (by rw [hK1]) ?_
  exact xr_iret X hr hlk O dX11_lists_11
def F_X11_isImage_13 (M : xM) : Option (Int32 × xM) :=
(xz (0 : Int32)).bind fun t2 =>
some (t2, M)
def F_X11_isImage (a0 : Int32) (M : xM) : Option (Int32 × xM) :=
if a0 < 0 then (
F_X11_isImage_13 M)
else (
if (2 : Int32) ≤ a0 then (
F_X11_isImage_13 M)
else (
(xz (1 : Int32)).bind fun t1 =>
some (t1, M)))
set_option maxRecDepth 100000 in
set_option maxHeartbeats 4000000 in
theorem F_X11_isImage_13_ok (X : xX p s m args c cX11_isImage 1 RX11 κ) (hr : meth.sig.returnType = (some .boolean)) (hlk : meth.locks = false) {ro : Int32} {mo : xM} (M : xM) (x : Int32 × xM) (h : F_X11_isImage_13 M = some x) (hK : (fun o => o = (ro, mo)) x) (H : Heap) (locs : List Loc) (ls : Array Slot) (O : xO κ s M H locs) (hl : lv_has ls 1 []) : W p l e (xRm 2 0 0) s m args below meth c H locs 0 0 (xQf below args s 0 0 κ (some (.int ro)) mo) (F0 m 13 ls []) := by
  unfold F_X11_isImage_13 at h
  have hx := X.1
  have hb := X.2.1
  refine lv_iconst (v := (0 : Int32)) hx hb dX11_isImage_13 (by decide) ?_
  obtain ⟨t2, ht2, h⟩ := Option.bind_eq_some_iff.mp h
  rw [← Option.some.inj h] at hK
  have hK : (t2, M) = (ro, mo) := hK
  obtain ⟨hK1, hK2⟩ := Prod.mk.inj hK
  rw [hK1] at ht2
  rw [hK2] at O
  exact xr_zret X hr hlk O ht2 dX11_isImage_14
set_option maxRecDepth 100000 in
set_option maxHeartbeats 4000000 in
theorem T_X11_isImage (l : Launch) (κ : xQ) (a0 : Int32) (M : xM) (ro : Int32) (mo : xM) (h : F_X11_isImage a0 M = some (ro, mo)) : xC l yX11_isImage cX11_isImage 1 (some .boolean) 2 0 0 κ [.int a0] M (some (.int ro)) mo := by
  refine xC_of rfl (Nat.le_of_ble_eq_true rfl) fun p e s m args below meth c X hr hlk hnm H locs ls O hl => ?_
  have X : xX p s m args c cX11_isImage 1 RX11 κ := X
  have hl : lv_has ls 1 [(0, .int a0)] := hl
  have hx := X.1
  have hb := X.2.1
  obtain ⟨x, hx0⟩ : ∃ x, (ro, mo) = x := ⟨_, rfl⟩
  rw [hx0] at h
  have hK : x = (ro, mo) := hx0.symm
  unfold F_X11_isImage at h
  refine lv_iload_n hx hb dX11_isImage_0 rfl (lv_at hl 0 rfl) ?_
  refine lv_if_lt (tgt := 13) hx hb dX11_isImage_1 (by decide) (fun hc1 => ?_) (fun hc1 => ?_)
  · rw [if_pos hc1] at h
    exact F_X11_isImage_13_ok X hr hlk  M _ h hK H locs ls O (lv_sub hl [] rfl)
  rw [if_neg hc1] at h
  refine lv_iload_n hx hb dX11_isImage_4 rfl (lv_at hl 0 rfl) ?_
  refine lv_iconst (v := (2 : Int32)) hx hb dX11_isImage_5 (by decide) ?_
  refine lv_icmp_ge (tgt := 13) hx hb dX11_isImage_6 (by decide) (fun hc6 => ?_) (fun hc6 => ?_)
  · rw [if_pos hc6] at h
    exact F_X11_isImage_13_ok X hr hlk  M _ h hK H locs ls O (lv_sub hl [] rfl)
  rw [if_neg hc6] at h
  refine lv_iconst (v := (1 : Int32)) hx hb dX11_isImage_9 (by decide) ?_
  refine lv_goto (tgt := 14) hx hb dX11_isImage_10 (by decide) ?_
  obtain ⟨t1, ht1, h⟩ := Option.bind_eq_some_iff.mp h
  rw [← Option.some.inj h] at hK
  have hK : (t1, M) = (ro, mo) := hK
  obtain ⟨hK1, hK2⟩ := Prod.mk.inj hK
  rw [hK1] at ht1
  rw [hK2] at O
  exact xr_zret X hr hlk O ht1 dX11_isImage_14
def F_X11_image (a0 : Nat) (a1 : Int32) (M : xM) : Option (Int32 × xM) :=
(F_X11_isImage a1 M).bind fun t1 =>
if t1.1 = 0 then (
some ((-2 : Int32), t1.2))
else (
(xgP t1.2 a0 11 8).bind fun t2 =>
(xaP t1.2 33 t2 a1).bind fun t3 =>
(xgP t1.2 a0 11 2).bind fun t4 =>
(xck t1.2 t3 3).bind fun _ =>
(F_X3_take t3 t4 t1.2).bind fun t6 =>
(xgP t6 a0 11 9).bind fun t7 =>
(xaP t6 30 t7 a1).bind fun t8 =>
(xgP t6 a0 11 3).bind fun t9 =>
(xck t6 t8 0).bind fun _ =>
(F_X0_take t8 t9 t6).bind fun t11 =>
(xgI t11 a0 11 10).bind fun t12 =>
(xpI t11 a0 11 10 (t12 ||| ((1 : Int32) <<< (a1 &&& 31)))).bind fun t13 =>
some ((0 : Int32), t13))
set_option maxRecDepth 100000 in
set_option maxHeartbeats 4000000 in
theorem T_X11_image (l : Launch) (κ : xQ) (a0 : Nat) (a1 : Int32) (M : xM) (ro : Int32) (mo : xM) (h : F_X11_image a0 a1 M = some (ro, mo)) : xC l yX11_image cX11_image 2 (some .int) 3 0 0 κ [.ref (κ.1 + a0), .int a1] M (some (.int ro)) mo := by
  refine xC_of rfl (Nat.le_of_ble_eq_true rfl) fun p e s m args below meth c X hr hlk hnm H locs ls O hl => ?_
  have X : xX p s m args c cX11_image 2 RX11 κ := X
  have hl : lv_has ls 2 [(0, .ref (κ.1 + a0)), (1, .int a1)] := hl
  have hx := X.1
  have hb := X.2.1
  obtain ⟨x, hx0⟩ : ∃ x, (ro, mo) = x := ⟨_, rfl⟩
  rw [hx0] at h
  have hK : x = (ro, mo) := hx0.symm
  unfold F_X11_image at h
  refine lv_iload_n hx hb dX11_image_0 rfl (lv_at hl 1 rfl) ?_
  obtain ⟨t1, ht1, h⟩ := Option.bind_eq_some_iff.mp h
  refine xr_callS (rest := []) X O (T_X11_isImage l κ a1 M _ _ ht1) lk_X11_359 (Nat.le_of_ble_eq_true rfl) rfl hl.1 rfl (Nat.le_of_ble_eq_true rfl) dX11_image_1 ⟨Nat.le_of_ble_eq_true rfl, Nat.le_of_ble_eq_true rfl⟩ (fun H locs O => ?_)
  refine W.eq (g2 := F0 m 4 ls [.int t1.1]) rfl ?_
  refine lv_if_ne (tgt := 10) hx hb dX11_image_4 (by decide) (fun hc4 => ?_) (fun hc4 => ?_)
  · rw [if_neg hc4] at h
    refine lv_aload_n hx hb dX11_image_10 rfl (lv_at hl 0 rfl) ?_
    obtain ⟨t2, ht2, h⟩ := Option.bind_eq_some_iff.mp h
    refine xr_getP X O ht2 fl_X11_54 dX11_image_11 ?_
    refine lv_iload_n hx hb dX11_image_14 rfl (lv_at hl 1 rfl) ?_
    obtain ⟨t3, ht3, h⟩ := Option.bind_eq_some_iff.mp h
    refine xr_aldP (t0 := 5) (C := RX3) X O ht3 (by simp [xRk]) dX11_image_15 ?_
    refine lv_aload_n hx hb dX11_image_16 rfl (lv_at hl 0 rfl) ?_
    obtain ⟨t4, ht4, h⟩ := Option.bind_eq_some_iff.mp h
    refine xr_getP X O ht4 fl_X11_19 dX11_image_17 ?_
    obtain ⟨_, hut5, h⟩ := Option.bind_eq_some_iff.mp h
    obtain ⟨t6, ht6, h⟩ := Option.bind_eq_some_iff.mp h
    refine xr_callV (rest := []) X O (T_X3_take l κ t3 t4 t1.2 _ ht6) lk_X11_114 hut5 (Nat.le_of_ble_eq_true rfl) rfl hl.1 rfl (Nat.le_of_ble_eq_true rfl) dX11_image_20 ⟨Nat.le_of_ble_eq_true rfl, Nat.le_of_ble_eq_true rfl⟩ (fun H locs O => ?_)
    refine W.eq (g2 := F0 m 23 ls []) rfl ?_
    refine lv_aload_n hx hb dX11_image_23 rfl (lv_at hl 0 rfl) ?_
    obtain ⟨t7, ht7, h⟩ := Option.bind_eq_some_iff.mp h
    refine xr_getP X O ht7 fl_X11_58 dX11_image_24 ?_
    refine lv_iload_n hx hb dX11_image_27 rfl (lv_at hl 1 rfl) ?_
    obtain ⟨t8, ht8, h⟩ := Option.bind_eq_some_iff.mp h
    refine xr_aldP (t0 := 4) (C := RX0) X O ht8 (by simp [xRk]) dX11_image_28 ?_
    refine lv_aload_n hx hb dX11_image_29 rfl (lv_at hl 0 rfl) ?_
    obtain ⟨t9, ht9, h⟩ := Option.bind_eq_some_iff.mp h
    refine xr_getP X O ht9 fl_X11_26 dX11_image_30 ?_
    obtain ⟨_, hut10, h⟩ := Option.bind_eq_some_iff.mp h
    obtain ⟨t11, ht11, h⟩ := Option.bind_eq_some_iff.mp h
    refine xr_callV (rest := []) X O (T_X0_take l κ t8 t9 t6 _ ht11) lk_X11_121 hut10 (Nat.le_of_ble_eq_true rfl) rfl hl.1 rfl (Nat.le_of_ble_eq_true rfl) dX11_image_33 ⟨Nat.le_of_ble_eq_true rfl, Nat.le_of_ble_eq_true rfl⟩ (fun H locs O => ?_)
    refine W.eq (g2 := F0 m 36 ls []) rfl ?_
    refine lv_aload_n hx hb dX11_image_36 rfl (lv_at hl 0 rfl) ?_
    refine lv_dup hx hb dX11_image_37 rfl ?_
    obtain ⟨t12, ht12, h⟩ := Option.bind_eq_some_iff.mp h
    refine xr_getI X O ht12 fl_X11_362 (Or.inl rfl) dX11_image_38 ?_
    refine lv_iconst (v := (1 : Int32)) hx hb dX11_image_41 (by decide) ?_
    refine lv_iload_n hx hb dX11_image_42 rfl (lv_at hl 1 rfl) ?_
    refine lv_ishl hx hb dX11_image_43 ?_
    refine lv_ior hx hb dX11_image_44 ?_
    obtain ⟨t13, ht13, h⟩ := Option.bind_eq_some_iff.mp h
    refine xr_putI X O ht13 fl_X11_362 dX11_image_45 (fun H locs O => ?_)
    refine lv_iconst (v := (0 : Int32)) hx hb dX11_image_48 (by decide) ?_
    rw [← Option.some.inj h] at hK
    have hK : ((0 : Int32), t13) = (ro, mo) := hK
    obtain ⟨hK1, hK2⟩ := Prod.mk.inj hK
    rw [hK2] at O
    refine xr_top (w := .int ro) (by rw [hK1]) ?_
    exact xr_iret X hr hlk O dX11_image_49
  rw [if_pos hc4] at h
  refine lv_bipush (v := (-2 : Int32)) hx hb dX11_image_7 (by decide) ?_
  rw [← Option.some.inj h] at hK
  have hK : ((-2 : Int32), t1.2) = (ro, mo) := hK
  obtain ⟨hK1, hK2⟩ := Prod.mk.inj hK
  rw [hK2] at O
  refine xr_top (w := .int ro) (by rw [hK1]) ?_
  exact xr_iret X hr hlk O dX11_image_9
def F_X11_restore (a0 : Nat) (a1 : Int32) (M : xM) : Option (Int32 × xM) :=
(F_X11_isImage a1 M).bind fun t1 =>
if t1.1 = 0 then (
some ((-2 : Int32), t1.2))
else (
(xgI t1.2 a0 11 10).bind fun t2 =>
if ((t2 >>> (a1 &&& 31)) &&& (1 : Int32)) = 0 then (
some ((-5 : Int32), t1.2))
else (
(xgP t1.2 a0 11 2).bind fun t3 =>
(xgP t1.2 a0 11 8).bind fun t4 =>
(xaP t1.2 33 t4 a1).bind fun t5 =>
(xck t1.2 t3 3).bind fun _ =>
(F_X3_take t3 t5 t1.2).bind fun t7 =>
(xgP t7 a0 11 3).bind fun t8 =>
(xgP t7 a0 11 9).bind fun t9 =>
(xaP t7 30 t9 a1).bind fun t10 =>
(xck t7 t8 0).bind fun _ =>
(F_X0_take t8 t10 t7).bind fun t12 =>
(xgP t12 a0 11 6).bind fun t13 =>
(xck t12 t13 5).bind fun _ =>
(F_X5_forget t13 t12).bind fun t15 =>
some ((0 : Int32), t15)))
set_option maxRecDepth 100000 in
set_option maxHeartbeats 4000000 in
theorem T_X11_restore (l : Launch) (κ : xQ) (a0 : Nat) (a1 : Int32) (M : xM) (ro : Int32) (mo : xM) (h : F_X11_restore a0 a1 M = some (ro, mo)) : xC l yX11_restore cX11_restore 2 (some .int) 3 0 0 κ [.ref (κ.1 + a0), .int a1] M (some (.int ro)) mo := by
  refine xC_of rfl (Nat.le_of_ble_eq_true rfl) fun p e s m args below meth c X hr hlk hnm H locs ls O hl => ?_
  have X : xX p s m args c cX11_restore 2 RX11 κ := X
  have hl : lv_has ls 2 [(0, .ref (κ.1 + a0)), (1, .int a1)] := hl
  have hx := X.1
  have hb := X.2.1
  obtain ⟨x, hx0⟩ : ∃ x, (ro, mo) = x := ⟨_, rfl⟩
  rw [hx0] at h
  have hK : x = (ro, mo) := hx0.symm
  unfold F_X11_restore at h
  refine lv_iload_n hx hb dX11_restore_0 rfl (lv_at hl 1 rfl) ?_
  obtain ⟨t1, ht1, h⟩ := Option.bind_eq_some_iff.mp h
  refine xr_callS (rest := []) X O (T_X11_isImage l κ a1 M _ _ ht1) lk_X11_359 (Nat.le_of_ble_eq_true rfl) rfl hl.1 rfl (Nat.le_of_ble_eq_true rfl) dX11_restore_1 ⟨Nat.le_of_ble_eq_true rfl, Nat.le_of_ble_eq_true rfl⟩ (fun H locs O => ?_)
  refine W.eq (g2 := F0 m 4 ls [.int t1.1]) rfl ?_
  refine lv_if_ne (tgt := 10) hx hb dX11_restore_4 (by decide) (fun hc4 => ?_) (fun hc4 => ?_)
  · rw [if_neg hc4] at h
    refine lv_aload_n hx hb dX11_restore_10 rfl (lv_at hl 0 rfl) ?_
    obtain ⟨t2, ht2, h⟩ := Option.bind_eq_some_iff.mp h
    refine xr_getI X O ht2 fl_X11_362 (Or.inl rfl) dX11_restore_11 ?_
    refine lv_iload_n hx hb dX11_restore_14 rfl (lv_at hl 1 rfl) ?_
    refine lv_ishr hx hb dX11_restore_15 ?_
    refine lv_iconst (v := (1 : Int32)) hx hb dX11_restore_16 (by decide) ?_
    refine lv_iand hx hb dX11_restore_17 ?_
    refine lv_if_ne (tgt := 24) hx hb dX11_restore_18 (by decide) (fun hc18 => ?_) (fun hc18 => ?_)
    · rw [if_neg hc18] at h
      refine lv_aload_n hx hb dX11_restore_24 rfl (lv_at hl 0 rfl) ?_
      obtain ⟨t3, ht3, h⟩ := Option.bind_eq_some_iff.mp h
      refine xr_getP X O ht3 fl_X11_19 dX11_restore_25 ?_
      refine lv_aload_n hx hb dX11_restore_28 rfl (lv_at hl 0 rfl) ?_
      obtain ⟨t4, ht4, h⟩ := Option.bind_eq_some_iff.mp h
      refine xr_getP X O ht4 fl_X11_54 dX11_restore_29 ?_
      refine lv_iload_n hx hb dX11_restore_32 rfl (lv_at hl 1 rfl) ?_
      obtain ⟨t5, ht5, h⟩ := Option.bind_eq_some_iff.mp h
      refine xr_aldP (t0 := 5) (C := RX3) X O ht5 (by simp [xRk]) dX11_restore_33 ?_
      obtain ⟨_, hut6, h⟩ := Option.bind_eq_some_iff.mp h
      obtain ⟨t7, ht7, h⟩ := Option.bind_eq_some_iff.mp h
      refine xr_callV (rest := []) X O (T_X3_take l κ t3 t5 t1.2 _ ht7) lk_X11_114 hut6 (Nat.le_of_ble_eq_true rfl) rfl hl.1 rfl (Nat.le_of_ble_eq_true rfl) dX11_restore_34 ⟨Nat.le_of_ble_eq_true rfl, Nat.le_of_ble_eq_true rfl⟩ (fun H locs O => ?_)
      refine W.eq (g2 := F0 m 37 ls []) rfl ?_
      refine lv_aload_n hx hb dX11_restore_37 rfl (lv_at hl 0 rfl) ?_
      obtain ⟨t8, ht8, h⟩ := Option.bind_eq_some_iff.mp h
      refine xr_getP X O ht8 fl_X11_26 dX11_restore_38 ?_
      refine lv_aload_n hx hb dX11_restore_41 rfl (lv_at hl 0 rfl) ?_
      obtain ⟨t9, ht9, h⟩ := Option.bind_eq_some_iff.mp h
      refine xr_getP X O ht9 fl_X11_58 dX11_restore_42 ?_
      refine lv_iload_n hx hb dX11_restore_45 rfl (lv_at hl 1 rfl) ?_
      obtain ⟨t10, ht10, h⟩ := Option.bind_eq_some_iff.mp h
      refine xr_aldP (t0 := 4) (C := RX0) X O ht10 (by simp [xRk]) dX11_restore_46 ?_
      obtain ⟨_, hut11, h⟩ := Option.bind_eq_some_iff.mp h
      obtain ⟨t12, ht12, h⟩ := Option.bind_eq_some_iff.mp h
      refine xr_callV (rest := []) X O (T_X0_take l κ t8 t10 t7 _ ht12) lk_X11_121 hut11 (Nat.le_of_ble_eq_true rfl) rfl hl.1 rfl (Nat.le_of_ble_eq_true rfl) dX11_restore_47 ⟨Nat.le_of_ble_eq_true rfl, Nat.le_of_ble_eq_true rfl⟩ (fun H locs O => ?_)
      refine W.eq (g2 := F0 m 50 ls []) rfl ?_
      refine lv_aload_n hx hb dX11_restore_50 rfl (lv_at hl 0 rfl) ?_
      obtain ⟨t13, ht13, h⟩ := Option.bind_eq_some_iff.mp h
      refine xr_getP X O ht13 fl_X11_43 dX11_restore_51 ?_
      obtain ⟨_, hut14, h⟩ := Option.bind_eq_some_iff.mp h
      obtain ⟨t15, ht15, h⟩ := Option.bind_eq_some_iff.mp h
      refine xr_callV (rest := []) X O (T_X5_forget l κ t13 t12 _ ht15) lk_X11_124 hut14 (Nat.le_of_ble_eq_true rfl) rfl hl.1 rfl (Nat.le_of_ble_eq_true rfl) dX11_restore_54 ⟨Nat.le_of_ble_eq_true rfl, Nat.le_of_ble_eq_true rfl⟩ (fun H locs O => ?_)
      refine W.eq (g2 := F0 m 57 ls []) rfl ?_
      refine lv_iconst (v := (0 : Int32)) hx hb dX11_restore_57 (by decide) ?_
      rw [← Option.some.inj h] at hK
      have hK : ((0 : Int32), t15) = (ro, mo) := hK
      obtain ⟨hK1, hK2⟩ := Prod.mk.inj hK
      rw [hK2] at O
      refine xr_top (w := .int ro) (by rw [hK1]) ?_
      exact xr_iret X hr hlk O dX11_restore_58
    rw [if_pos hc18] at h
    refine lv_bipush (v := (-5 : Int32)) hx hb dX11_restore_21 (by decide) ?_
    rw [← Option.some.inj h] at hK
    have hK : ((-5 : Int32), t1.2) = (ro, mo) := hK
    obtain ⟨hK1, hK2⟩ := Prod.mk.inj hK
    rw [hK2] at O
    refine xr_top (w := .int ro) (by rw [hK1]) ?_
    exact xr_iret X hr hlk O dX11_restore_23
  rw [if_pos hc4] at h
  refine lv_bipush (v := (-2 : Int32)) hx hb dX11_restore_7 (by decide) ?_
  rw [← Option.some.inj h] at hK
  have hK : ((-2 : Int32), t1.2) = (ro, mo) := hK
  obtain ⟨hK1, hK2⟩ := Prod.mk.inj hK
  rw [hK2] at O
  refine xr_top (w := .int ro) (by rw [hK1]) ?_
  exact xr_iret X hr hlk O dX11_restore_9
def F_X11_count (a0 : Nat) (a1 : Int32) (M : xM) : Option (Int32 × xM) :=
if a1 = (0 : Int32) then (
(xgP M a0 11 2).bind fun t1 =>
(xgI M t1 3 0).bind fun t2 =>
some (t2, M))
else if a1 = (1 : Int32) then (
(xgP M a0 11 2).bind fun t3 =>
(xgI M t3 3 1).bind fun t4 =>
some (t4, M))
else if a1 = (2 : Int32) then (
(xgP M a0 11 3).bind fun t5 =>
(xgI M t5 0 3).bind fun t6 =>
some (t6, M))
else if a1 = (3 : Int32) then (
(xgP M a0 11 3).bind fun t7 =>
(xgI M t7 0 4).bind fun t8 =>
some (t8, M))
else if a1 = (4 : Int32) then (
(xgP M a0 11 3).bind fun t9 =>
(xgI M t9 0 5).bind fun t10 =>
some (t10, M))
else if a1 = (5 : Int32) then (
(xgP M a0 11 3).bind fun t11 =>
(xgI M t11 0 6).bind fun t12 =>
some (t12, M))
else if a1 = (6 : Int32) then (
(xgP M a0 11 3).bind fun t13 =>
(xgP M a0 11 2).bind fun t14 =>
(xck M t14 3).bind fun _ =>
(F_X3_cells t14 M).bind fun t16 =>
(xck t16.2 t13 0).bind fun _ =>
(F_X0_sandInAll t13 t16.1 t16.2).bind fun t18 =>
some (t18.1, t18.2))
else if a1 = (7 : Int32) then (
(xgP M a0 11 2).bind fun t19 =>
(xgI M t19 3 5).bind fun t20 =>
some (t20, M))
else if a1 = (8 : Int32) then (
(xgP M a0 11 2).bind fun t21 =>
(xgI M t21 3 6).bind fun t22 =>
some (t22, M))
else if a1 = (9 : Int32) then (
(xgP M a0 11 6).bind fun t23 =>
(xgI M t23 5 0).bind fun t24 =>
some (t24, M))
else if a1 = (10 : Int32) then (
(xgI M a0 11 0).bind fun t25 =>
some (t25, M))
else if a1 = (11 : Int32) then (
(xgP M a0 11 2).bind fun t26 =>
(xgI M t26 3 3).bind fun t27 =>
some (t27, M))
else (
some ((-1 : Int32), M))
set_option maxRecDepth 100000 in
set_option maxHeartbeats 4000000 in
theorem T_X11_count (l : Launch) (κ : xQ) (a0 : Nat) (a1 : Int32) (M : xM) (ro : Int32) (mo : xM) (h : F_X11_count a0 a1 M = some (ro, mo)) : xC l yX11_count cX11_count 2 (some .int) 3 0 0 κ [.ref (κ.1 + a0), .int a1] M (some (.int ro)) mo := by
  refine xC_of rfl (Nat.le_of_ble_eq_true rfl) fun p e s m args below meth c X hr hlk hnm H locs ls O hl => ?_
  have X : xX p s m args c cX11_count 2 RX11 κ := X
  have hl : lv_has ls 2 [(0, .ref (κ.1 + a0)), (1, .int a1)] := hl
  have hx := X.1
  have hb := X.2.1
  obtain ⟨x, hx0⟩ : ∃ x, (ro, mo) = x := ⟨_, rfl⟩
  rw [hx0] at h
  have hK : x = (ro, mo) := hx0.symm
  unfold F_X11_count at h
  refine lv_iload_n hx hb dX11_count_0 rfl (lv_at hl 1 rfl) ?_
  by_cases hs1_0 : a1 = (0 : Int32)
  · rw [if_pos hs1_0] at h
    refine xr_tabIn (tgt := 64) (off := 63) X dX11_count_1 hs1_0 (by decide +kernel) (by decide +kernel) (by decide +kernel) (by decide) ?_
    refine lv_aload_n hx hb dX11_count_64 rfl (lv_at hl 0 rfl) ?_
    obtain ⟨t1, ht1, h⟩ := Option.bind_eq_some_iff.mp h
    refine xr_getP X O ht1 fl_X11_19 dX11_count_65 ?_
    obtain ⟨t2, ht2, h⟩ := Option.bind_eq_some_iff.mp h
    refine xr_getI X O ht2 fl_X11_318 (Or.inl rfl) dX11_count_68 ?_
    rw [← Option.some.inj h] at hK
    have hK : (t2, M) = (ro, mo) := hK
    obtain ⟨hK1, hK2⟩ := Prod.mk.inj hK
    rw [hK2] at O
    refine xr_top (w := .int ro) (by rw [hK1]) ?_
    exact xr_iret X hr hlk O dX11_count_71
  rw [if_neg hs1_0] at h
  by_cases hs1_1 : a1 = (1 : Int32)
  · rw [if_pos hs1_1] at h
    refine xr_tabIn (tgt := 72) (off := 71) X dX11_count_1 hs1_1 (by decide +kernel) (by decide +kernel) (by decide +kernel) (by decide) ?_
    refine lv_aload_n hx hb dX11_count_72 rfl (lv_at hl 0 rfl) ?_
    obtain ⟨t3, ht3, h⟩ := Option.bind_eq_some_iff.mp h
    refine xr_getP X O ht3 fl_X11_19 dX11_count_73 ?_
    obtain ⟨t4, ht4, h⟩ := Option.bind_eq_some_iff.mp h
    refine xr_getI X O ht4 fl_X11_324 (Or.inl rfl) dX11_count_76 ?_
    rw [← Option.some.inj h] at hK
    have hK : (t4, M) = (ro, mo) := hK
    obtain ⟨hK1, hK2⟩ := Prod.mk.inj hK
    rw [hK2] at O
    refine xr_top (w := .int ro) (by rw [hK1]) ?_
    exact xr_iret X hr hlk O dX11_count_79
  rw [if_neg hs1_1] at h
  by_cases hs1_2 : a1 = (2 : Int32)
  · rw [if_pos hs1_2] at h
    refine xr_tabIn (tgt := 80) (off := 79) X dX11_count_1 hs1_2 (by decide +kernel) (by decide +kernel) (by decide +kernel) (by decide) ?_
    refine lv_aload_n hx hb dX11_count_80 rfl (lv_at hl 0 rfl) ?_
    obtain ⟨t5, ht5, h⟩ := Option.bind_eq_some_iff.mp h
    refine xr_getP X O ht5 fl_X11_26 dX11_count_81 ?_
    obtain ⟨t6, ht6, h⟩ := Option.bind_eq_some_iff.mp h
    refine xr_getI X O ht6 fl_X11_212 (Or.inl rfl) dX11_count_84 ?_
    rw [← Option.some.inj h] at hK
    have hK : (t6, M) = (ro, mo) := hK
    obtain ⟨hK1, hK2⟩ := Prod.mk.inj hK
    rw [hK2] at O
    refine xr_top (w := .int ro) (by rw [hK1]) ?_
    exact xr_iret X hr hlk O dX11_count_87
  rw [if_neg hs1_2] at h
  by_cases hs1_3 : a1 = (3 : Int32)
  · rw [if_pos hs1_3] at h
    refine xr_tabIn (tgt := 88) (off := 87) X dX11_count_1 hs1_3 (by decide +kernel) (by decide +kernel) (by decide +kernel) (by decide) ?_
    refine lv_aload_n hx hb dX11_count_88 rfl (lv_at hl 0 rfl) ?_
    obtain ⟨t7, ht7, h⟩ := Option.bind_eq_some_iff.mp h
    refine xr_getP X O ht7 fl_X11_26 dX11_count_89 ?_
    obtain ⟨t8, ht8, h⟩ := Option.bind_eq_some_iff.mp h
    refine xr_getI X O ht8 fl_X11_148 (Or.inl rfl) dX11_count_92 ?_
    rw [← Option.some.inj h] at hK
    have hK : (t8, M) = (ro, mo) := hK
    obtain ⟨hK1, hK2⟩ := Prod.mk.inj hK
    rw [hK2] at O
    refine xr_top (w := .int ro) (by rw [hK1]) ?_
    exact xr_iret X hr hlk O dX11_count_95
  rw [if_neg hs1_3] at h
  by_cases hs1_4 : a1 = (4 : Int32)
  · rw [if_pos hs1_4] at h
    refine xr_tabIn (tgt := 96) (off := 95) X dX11_count_1 hs1_4 (by decide +kernel) (by decide +kernel) (by decide +kernel) (by decide) ?_
    refine lv_aload_n hx hb dX11_count_96 rfl (lv_at hl 0 rfl) ?_
    obtain ⟨t9, ht9, h⟩ := Option.bind_eq_some_iff.mp h
    refine xr_getP X O ht9 fl_X11_26 dX11_count_97 ?_
    obtain ⟨t10, ht10, h⟩ := Option.bind_eq_some_iff.mp h
    refine xr_getI X O ht10 fl_X11_163 (Or.inl rfl) dX11_count_100 ?_
    rw [← Option.some.inj h] at hK
    have hK : (t10, M) = (ro, mo) := hK
    obtain ⟨hK1, hK2⟩ := Prod.mk.inj hK
    rw [hK2] at O
    refine xr_top (w := .int ro) (by rw [hK1]) ?_
    exact xr_iret X hr hlk O dX11_count_103
  rw [if_neg hs1_4] at h
  by_cases hs1_5 : a1 = (5 : Int32)
  · rw [if_pos hs1_5] at h
    refine xr_tabIn (tgt := 104) (off := 103) X dX11_count_1 hs1_5 (by decide +kernel) (by decide +kernel) (by decide +kernel) (by decide) ?_
    refine lv_aload_n hx hb dX11_count_104 rfl (lv_at hl 0 rfl) ?_
    obtain ⟨t11, ht11, h⟩ := Option.bind_eq_some_iff.mp h
    refine xr_getP X O ht11 fl_X11_26 dX11_count_105 ?_
    obtain ⟨t12, ht12, h⟩ := Option.bind_eq_some_iff.mp h
    refine xr_getI X O ht12 fl_X11_312 (Or.inl rfl) dX11_count_108 ?_
    rw [← Option.some.inj h] at hK
    have hK : (t12, M) = (ro, mo) := hK
    obtain ⟨hK1, hK2⟩ := Prod.mk.inj hK
    rw [hK2] at O
    refine xr_top (w := .int ro) (by rw [hK1]) ?_
    exact xr_iret X hr hlk O dX11_count_111
  rw [if_neg hs1_5] at h
  by_cases hs1_6 : a1 = (6 : Int32)
  · rw [if_pos hs1_6] at h
    refine xr_tabIn (tgt := 112) (off := 111) X dX11_count_1 hs1_6 (by decide +kernel) (by decide +kernel) (by decide +kernel) (by decide) ?_
    refine lv_aload_n hx hb dX11_count_112 rfl (lv_at hl 0 rfl) ?_
    obtain ⟨t13, ht13, h⟩ := Option.bind_eq_some_iff.mp h
    refine xr_getP X O ht13 fl_X11_26 dX11_count_113 ?_
    refine lv_aload_n hx hb dX11_count_116 rfl (lv_at hl 0 rfl) ?_
    obtain ⟨t14, ht14, h⟩ := Option.bind_eq_some_iff.mp h
    refine xr_getP X O ht14 fl_X11_19 dX11_count_117 ?_
    obtain ⟨_, hut15, h⟩ := Option.bind_eq_some_iff.mp h
    obtain ⟨t16, ht16, h⟩ := Option.bind_eq_some_iff.mp h
    refine xr_callV (rest := [.ref (κ.1 + t13)]) X O (T_X3_cells l κ t14 M _ _ ht16) lk_X11_194 hut15 (Nat.le_of_ble_eq_true rfl) rfl hl.1 rfl (Nat.le_of_ble_eq_true rfl) dX11_count_120 ⟨Nat.le_of_ble_eq_true rfl, Nat.le_of_ble_eq_true rfl⟩ (fun H locs O => ?_)
    refine W.eq (g2 := F0 m 123 ls [.int t16.1, .ref (κ.1 + t13)]) rfl ?_
    obtain ⟨_, hut17, h⟩ := Option.bind_eq_some_iff.mp h
    obtain ⟨t18, ht18, h⟩ := Option.bind_eq_some_iff.mp h
    refine xr_callV (rest := []) X O (T_X0_sandInAll l κ t13 t16.1 t16.2 _ _ ht18) lk_X11_241 hut17 (Nat.le_of_ble_eq_true rfl) rfl hl.1 rfl (Nat.le_of_ble_eq_true rfl) dX11_count_123 ⟨Nat.le_of_ble_eq_true rfl, Nat.le_of_ble_eq_true rfl⟩ (fun H locs O => ?_)
    refine W.eq (g2 := F0 m 126 ls [.int t18.1]) rfl ?_
    rw [← Option.some.inj h] at hK
    have hK : (t18.1, t18.2) = (ro, mo) := hK
    obtain ⟨hK1, hK2⟩ := Prod.mk.inj hK
    rw [hK2] at O
    refine xr_top (w := .int ro) (by rw [hK1]) ?_
    exact xr_iret X hr hlk O dX11_count_126
  rw [if_neg hs1_6] at h
  by_cases hs1_7 : a1 = (7 : Int32)
  · rw [if_pos hs1_7] at h
    refine xr_tabIn (tgt := 127) (off := 126) X dX11_count_1 hs1_7 (by decide +kernel) (by decide +kernel) (by decide +kernel) (by decide) ?_
    refine lv_aload_n hx hb dX11_count_127 rfl (lv_at hl 0 rfl) ?_
    obtain ⟨t19, ht19, h⟩ := Option.bind_eq_some_iff.mp h
    refine xr_getP X O ht19 fl_X11_19 dX11_count_128 ?_
    obtain ⟨t20, ht20, h⟩ := Option.bind_eq_some_iff.mp h
    refine xr_getI X O ht20 fl_X11_151 (Or.inl rfl) dX11_count_131 ?_
    rw [← Option.some.inj h] at hK
    have hK : (t20, M) = (ro, mo) := hK
    obtain ⟨hK1, hK2⟩ := Prod.mk.inj hK
    rw [hK2] at O
    refine xr_top (w := .int ro) (by rw [hK1]) ?_
    exact xr_iret X hr hlk O dX11_count_134
  rw [if_neg hs1_7] at h
  by_cases hs1_8 : a1 = (8 : Int32)
  · rw [if_pos hs1_8] at h
    refine xr_tabIn (tgt := 135) (off := 134) X dX11_count_1 hs1_8 (by decide +kernel) (by decide +kernel) (by decide +kernel) (by decide) ?_
    refine lv_aload_n hx hb dX11_count_135 rfl (lv_at hl 0 rfl) ?_
    obtain ⟨t21, ht21, h⟩ := Option.bind_eq_some_iff.mp h
    refine xr_getP X O ht21 fl_X11_19 dX11_count_136 ?_
    obtain ⟨t22, ht22, h⟩ := Option.bind_eq_some_iff.mp h
    refine xr_getI X O ht22 fl_X11_283 (Or.inl rfl) dX11_count_139 ?_
    rw [← Option.some.inj h] at hK
    have hK : (t22, M) = (ro, mo) := hK
    obtain ⟨hK1, hK2⟩ := Prod.mk.inj hK
    rw [hK2] at O
    refine xr_top (w := .int ro) (by rw [hK1]) ?_
    exact xr_iret X hr hlk O dX11_count_142
  rw [if_neg hs1_8] at h
  by_cases hs1_9 : a1 = (9 : Int32)
  · rw [if_pos hs1_9] at h
    refine xr_tabIn (tgt := 143) (off := 142) X dX11_count_1 hs1_9 (by decide +kernel) (by decide +kernel) (by decide +kernel) (by decide) ?_
    refine lv_aload_n hx hb dX11_count_143 rfl (lv_at hl 0 rfl) ?_
    obtain ⟨t23, ht23, h⟩ := Option.bind_eq_some_iff.mp h
    refine xr_getP X O ht23 fl_X11_43 dX11_count_144 ?_
    obtain ⟨t24, ht24, h⟩ := Option.bind_eq_some_iff.mp h
    refine xr_getI X O ht24 fl_X11_218 (Or.inl rfl) dX11_count_147 ?_
    rw [← Option.some.inj h] at hK
    have hK : (t24, M) = (ro, mo) := hK
    obtain ⟨hK1, hK2⟩ := Prod.mk.inj hK
    rw [hK2] at O
    refine xr_top (w := .int ro) (by rw [hK1]) ?_
    exact xr_iret X hr hlk O dX11_count_150
  rw [if_neg hs1_9] at h
  by_cases hs1_10 : a1 = (10 : Int32)
  · rw [if_pos hs1_10] at h
    refine xr_tabIn (tgt := 151) (off := 150) X dX11_count_1 hs1_10 (by decide +kernel) (by decide +kernel) (by decide +kernel) (by decide) ?_
    refine lv_aload_n hx hb dX11_count_151 rfl (lv_at hl 0 rfl) ?_
    obtain ⟨t25, ht25, h⟩ := Option.bind_eq_some_iff.mp h
    refine xr_getI X O ht25 fl_X11_98 (Or.inl rfl) dX11_count_152 ?_
    rw [← Option.some.inj h] at hK
    have hK : (t25, M) = (ro, mo) := hK
    obtain ⟨hK1, hK2⟩ := Prod.mk.inj hK
    rw [hK2] at O
    refine xr_top (w := .int ro) (by rw [hK1]) ?_
    exact xr_iret X hr hlk O dX11_count_155
  rw [if_neg hs1_10] at h
  by_cases hs1_11 : a1 = (11 : Int32)
  · rw [if_pos hs1_11] at h
    refine xr_tabIn (tgt := 156) (off := 155) X dX11_count_1 hs1_11 (by decide +kernel) (by decide +kernel) (by decide +kernel) (by decide) ?_
    refine lv_aload_n hx hb dX11_count_156 rfl (lv_at hl 0 rfl) ?_
    obtain ⟨t26, ht26, h⟩ := Option.bind_eq_some_iff.mp h
    refine xr_getP X O ht26 fl_X11_19 dX11_count_157 ?_
    obtain ⟨t27, ht27, h⟩ := Option.bind_eq_some_iff.mp h
    refine xr_getI X O ht27 fl_X11_127 (Or.inl rfl) dX11_count_160 ?_
    rw [← Option.some.inj h] at hK
    have hK : (t27, M) = (ro, mo) := hK
    obtain ⟨hK1, hK2⟩ := Prod.mk.inj hK
    rw [hK2] at O
    refine xr_top (w := .int ro) (by rw [hK1]) ?_
    exact xr_iret X hr hlk O dX11_count_163
  rw [if_neg hs1_11] at h
  have ihs1_0 := xr_nei (k := 0) (by decide) hs1_0
  have ihs1_1 := xr_nei (k := 1) (by decide) hs1_1
  have ihs1_2 := xr_nei (k := 2) (by decide) hs1_2
  have ihs1_3 := xr_nei (k := 3) (by decide) hs1_3
  have ihs1_4 := xr_nei (k := 4) (by decide) hs1_4
  have ihs1_5 := xr_nei (k := 5) (by decide) hs1_5
  have ihs1_6 := xr_nei (k := 6) (by decide) hs1_6
  have ihs1_7 := xr_nei (k := 7) (by decide) hs1_7
  have ihs1_8 := xr_nei (k := 8) (by decide) hs1_8
  have ihs1_9 := xr_nei (k := 9) (by decide) hs1_9
  have ihs1_10 := xr_nei (k := 10) (by decide) hs1_10
  have ihs1_11 := xr_nei (k := 11) (by decide) hs1_11
  refine lv_tableOut (tgt := 164) hx hb dX11_count_1 (by omega) (by decide) ?_
  refine lv_iconst (v := (-1 : Int32)) hx hb dX11_count_164 (by decide) ?_
  rw [← Option.some.inj h] at hK
  have hK : ((-1 : Int32), M) = (ro, mo) := hK
  obtain ⟨hK1, hK2⟩ := Prod.mk.inj hK
  rw [hK2] at O
  refine xr_top (w := .int ro) (by rw [hK1]) ?_
  exact xr_iret X hr hlk O dX11_count_165
def F_X12_within_17 (M : xM) : Option (Int32 × xM) :=
(xz (0 : Int32)).bind fun t2 =>
some (t2, M)
def F_X12_within (a0 : Int64) (a1 : Int64) (a2 : Int64) (M : xM) : Option (Int32 × xM) :=
if (lg_cmp a0 a1) < 0 then (
F_X12_within_17 M)
else (
if 0 < (lg_cmp a0 a2) then (
F_X12_within_17 M)
else (
(xz (1 : Int32)).bind fun t1 =>
some (t1, M)))
set_option maxRecDepth 100000 in
set_option maxHeartbeats 4000000 in
theorem F_X12_within_17_ok (X : xX p s m args c cX12_within 6 RX12 κ) (hr : meth.sig.returnType = (some .boolean)) (hlk : meth.locks = false) {ro : Int32} {mo : xM} (M : xM) (x : Int32 × xM) (h : F_X12_within_17 M = some x) (hK : (fun o => o = (ro, mo)) x) (H : Heap) (locs : List Loc) (ls : Array Slot) (O : xO κ s M H locs) (hl : lv_has ls 6 []) : W p l e (xRm 2 0 0) s m args below meth c H locs 0 0 (xQf below args s 0 0 κ (some (.int ro)) mo) (F0 m 17 ls []) := by
  unfold F_X12_within_17 at h
  have hx := X.1
  have hb := X.2.1
  refine lv_iconst (v := (0 : Int32)) hx hb dX12_within_17 (by decide) ?_
  obtain ⟨t2, ht2, h⟩ := Option.bind_eq_some_iff.mp h
  rw [← Option.some.inj h] at hK
  have hK : (t2, M) = (ro, mo) := hK
  obtain ⟨hK1, hK2⟩ := Prod.mk.inj hK
  rw [hK1] at ht2
  rw [hK2] at O
  exact xr_zret X hr hlk O ht2 dX12_within_18
set_option maxRecDepth 100000 in
set_option maxHeartbeats 4000000 in
theorem T_X12_within (l : Launch) (κ : xQ) (a0 : Int64) (a1 : Int64) (a2 : Int64) (M : xM) (ro : Int32) (mo : xM) (h : F_X12_within a0 a1 a2 M = some (ro, mo)) : xC l yX12_within cX12_within 6 (some .boolean) 2 0 0 κ [.long a0, .long a1, .long a2] M (some (.int ro)) mo := by
  refine xC_of rfl (Nat.le_of_ble_eq_true rfl) fun p e s m args below meth c X hr hlk hnm H locs ls O hl => ?_
  have X : xX p s m args c cX12_within 6 RX12 κ := X
  have hl : lv_has ls 6 [(0, .long a0), (2, .long a1), (4, .long a2)] := hl
  have hx := X.1
  have hb := X.2.1
  obtain ⟨x, hx0⟩ : ∃ x, (ro, mo) = x := ⟨_, rfl⟩
  rw [hx0] at h
  have hK : x = (ro, mo) := hx0.symm
  unfold F_X12_within at h
  refine lv_lload_n hx hb dX12_within_0 rfl (lv_at hl 0 rfl) ?_
  refine lv_lload_n hx hb dX12_within_1 rfl (lv_at hl 1 rfl) ?_
  refine W.lcmp hx hb dX12_within_2 ?_
  refine lv_if_lt (tgt := 17) hx hb dX12_within_3 (by decide) (fun hc3 => ?_) (fun hc3 => ?_)
  · rw [if_pos hc3] at h
    exact F_X12_within_17_ok X hr hlk  M _ h hK H locs ls O (lv_sub hl [] rfl)
  rw [if_neg hc3] at h
  refine lv_lload_n hx hb dX12_within_6 rfl (lv_at hl 0 rfl) ?_
  refine lv_lload hx hb dX12_within_7 (lv_at hl 2 rfl) ?_
  refine W.lcmp hx hb dX12_within_9 ?_
  refine lv_if_gt (tgt := 17) hx hb dX12_within_10 (by decide) (fun hc10 => ?_) (fun hc10 => ?_)
  · rw [if_pos hc10] at h
    exact F_X12_within_17_ok X hr hlk  M _ h hK H locs ls O (lv_sub hl [] rfl)
  rw [if_neg hc10] at h
  refine lv_iconst (v := (1 : Int32)) hx hb dX12_within_13 (by decide) ?_
  refine lv_goto (tgt := 18) hx hb dX12_within_14 (by decide) ?_
  obtain ⟨t1, ht1, h⟩ := Option.bind_eq_some_iff.mp h
  rw [← Option.some.inj h] at hK
  have hK : (t1, M) = (ro, mo) := hK
  obtain ⟨hK1, hK2⟩ := Prod.mk.inj hK
  rw [hK1] at ht1
  rw [hK2] at O
  exact xr_zret X hr hlk O ht1 dX12_within_18
def F_X12_plain_19 (v0 : Nat) (M : xM) : Option (xM) :=
(xsI M v0 (1 : Int32) (1 : Int32)).bind fun t2 =>
(xsI t2 v0 (2 : Int32) (1 : Int32)).bind fun t3 =>
some t3
def F_X12_plain_2b (v0 : Nat) : (Int32 × xM) → Option ((Int32 × xM) ⊕ (xM)) := fun ⟨v1, M⟩ =>
if (1420 : Int32) ≤ v1 then (
(F_X12_plain_19 v0 M).map Sum.inr)
else (
(xsI M v0 v1 (0 : Int32)).bind fun t1 =>
some (.inl ((v1 + 1), t1)))
def F_X12_plain_2 (v0 : Nat) (v1 : Int32) (M : xM) : Option (xM) := xit (F_X12_plain_2b v0) xFU (v1, M)
def F_X12_plain (a0 : Nat) (M : xM) : Option (xM) :=
F_X12_plain_2 a0 (0 : Int32) M
set_option maxRecDepth 100000 in
set_option maxHeartbeats 4000000 in
theorem F_X12_plain_19_ok (X : xX p s m args c cX12_plain 2 RX12 κ) (hr : meth.sig.returnType = none) (hlk : meth.locks = false) {mo : xM} (v0 : Nat) (M : xM) (x : xM) (h : F_X12_plain_19 v0 M = some x) (hK : (fun o => o = mo) x) (H : Heap) (locs : List Loc) (ls : Array Slot) (O : xO κ s M H locs) (hl : lv_has ls 2 [(0, .ref (κ.1 + v0))]) : W p l e (xRm 2 0 0) s m args below meth c H locs 0 0 (xQf below args s 0 0 κ none mo) (F0 m 19 ls []) := by
  unfold F_X12_plain_19 at h
  have hx := X.1
  have hb := X.2.1
  refine lv_aload_n hx hb dX12_plain_19 rfl (lv_at hl 0 rfl) ?_
  refine lv_iconst (v := (1 : Int32)) hx hb dX12_plain_20 (by decide) ?_
  refine lv_iconst (v := (1 : Int32)) hx hb dX12_plain_21 (by decide) ?_
  obtain ⟨t2, ht2, h⟩ := Option.bind_eq_some_iff.mp h
  refine xr_stI X O ht2 dX12_plain_22 (fun H locs O => ?_)
  refine lv_aload_n hx hb dX12_plain_23 rfl (lv_at hl 0 rfl) ?_
  refine lv_iconst (v := (2 : Int32)) hx hb dX12_plain_24 (by decide) ?_
  refine lv_iconst (v := (1 : Int32)) hx hb dX12_plain_25 (by decide) ?_
  obtain ⟨t3, ht3, h⟩ := Option.bind_eq_some_iff.mp h
  refine xr_stI X O ht3 dX12_plain_26 (fun H locs O => ?_)
  rw [← Option.some.inj h] at hK
  have hK : t3 = mo := hK
  rw [hK] at O
  exact xr_vret X hr hlk O dX12_plain_27
set_option maxRecDepth 100000 in
set_option maxHeartbeats 4000000 in
theorem F_X12_plain_2_bok (X : xX p s m args c cX12_plain 2 RX12 κ) (hr : meth.sig.returnType = none) (hlk : meth.locks = false) {mo : xM} (v0 : Nat) (v1 : Int32) {W2 : Int32 × xM → Prop} (hW2 : ∀ (v1 : Int32) (M : xM), W2 (v1, M) → ∀ (H : Heap) (locs : List Loc) (ls : Array Slot), xO κ s M H locs → lv_has ls 2 [(0, .ref (κ.1 + v0)), (1, .int v1)] → W p l e (xRm 2 0 0) s m args below meth c H locs 0 0 (xQf below args s 0 0 κ none mo) (F0 m 2 ls [])) (M : xM) (x : (Int32 × xM) ⊕ (xM)) (h : F_X12_plain_2b v0 (v1, M) = some x) (hK : (xKl W2 (fun o => o = mo)) x) (H : Heap) (locs : List Loc) (ls : Array Slot) (O : xO κ s M H locs) (hl : lv_has ls 2 [(0, .ref (κ.1 + v0)), (1, .int v1)]) : W p l e (xRm 2 0 0) s m args below meth c H locs 0 0 (xQf below args s 0 0 κ none mo) (F0 m 2 ls []) := by
  unfold F_X12_plain_2b at h
  dsimp only at h
  have hx := X.1
  have hb := X.2.1
  refine lv_iload_n hx hb dX12_plain_2 rfl (lv_at hl 1 rfl) ?_
  refine lv_sipush (v := (1420 : Int32)) hx hb dX12_plain_3 (by decide) ?_
  refine lv_icmp_ge (tgt := 19) hx hb dX12_plain_6 (by decide) (fun hc6 => ?_) (fun hc6 => ?_)
  · rw [if_pos hc6] at h
    obtain ⟨_, hw0, ew0⟩ := Option.map_eq_some_iff.mp h
    rw [← ew0] at hK
    have h := hw0
    exact F_X12_plain_19_ok X hr hlk v0 M _ h hK H locs ls O (lv_sub hl [0] rfl)
  rw [if_neg hc6] at h
  refine lv_aload_n hx hb dX12_plain_9 rfl (lv_at hl 0 rfl) ?_
  refine lv_iload_n hx hb dX12_plain_10 rfl (lv_at hl 1 rfl) ?_
  refine lv_iconst (v := (0 : Int32)) hx hb dX12_plain_11 (by decide) ?_
  obtain ⟨t1, ht1, h⟩ := Option.bind_eq_some_iff.mp h
  refine xr_stI X O ht1 dX12_plain_12 (fun H locs O => ?_)
  refine lv_iinc (v := (v1 + 1)) (lv' := [(1, .int (v1 + 1)), (0, .ref (κ.1 + v0))]) hx hb dX12_plain_13 hl (k := 1) rfl rfl (by decide) rfl (fun ls hl => ?_)
  refine lv_goto (tgt := 2) hx hb dX12_plain_16 (by decide) ?_
  rw [← Option.some.inj h] at hK
  exact hW2 (v1 + 1) t1 hK H locs ls O (lv_sub hl [1, 0] rfl)
set_option maxRecDepth 100000 in
set_option maxHeartbeats 4000000 in
theorem F_X12_plain_2_ok (X : xX p s m args c cX12_plain 2 RX12 κ) (hr : meth.sig.returnType = none) (hlk : meth.locks = false) {mo : xM} (v0 : Nat) (v1 : Int32) (M : xM) (x : xM) (h : F_X12_plain_2 v0 v1 M = some x) (hK : (fun o => o = mo) x) (H : Heap) (locs : List Loc) (ls : Array Slot) (O : xO κ s M H locs) (hl : lv_has ls 2 [(0, .ref (κ.1 + v0)), (1, .int v1)]) : W p l e (xRm 2 0 0) s m args below meth c H locs 0 0 (xQf below args s 0 0 κ none mo) (F0 m 2 ls []) := by
  refine xit_K (Wh := fun x => ∀ (H : Heap) (locs : List Loc) (ls : Array Slot), xO κ s x.2 H locs → lv_has ls 2 [(0, .ref (κ.1 + v0)), (1, .int x.1)] → W p l e (xRm 2 0 0) s m args below meth c H locs 0 0 (xQf below args s 0 0 κ none mo) (F0 m 2 ls [])) (Kp := (fun o => o = mo)) ?_ xFU (v1, M) x h hK H locs ls O hl
  intro y x h hK H locs ls O hl
  exact F_X12_plain_2_bok X hr hlk v0 y.1 (fun _ _ hw => hw) y.2 x h hK H locs ls O hl
set_option maxRecDepth 100000 in
set_option maxHeartbeats 4000000 in
theorem T_X12_plain (l : Launch) (κ : xQ) (a0 : Nat) (M : xM) (mo : xM) (h : F_X12_plain a0 M = some mo) : xC l yX12_plain cX12_plain 2 none 2 0 0 κ [.ref (κ.1 + a0)] M none mo := by
  refine xC_of rfl (Nat.le_of_ble_eq_true rfl) fun p e s m args below meth c X hr hlk hnm H locs ls O hl => ?_
  have X : xX p s m args c cX12_plain 2 RX12 κ := X
  have hl : lv_has ls 2 [(0, .ref (κ.1 + a0))] := hl
  have hx := X.1
  have hb := X.2.1
  obtain ⟨x, hx0⟩ : ∃ x, mo = x := ⟨_, rfl⟩
  rw [hx0] at h
  have hK : x = mo := hx0.symm
  unfold F_X12_plain at h
  refine lv_iconst (v := (0 : Int32)) hx hb dX12_plain_0 (by decide) ?_
  refine lv_istore_n (lv' := [(1, .int (0 : Int32)), (0, .ref (κ.1 + a0))]) hx hb dX12_plain_1 rfl hl (by decide) rfl (fun ls hl => ?_)
  exact F_X12_plain_2_ok X hr hlk a0 (0 : Int32) M _ h hK H locs ls O (lv_sub hl [1, 0] rfl)
def F_X12_init (a0 : Nat) (M : xM) : Option (xM) :=
(some (xnw M (20, 4260))).bind fun t1 =>
(xpP t1 a0 12 1 M.1.length).bind fun t2 =>
(some (xnw t2 (22, 2))).bind fun t3 =>
(xpP t3 a0 12 2 t2.1.length).bind fun t4 =>
(some (xnw t4 (20, 900))).bind fun t5 =>
(xpP t5 a0 12 3 t4.1.length).bind fun t6 =>
(some (xnw t6 (20, 1420))).bind fun t7 =>
(xpP t7 a0 12 4 t6.1.length).bind fun t8 =>
(xpI t8 a0 12 14 (-1 : Int32)).bind fun t9 =>
(some (xnw t9 (20, 900))).bind fun t10 =>
(xpP t10 a0 12 16 t9.1.length).bind fun t11 =>
(some (xnw t11 (20, 6))).bind fun t12 =>
(xpP t12 a0 12 17 t11.1.length).bind fun t13 =>
(some (xnw t13 (20, 25))).bind fun t14 =>
(xpP t14 a0 12 18 t13.1.length).bind fun t15 =>
(some (xnw t15 (20, 25))).bind fun t16 =>
(xpP t16 a0 12 19 t15.1.length).bind fun t17 =>
(some (xnw t17 (20, 41))).bind fun t18 =>
(xpP t18 a0 12 22 t17.1.length).bind fun t19 =>
(some (xnw t19 (20, 2601))).bind fun t20 =>
(xpP t20 a0 12 25 t19.1.length).bind fun t21 =>
(some (xnw t21 (20, 51))).bind fun t22 =>
(xpP t22 a0 12 26 t21.1.length).bind fun t23 =>
(some (xnw t23 (20, 51))).bind fun t24 =>
(xpP t24 a0 12 27 t23.1.length).bind fun t25 =>
(some (xnw t25 (20, 6))).bind fun t26 =>
(xpP t26 a0 12 28 t25.1.length).bind fun t27 =>
(some (xnw t27 (20, 6))).bind fun t28 =>
(xpP t28 a0 12 29 t27.1.length).bind fun t29 =>
(some (xnw t29 (20, 11))).bind fun t30 =>
(xpP t30 a0 12 30 t29.1.length).bind fun t31 =>
(some (xnw t31 (20, 225))).bind fun t32 =>
(xpP t32 a0 12 31 t31.1.length).bind fun t33 =>
(some (xnw t33 (24, 6))).bind fun t34 =>
(xpP t34 a0 12 32 t33.1.length).bind fun t35 =>
(some (xnw t35 (20, 4))).bind fun t36 =>
(xsI t36 t35.1.length (0 : Int32) (-1 : Int32)).bind fun t37 =>
(xsI t37 t35.1.length (1 : Int32) (-1 : Int32)).bind fun t38 =>
(xsI t38 t35.1.length (2 : Int32) (-1 : Int32)).bind fun t39 =>
(xsI t39 t35.1.length (3 : Int32) (-1 : Int32)).bind fun t40 =>
(xpP t40 a0 12 33 t35.1.length).bind fun t41 =>
(some (xnw t41 (20, 4))).bind fun t42 =>
(xpP t42 a0 12 34 t41.1.length).bind fun t43 =>
(some (xnw t43 (24, 160))).bind fun t44 =>
(xpP t44 a0 12 35 t43.1.length).bind fun t45 =>
(xgP t45 a0 12 1).bind fun t46 =>
(F_X12_plain t46 t45).bind fun t47 =>
some t47
set_option maxRecDepth 100000 in
set_option maxHeartbeats 4000000 in
theorem T_X12_init (l : Launch) (κ : xQ) (a0 : Nat) (M : xM) (mo : xM) (h : F_X12_init a0 M = some mo) : xC l yX12_init cX12_init 1 none 3 20 10704 κ [.ref (κ.1 + a0)] M none mo := by
  refine xC_of rfl (Nat.le_of_ble_eq_true rfl) fun p e s m args below meth c X hr hlk hnm H locs ls O hl => ?_
  have X : xX p s m args c cX12_init 1 RX12 κ := X
  have hl : lv_has ls 1 [(0, .ref (κ.1 + a0))] := hl
  have hx := X.1
  have hb := X.2.1
  obtain ⟨x, hx0⟩ : ∃ x, mo = x := ⟨_, rfl⟩
  rw [hx0] at h
  have hK : x = mo := hx0.symm
  unfold F_X12_init at h
  refine lv_aload_n hx hb dX12_init_0 rfl (lv_at hl 0 rfl) ?_
  refine xr_objI X lo_X12_7.1 lo_X12_7.2.1 lo_X12_7.2.2 hl.1 (by decide) dX12_init_1 ?_
  refine W.eq (g2 := F0 m 4 ls []) rfl ?_
  refine lv_aload_n hx hb dX12_init_4 rfl (lv_at hl 0 rfl) ?_
  refine lv_sipush (v := (4260 : Int32)) hx hb dX12_init_5 (by decide) ?_
  obtain ⟨t1, ht1, h⟩ := Option.bind_eq_some_iff.mp h
  refine xr_newI (N := 4260) X O (xw_t1 133 (by decide +kernel) rfl) (by decide) (by decide) (by decide) (Nat.le_of_ble_eq_true rfl) (Nat.le_of_ble_eq_true rfl) dX12_init_8 (fun H locs O => ?_)
  rw [Option.some.inj ht1] at O
  refine W.eq (g2 := F0 m 10 ls [.ref (κ.1 + M.1.length), .ref (κ.1 + a0)]) rfl ?_
  obtain ⟨t2, ht2, h⟩ := Option.bind_eq_some_iff.mp h
  refine xr_putP X O ht2 fl_X12_13 (fun _ => ⟨hnm, rfl⟩) dX12_init_10 (fun H locs O => ?_)
  refine lv_aload_n hx hb dX12_init_13 rfl (lv_at hl 0 rfl) ?_
  refine lv_iconst (v := (2 : Int32)) hx hb dX12_init_14 (by decide) ?_
  obtain ⟨t3, ht3, h⟩ := Option.bind_eq_some_iff.mp h
  refine xr_newZ (N := 2) X O (xw_t6 138 (by decide +kernel) rfl) (by decide) (by decide) (by decide) (Nat.le_of_ble_eq_true rfl) (Nat.le_of_ble_eq_true rfl) dX12_init_15 (fun H locs O => ?_)
  rw [Option.some.inj ht3] at O
  refine W.eq (g2 := F0 m 17 ls [.ref (κ.1 + t2.1.length), .ref (κ.1 + a0)]) rfl ?_
  obtain ⟨t4, ht4, h⟩ := Option.bind_eq_some_iff.mp h
  refine xr_putP X O ht4 fl_X12_17 (fun _ => ⟨hnm, rfl⟩) dX12_init_17 (fun H locs O => ?_)
  refine lv_aload_n hx hb dX12_init_20 rfl (lv_at hl 0 rfl) ?_
  refine lv_sipush (v := (900 : Int32)) hx hb dX12_init_21 (by decide) ?_
  obtain ⟨t5, ht5, h⟩ := Option.bind_eq_some_iff.mp h
  refine xr_newI (N := 900) X O (xw_t1 133 (by decide +kernel) rfl) (by decide) (by decide) (by decide) (Nat.le_of_ble_eq_true rfl) (Nat.le_of_ble_eq_true rfl) dX12_init_24 (fun H locs O => ?_)
  rw [Option.some.inj ht5] at O
  refine W.eq (g2 := F0 m 26 ls [.ref (κ.1 + t4.1.length), .ref (κ.1 + a0)]) rfl ?_
  obtain ⟨t6, ht6, h⟩ := Option.bind_eq_some_iff.mp h
  refine xr_putP X O ht6 fl_X12_21 (fun _ => ⟨hnm, rfl⟩) dX12_init_26 (fun H locs O => ?_)
  refine lv_aload_n hx hb dX12_init_29 rfl (lv_at hl 0 rfl) ?_
  refine lv_sipush (v := (1420 : Int32)) hx hb dX12_init_30 (by decide) ?_
  obtain ⟨t7, ht7, h⟩ := Option.bind_eq_some_iff.mp h
  refine xr_newI (N := 1420) X O (xw_t1 133 (by decide +kernel) rfl) (by decide) (by decide) (by decide) (Nat.le_of_ble_eq_true rfl) (Nat.le_of_ble_eq_true rfl) dX12_init_33 (fun H locs O => ?_)
  rw [Option.some.inj ht7] at O
  refine W.eq (g2 := F0 m 35 ls [.ref (κ.1 + t6.1.length), .ref (κ.1 + a0)]) rfl ?_
  obtain ⟨t8, ht8, h⟩ := Option.bind_eq_some_iff.mp h
  refine xr_putP X O ht8 fl_X12_24 (fun _ => ⟨hnm, rfl⟩) dX12_init_35 (fun H locs O => ?_)
  refine lv_aload_n hx hb dX12_init_38 rfl (lv_at hl 0 rfl) ?_
  refine lv_iconst (v := (-1 : Int32)) hx hb dX12_init_39 (by decide) ?_
  obtain ⟨t9, ht9, h⟩ := Option.bind_eq_some_iff.mp h
  refine xr_putI X O ht9 fl_X12_27 dX12_init_40 (fun H locs O => ?_)
  refine lv_aload_n hx hb dX12_init_43 rfl (lv_at hl 0 rfl) ?_
  refine lv_sipush (v := (900 : Int32)) hx hb dX12_init_44 (by decide) ?_
  obtain ⟨t10, ht10, h⟩ := Option.bind_eq_some_iff.mp h
  refine xr_newI (N := 900) X O (xw_t1 133 (by decide +kernel) rfl) (by decide) (by decide) (by decide) (Nat.le_of_ble_eq_true rfl) (Nat.le_of_ble_eq_true rfl) dX12_init_47 (fun H locs O => ?_)
  rw [Option.some.inj ht10] at O
  refine W.eq (g2 := F0 m 49 ls [.ref (κ.1 + t9.1.length), .ref (κ.1 + a0)]) rfl ?_
  obtain ⟨t11, ht11, h⟩ := Option.bind_eq_some_iff.mp h
  refine xr_putP X O ht11 fl_X12_30 (fun _ => ⟨hnm, rfl⟩) dX12_init_49 (fun H locs O => ?_)
  refine lv_aload_n hx hb dX12_init_52 rfl (lv_at hl 0 rfl) ?_
  refine lv_bipush (v := (6 : Int32)) hx hb dX12_init_53 (by decide) ?_
  obtain ⟨t12, ht12, h⟩ := Option.bind_eq_some_iff.mp h
  refine xr_newI (N := 6) X O (xw_t1 133 (by decide +kernel) rfl) (by decide) (by decide) (by decide) (Nat.le_of_ble_eq_true rfl) (Nat.le_of_ble_eq_true rfl) dX12_init_55 (fun H locs O => ?_)
  rw [Option.some.inj ht12] at O
  refine W.eq (g2 := F0 m 57 ls [.ref (κ.1 + t11.1.length), .ref (κ.1 + a0)]) rfl ?_
  obtain ⟨t13, ht13, h⟩ := Option.bind_eq_some_iff.mp h
  refine xr_putP X O ht13 fl_X12_33 (fun _ => ⟨hnm, rfl⟩) dX12_init_57 (fun H locs O => ?_)
  refine lv_aload_n hx hb dX12_init_60 rfl (lv_at hl 0 rfl) ?_
  refine lv_bipush (v := (25 : Int32)) hx hb dX12_init_61 (by decide) ?_
  obtain ⟨t14, ht14, h⟩ := Option.bind_eq_some_iff.mp h
  refine xr_newI (N := 25) X O (xw_t1 133 (by decide +kernel) rfl) (by decide) (by decide) (by decide) (Nat.le_of_ble_eq_true rfl) (Nat.le_of_ble_eq_true rfl) dX12_init_63 (fun H locs O => ?_)
  rw [Option.some.inj ht14] at O
  refine W.eq (g2 := F0 m 65 ls [.ref (κ.1 + t13.1.length), .ref (κ.1 + a0)]) rfl ?_
  obtain ⟨t15, ht15, h⟩ := Option.bind_eq_some_iff.mp h
  refine xr_putP X O ht15 fl_X12_36 (fun _ => ⟨hnm, rfl⟩) dX12_init_65 (fun H locs O => ?_)
  refine lv_aload_n hx hb dX12_init_68 rfl (lv_at hl 0 rfl) ?_
  refine lv_bipush (v := (25 : Int32)) hx hb dX12_init_69 (by decide) ?_
  obtain ⟨t16, ht16, h⟩ := Option.bind_eq_some_iff.mp h
  refine xr_newI (N := 25) X O (xw_t1 133 (by decide +kernel) rfl) (by decide) (by decide) (by decide) (Nat.le_of_ble_eq_true rfl) (Nat.le_of_ble_eq_true rfl) dX12_init_71 (fun H locs O => ?_)
  rw [Option.some.inj ht16] at O
  refine W.eq (g2 := F0 m 73 ls [.ref (κ.1 + t15.1.length), .ref (κ.1 + a0)]) rfl ?_
  obtain ⟨t17, ht17, h⟩ := Option.bind_eq_some_iff.mp h
  refine xr_putP X O ht17 fl_X12_39 (fun _ => ⟨hnm, rfl⟩) dX12_init_73 (fun H locs O => ?_)
  refine lv_aload_n hx hb dX12_init_76 rfl (lv_at hl 0 rfl) ?_
  refine lv_bipush (v := (41 : Int32)) hx hb dX12_init_77 (by decide) ?_
  obtain ⟨t18, ht18, h⟩ := Option.bind_eq_some_iff.mp h
  refine xr_newI (N := 41) X O (xw_t1 133 (by decide +kernel) rfl) (by decide) (by decide) (by decide) (Nat.le_of_ble_eq_true rfl) (Nat.le_of_ble_eq_true rfl) dX12_init_79 (fun H locs O => ?_)
  rw [Option.some.inj ht18] at O
  refine W.eq (g2 := F0 m 81 ls [.ref (κ.1 + t17.1.length), .ref (κ.1 + a0)]) rfl ?_
  obtain ⟨t19, ht19, h⟩ := Option.bind_eq_some_iff.mp h
  refine xr_putP X O ht19 fl_X12_42 (fun _ => ⟨hnm, rfl⟩) dX12_init_81 (fun H locs O => ?_)
  refine lv_aload_n hx hb dX12_init_84 rfl (lv_at hl 0 rfl) ?_
  refine lv_sipush (v := (2601 : Int32)) hx hb dX12_init_85 (by decide) ?_
  obtain ⟨t20, ht20, h⟩ := Option.bind_eq_some_iff.mp h
  refine xr_newI (N := 2601) X O (xw_t1 133 (by decide +kernel) rfl) (by decide) (by decide) (by decide) (Nat.le_of_ble_eq_true rfl) (Nat.le_of_ble_eq_true rfl) dX12_init_88 (fun H locs O => ?_)
  rw [Option.some.inj ht20] at O
  refine W.eq (g2 := F0 m 90 ls [.ref (κ.1 + t19.1.length), .ref (κ.1 + a0)]) rfl ?_
  obtain ⟨t21, ht21, h⟩ := Option.bind_eq_some_iff.mp h
  refine xr_putP X O ht21 fl_X12_45 (fun _ => ⟨hnm, rfl⟩) dX12_init_90 (fun H locs O => ?_)
  refine lv_aload_n hx hb dX12_init_93 rfl (lv_at hl 0 rfl) ?_
  refine lv_bipush (v := (51 : Int32)) hx hb dX12_init_94 (by decide) ?_
  obtain ⟨t22, ht22, h⟩ := Option.bind_eq_some_iff.mp h
  refine xr_newI (N := 51) X O (xw_t1 133 (by decide +kernel) rfl) (by decide) (by decide) (by decide) (Nat.le_of_ble_eq_true rfl) (Nat.le_of_ble_eq_true rfl) dX12_init_96 (fun H locs O => ?_)
  rw [Option.some.inj ht22] at O
  refine W.eq (g2 := F0 m 98 ls [.ref (κ.1 + t21.1.length), .ref (κ.1 + a0)]) rfl ?_
  obtain ⟨t23, ht23, h⟩ := Option.bind_eq_some_iff.mp h
  refine xr_putP X O ht23 fl_X12_48 (fun _ => ⟨hnm, rfl⟩) dX12_init_98 (fun H locs O => ?_)
  refine lv_aload_n hx hb dX12_init_101 rfl (lv_at hl 0 rfl) ?_
  refine lv_bipush (v := (51 : Int32)) hx hb dX12_init_102 (by decide) ?_
  obtain ⟨t24, ht24, h⟩ := Option.bind_eq_some_iff.mp h
  refine xr_newI (N := 51) X O (xw_t1 133 (by decide +kernel) rfl) (by decide) (by decide) (by decide) (Nat.le_of_ble_eq_true rfl) (Nat.le_of_ble_eq_true rfl) dX12_init_104 (fun H locs O => ?_)
  rw [Option.some.inj ht24] at O
  refine W.eq (g2 := F0 m 106 ls [.ref (κ.1 + t23.1.length), .ref (κ.1 + a0)]) rfl ?_
  obtain ⟨t25, ht25, h⟩ := Option.bind_eq_some_iff.mp h
  refine xr_putP X O ht25 fl_X12_51 (fun _ => ⟨hnm, rfl⟩) dX12_init_106 (fun H locs O => ?_)
  refine lv_aload_n hx hb dX12_init_109 rfl (lv_at hl 0 rfl) ?_
  refine lv_bipush (v := (6 : Int32)) hx hb dX12_init_110 (by decide) ?_
  obtain ⟨t26, ht26, h⟩ := Option.bind_eq_some_iff.mp h
  refine xr_newI (N := 6) X O (xw_t1 133 (by decide +kernel) rfl) (by decide) (by decide) (by decide) (Nat.le_of_ble_eq_true rfl) (Nat.le_of_ble_eq_true rfl) dX12_init_112 (fun H locs O => ?_)
  rw [Option.some.inj ht26] at O
  refine W.eq (g2 := F0 m 114 ls [.ref (κ.1 + t25.1.length), .ref (κ.1 + a0)]) rfl ?_
  obtain ⟨t27, ht27, h⟩ := Option.bind_eq_some_iff.mp h
  refine xr_putP X O ht27 fl_X12_54 (fun _ => ⟨hnm, rfl⟩) dX12_init_114 (fun H locs O => ?_)
  refine lv_aload_n hx hb dX12_init_117 rfl (lv_at hl 0 rfl) ?_
  refine lv_bipush (v := (6 : Int32)) hx hb dX12_init_118 (by decide) ?_
  obtain ⟨t28, ht28, h⟩ := Option.bind_eq_some_iff.mp h
  refine xr_newI (N := 6) X O (xw_t1 133 (by decide +kernel) rfl) (by decide) (by decide) (by decide) (Nat.le_of_ble_eq_true rfl) (Nat.le_of_ble_eq_true rfl) dX12_init_120 (fun H locs O => ?_)
  rw [Option.some.inj ht28] at O
  refine W.eq (g2 := F0 m 122 ls [.ref (κ.1 + t27.1.length), .ref (κ.1 + a0)]) rfl ?_
  obtain ⟨t29, ht29, h⟩ := Option.bind_eq_some_iff.mp h
  refine xr_putP X O ht29 fl_X12_57 (fun _ => ⟨hnm, rfl⟩) dX12_init_122 (fun H locs O => ?_)
  refine lv_aload_n hx hb dX12_init_125 rfl (lv_at hl 0 rfl) ?_
  refine lv_bipush (v := (11 : Int32)) hx hb dX12_init_126 (by decide) ?_
  obtain ⟨t30, ht30, h⟩ := Option.bind_eq_some_iff.mp h
  refine xr_newI (N := 11) X O (xw_t1 133 (by decide +kernel) rfl) (by decide) (by decide) (by decide) (Nat.le_of_ble_eq_true rfl) (Nat.le_of_ble_eq_true rfl) dX12_init_128 (fun H locs O => ?_)
  rw [Option.some.inj ht30] at O
  refine W.eq (g2 := F0 m 130 ls [.ref (κ.1 + t29.1.length), .ref (κ.1 + a0)]) rfl ?_
  obtain ⟨t31, ht31, h⟩ := Option.bind_eq_some_iff.mp h
  refine xr_putP X O ht31 fl_X12_60 (fun _ => ⟨hnm, rfl⟩) dX12_init_130 (fun H locs O => ?_)
  refine lv_aload_n hx hb dX12_init_133 rfl (lv_at hl 0 rfl) ?_
  refine lv_sipush (v := (225 : Int32)) hx hb dX12_init_134 (by decide) ?_
  obtain ⟨t32, ht32, h⟩ := Option.bind_eq_some_iff.mp h
  refine xr_newI (N := 225) X O (xw_t1 133 (by decide +kernel) rfl) (by decide) (by decide) (by decide) (Nat.le_of_ble_eq_true rfl) (Nat.le_of_ble_eq_true rfl) dX12_init_137 (fun H locs O => ?_)
  rw [Option.some.inj ht32] at O
  refine W.eq (g2 := F0 m 139 ls [.ref (κ.1 + t31.1.length), .ref (κ.1 + a0)]) rfl ?_
  obtain ⟨t33, ht33, h⟩ := Option.bind_eq_some_iff.mp h
  refine xr_putP X O ht33 fl_X12_63 (fun _ => ⟨hnm, rfl⟩) dX12_init_139 (fun H locs O => ?_)
  refine lv_aload_n hx hb dX12_init_142 rfl (lv_at hl 0 rfl) ?_
  refine lv_bipush (v := (6 : Int32)) hx hb dX12_init_143 (by decide) ?_
  obtain ⟨t34, ht34, h⟩ := Option.bind_eq_some_iff.mp h
  refine xr_newJ (N := 6) X O (xw_t2 50 (by decide +kernel) rfl) (by decide) (by decide) (by decide) (Nat.le_of_ble_eq_true rfl) (Nat.le_of_ble_eq_true rfl) dX12_init_145 (fun H locs O => ?_)
  rw [Option.some.inj ht34] at O
  refine W.eq (g2 := F0 m 147 ls [.ref (κ.1 + t33.1.length), .ref (κ.1 + a0)]) rfl ?_
  obtain ⟨t35, ht35, h⟩ := Option.bind_eq_some_iff.mp h
  refine xr_putP X O ht35 fl_X12_66 (fun _ => ⟨hnm, rfl⟩) dX12_init_147 (fun H locs O => ?_)
  refine lv_aload_n hx hb dX12_init_150 rfl (lv_at hl 0 rfl) ?_
  refine lv_iconst (v := (4 : Int32)) hx hb dX12_init_151 (by decide) ?_
  obtain ⟨t36, ht36, h⟩ := Option.bind_eq_some_iff.mp h
  refine xr_newI (N := 4) X O (xw_t1 133 (by decide +kernel) rfl) (by decide) (by decide) (by decide) (Nat.le_of_ble_eq_true rfl) (Nat.le_of_ble_eq_true rfl) dX12_init_152 (fun H locs O => ?_)
  rw [Option.some.inj ht36] at O
  refine W.eq (g2 := F0 m 154 ls [.ref (κ.1 + t35.1.length), .ref (κ.1 + a0)]) rfl ?_
  refine lv_dup hx hb dX12_init_154 rfl ?_
  refine lv_iconst (v := (0 : Int32)) hx hb dX12_init_155 (by decide) ?_
  refine lv_iconst (v := (-1 : Int32)) hx hb dX12_init_156 (by decide) ?_
  obtain ⟨t37, ht37, h⟩ := Option.bind_eq_some_iff.mp h
  refine xr_stI X O ht37 dX12_init_157 (fun H locs O => ?_)
  refine lv_dup hx hb dX12_init_158 rfl ?_
  refine lv_iconst (v := (1 : Int32)) hx hb dX12_init_159 (by decide) ?_
  refine lv_iconst (v := (-1 : Int32)) hx hb dX12_init_160 (by decide) ?_
  obtain ⟨t38, ht38, h⟩ := Option.bind_eq_some_iff.mp h
  refine xr_stI X O ht38 dX12_init_161 (fun H locs O => ?_)
  refine lv_dup hx hb dX12_init_162 rfl ?_
  refine lv_iconst (v := (2 : Int32)) hx hb dX12_init_163 (by decide) ?_
  refine lv_iconst (v := (-1 : Int32)) hx hb dX12_init_164 (by decide) ?_
  obtain ⟨t39, ht39, h⟩ := Option.bind_eq_some_iff.mp h
  refine xr_stI X O ht39 dX12_init_165 (fun H locs O => ?_)
  refine lv_dup hx hb dX12_init_166 rfl ?_
  refine lv_iconst (v := (3 : Int32)) hx hb dX12_init_167 (by decide) ?_
  refine lv_iconst (v := (-1 : Int32)) hx hb dX12_init_168 (by decide) ?_
  obtain ⟨t40, ht40, h⟩ := Option.bind_eq_some_iff.mp h
  refine xr_stI X O ht40 dX12_init_169 (fun H locs O => ?_)
  obtain ⟨t41, ht41, h⟩ := Option.bind_eq_some_iff.mp h
  refine xr_putP X O ht41 fl_X12_70 (fun _ => ⟨hnm, rfl⟩) dX12_init_170 (fun H locs O => ?_)
  refine lv_aload_n hx hb dX12_init_173 rfl (lv_at hl 0 rfl) ?_
  refine lv_iconst (v := (4 : Int32)) hx hb dX12_init_174 (by decide) ?_
  obtain ⟨t42, ht42, h⟩ := Option.bind_eq_some_iff.mp h
  refine xr_newI (N := 4) X O (xw_t1 133 (by decide +kernel) rfl) (by decide) (by decide) (by decide) (Nat.le_of_ble_eq_true rfl) (Nat.le_of_ble_eq_true rfl) dX12_init_175 (fun H locs O => ?_)
  rw [Option.some.inj ht42] at O
  refine W.eq (g2 := F0 m 177 ls [.ref (κ.1 + t41.1.length), .ref (κ.1 + a0)]) rfl ?_
  obtain ⟨t43, ht43, h⟩ := Option.bind_eq_some_iff.mp h
  refine xr_putP X O ht43 fl_X12_73 (fun _ => ⟨hnm, rfl⟩) dX12_init_177 (fun H locs O => ?_)
  refine lv_aload_n hx hb dX12_init_180 rfl (lv_at hl 0 rfl) ?_
  refine lv_sipush (v := (160 : Int32)) hx hb dX12_init_181 (by decide) ?_
  obtain ⟨t44, ht44, h⟩ := Option.bind_eq_some_iff.mp h
  refine xr_newJ (N := 160) X O (xw_t2 50 (by decide +kernel) rfl) (by decide) (by decide) (by decide) (Nat.le_of_ble_eq_true rfl) (Nat.le_of_ble_eq_true rfl) dX12_init_184 (fun H locs O => ?_)
  rw [Option.some.inj ht44] at O
  refine W.eq (g2 := F0 m 186 ls [.ref (κ.1 + t43.1.length), .ref (κ.1 + a0)]) rfl ?_
  obtain ⟨t45, ht45, h⟩ := Option.bind_eq_some_iff.mp h
  refine xr_putP X O ht45 fl_X12_76 (fun _ => ⟨hnm, rfl⟩) dX12_init_186 (fun H locs O => ?_)
  refine lv_aload_n hx hb dX12_init_189 rfl (lv_at hl 0 rfl) ?_
  obtain ⟨t46, ht46, h⟩ := Option.bind_eq_some_iff.mp h
  refine xr_getP X O ht46 fl_X12_13 dX12_init_190 ?_
  obtain ⟨t47, ht47, h⟩ := Option.bind_eq_some_iff.mp h
  refine xr_callS (rest := []) X O (T_X12_plain l κ t46 t45 _ ht47) lk_X12_79 (Nat.le_of_ble_eq_true rfl) rfl hl.1 rfl (Nat.le_of_ble_eq_true rfl) dX12_init_193 ⟨Nat.le_of_ble_eq_true rfl, Nat.le_of_ble_eq_true rfl⟩ (fun H locs O => ?_)
  refine W.eq (g2 := F0 m 196 ls []) rfl ?_
  rw [← Option.some.inj h] at hK
  have hK : t47 = mo := hK
  rw [hK] at O
  exact xr_vret X hr hlk O dX12_init_196
end G
