section G
variable {p : Program} {l : Launch} {e : Env} {s : State} {m : MethodId} {args : Array Value} {below : List Frame} {meth : Method} {c : Code} {κ : xQ}
def F_X12_between_116 (s0 : Int64) (M : xM) : Option (Int32 × xM) :=
if (lg_cmp s0 (1000000 : Int64)) ≤ 0 then (
if 0 ≤ (lg_cmp s0 (-1000000 : Int64)) then (
some (s0.toInt32, M))
else (
some ((-1000000 : Int64).toInt32, M)))
else (
some ((1000000 : Int64).toInt32, M))
def F_X12_between (a0 : Int32) (a1 : Int32) (a2 : Int32) (M : xM) : Option (Int32 × xM) :=
if a0 = (3003 : Int32) then (
if a1 = a2 then (
some ((1 : Int32), M))
else (
some ((0 : Int32), M)))
else if a0 = (3004 : Int32) then (
if a2 ≤ a1 then (
some ((0 : Int32), M))
else (
some ((1 : Int32), M)))
else if a0 = (3005 : Int32) then (
if a1 ≤ a2 then (
some ((0 : Int32), M))
else (
some ((1 : Int32), M)))
else if a0 = (3007 : Int32) then (
some ((a1 &&& a2), M))
else if a0 = (3008 : Int32) then (
some ((a1 ||| a2), M))
else (
if a0 = (3000 : Int32) then (
F_X12_between_116 (a1.toInt64 + a2.toInt64) M)
else (
if a0 = (3001 : Int32) then (
F_X12_between_116 (a1.toInt64 - a2.toInt64) M)
else (
F_X12_between_116 (a1.toInt64 * a2.toInt64) M)))
set_option maxRecDepth 100000 in
set_option maxHeartbeats 4000000 in
theorem F_X12_between_116_ok (X : xX p s m args c cX12_between 5 RX12 κ) (hr : meth.sig.returnType = (some .int)) (hlk : meth.locks = false) {ro : Int32} {mo : xM} (s0 : Int64) (M : xM) (x : Int32 × xM) (h : F_X12_between_116 s0 M = some x) (hK : (fun o => o = (ro, mo)) x) (H : Heap) (locs : List Loc) (ls : Array Slot) (O : xO κ s M H locs) (hl : lv_has ls 5 []) : W p l e (xRm 2 0 0) s m args below meth c H locs 0 0 (xQf below args s 0 0 κ (some (.int ro)) mo) (F0 m 116 ls [.long s0]) := by
  unfold F_X12_between_116 at h
  have hx := X.1
  have hb := X.2.1
  refine lv_lstore_n (lv' := [(3, .long s0)]) hx hb dX12_between_116 rfl hl (by decide) rfl (fun ls hl => ?_)
  refine lv_lload_n hx hb dX12_between_117 rfl (lv_at hl 0 rfl) ?_
  refine lv_ldc2 (v := (1000000 : Int64)) hx hb X.2.2.2.1 (X.2.2.2.2.1 _ ct_X12_234) dX12_between_118 ?_
  refine W.lcmp hx hb dX12_between_121 ?_
  refine lv_if_le (tgt := 131) hx hb dX12_between_122 (by decide) (fun hc122 => ?_) (fun hc122 => ?_)
  · rw [if_pos hc122] at h
    refine lv_lload_n hx hb dX12_between_131 rfl (lv_at hl 0 rfl) ?_
    refine lv_ldc2 (v := (-1000000 : Int64)) hx hb X.2.2.2.1 (X.2.2.2.2.1 _ ct_X12_236) dX12_between_132 ?_
    refine W.lcmp hx hb dX12_between_135 ?_
    refine lv_if_ge (tgt := 145) hx hb dX12_between_136 (by decide) (fun hc136 => ?_) (fun hc136 => ?_)
    · rw [if_pos hc136] at h
      refine lv_lload_n hx hb dX12_between_145 rfl (lv_at hl 0 rfl) ?_
      refine lv_l2i (v := s0.toInt32) hx hb dX12_between_146 rfl ?_
      rw [← Option.some.inj h] at hK
      have hK : (s0.toInt32, M) = (ro, mo) := hK
      obtain ⟨hK1, hK2⟩ := Prod.mk.inj hK
      rw [hK2] at O
      refine xr_top (w := .int ro) (by rw [hK1]) ?_
      exact xr_iret X hr hlk O dX12_between_147
    rw [if_neg hc136] at h
    refine lv_ldc2 (v := (-1000000 : Int64)) hx hb X.2.2.2.1 (X.2.2.2.2.1 _ ct_X12_236) dX12_between_139 ?_
    refine lv_goto (tgt := 146) hx hb dX12_between_142 (by decide) ?_
    refine lv_l2i (v := (-1000000 : Int64).toInt32) hx hb dX12_between_146 rfl ?_
    rw [← Option.some.inj h] at hK
    have hK : ((-1000000 : Int64).toInt32, M) = (ro, mo) := hK
    obtain ⟨hK1, hK2⟩ := Prod.mk.inj hK
    rw [hK2] at O
    refine xr_top (w := .int ro) (by rw [hK1]) ?_
    exact xr_iret X hr hlk O dX12_between_147
  rw [if_neg hc122] at h
  refine lv_ldc2 (v := (1000000 : Int64)) hx hb X.2.2.2.1 (X.2.2.2.2.1 _ ct_X12_234) dX12_between_125 ?_
  refine lv_goto (tgt := 146) hx hb dX12_between_128 (by decide) ?_
  refine lv_l2i (v := (1000000 : Int64).toInt32) hx hb dX12_between_146 rfl ?_
  rw [← Option.some.inj h] at hK
  have hK : ((1000000 : Int64).toInt32, M) = (ro, mo) := hK
  obtain ⟨hK1, hK2⟩ := Prod.mk.inj hK
  rw [hK2] at O
  refine xr_top (w := .int ro) (by rw [hK1]) ?_
  exact xr_iret X hr hlk O dX12_between_147
set_option maxRecDepth 100000 in
set_option maxHeartbeats 4000000 in
theorem T_X12_between (l : Launch) (κ : xQ) (a0 : Int32) (a1 : Int32) (a2 : Int32) (M : xM) (ro : Int32) (mo : xM) (h : F_X12_between a0 a1 a2 M = some (ro, mo)) : xC l yX12_between cX12_between 5 (some .int) 2 0 0 κ [.int a0, .int a1, .int a2] M (some (.int ro)) mo := by
  refine xC_of rfl (Nat.le_of_ble_eq_true rfl) fun p e s m args below meth c X hr hlk hnm H locs ls O hl => ?_
  have X : xX p s m args c cX12_between 5 RX12 κ := X
  have hl : lv_has ls 5 [(0, .int a0), (1, .int a1), (2, .int a2)] := hl
  have hx := X.1
  have hb := X.2.1
  obtain ⟨x, hx0⟩ : ∃ x, (ro, mo) = x := ⟨_, rfl⟩
  rw [hx0] at h
  have hK : x = (ro, mo) := hx0.symm
  unfold F_X12_between at h
  refine lv_iload_n hx hb dX12_between_0 rfl (lv_at hl 0 rfl) ?_
  by_cases hs1_3003 : a0 = (3003 : Int32)
  · rw [if_pos hs1_3003] at h
    refine xr_tabIn (tgt := 40) (off := 39) X dX12_between_1 hs1_3003 (by decide +kernel) (by decide +kernel) (by decide +kernel) (by decide) ?_
    refine lv_iload_n hx hb dX12_between_40 rfl (lv_at hl 1 rfl) ?_
    refine lv_iload_n hx hb dX12_between_41 rfl (lv_at hl 2 rfl) ?_
    refine lv_icmp_ne (tgt := 49) hx hb dX12_between_42 (by decide) (fun hc42 => ?_) (fun hc42 => ?_)
    · rw [if_neg hc42] at h
      refine lv_iconst (v := (0 : Int32)) hx hb dX12_between_49 (by decide) ?_
      rw [← Option.some.inj h] at hK
      have hK : ((0 : Int32), M) = (ro, mo) := hK
      obtain ⟨hK1, hK2⟩ := Prod.mk.inj hK
      rw [hK2] at O
      refine xr_top (w := .int ro) (by rw [hK1]) ?_
      exact xr_iret X hr hlk O dX12_between_50
    rw [if_pos hc42] at h
    refine lv_iconst (v := (1 : Int32)) hx hb dX12_between_45 (by decide) ?_
    refine lv_goto (tgt := 50) hx hb dX12_between_46 (by decide) ?_
    rw [← Option.some.inj h] at hK
    have hK : ((1 : Int32), M) = (ro, mo) := hK
    obtain ⟨hK1, hK2⟩ := Prod.mk.inj hK
    rw [hK2] at O
    refine xr_top (w := .int ro) (by rw [hK1]) ?_
    exact xr_iret X hr hlk O dX12_between_50
  rw [if_neg hs1_3003] at h
  by_cases hs1_3004 : a0 = (3004 : Int32)
  · rw [if_pos hs1_3004] at h
    refine xr_tabIn (tgt := 51) (off := 50) X dX12_between_1 hs1_3004 (by decide +kernel) (by decide +kernel) (by decide +kernel) (by decide) ?_
    refine lv_iload_n hx hb dX12_between_51 rfl (lv_at hl 1 rfl) ?_
    refine lv_iload_n hx hb dX12_between_52 rfl (lv_at hl 2 rfl) ?_
    refine lv_icmp_ge (tgt := 60) hx hb dX12_between_53 (by decide) (fun hc53 => ?_) (fun hc53 => ?_)
    · rw [if_pos hc53] at h
      refine lv_iconst (v := (0 : Int32)) hx hb dX12_between_60 (by decide) ?_
      rw [← Option.some.inj h] at hK
      have hK : ((0 : Int32), M) = (ro, mo) := hK
      obtain ⟨hK1, hK2⟩ := Prod.mk.inj hK
      rw [hK2] at O
      refine xr_top (w := .int ro) (by rw [hK1]) ?_
      exact xr_iret X hr hlk O dX12_between_61
    rw [if_neg hc53] at h
    refine lv_iconst (v := (1 : Int32)) hx hb dX12_between_56 (by decide) ?_
    refine lv_goto (tgt := 61) hx hb dX12_between_57 (by decide) ?_
    rw [← Option.some.inj h] at hK
    have hK : ((1 : Int32), M) = (ro, mo) := hK
    obtain ⟨hK1, hK2⟩ := Prod.mk.inj hK
    rw [hK2] at O
    refine xr_top (w := .int ro) (by rw [hK1]) ?_
    exact xr_iret X hr hlk O dX12_between_61
  rw [if_neg hs1_3004] at h
  by_cases hs1_3005 : a0 = (3005 : Int32)
  · rw [if_pos hs1_3005] at h
    refine xr_tabIn (tgt := 62) (off := 61) X dX12_between_1 hs1_3005 (by decide +kernel) (by decide +kernel) (by decide +kernel) (by decide) ?_
    refine lv_iload_n hx hb dX12_between_62 rfl (lv_at hl 1 rfl) ?_
    refine lv_iload_n hx hb dX12_between_63 rfl (lv_at hl 2 rfl) ?_
    refine lv_icmp_le (tgt := 71) hx hb dX12_between_64 (by decide) (fun hc64 => ?_) (fun hc64 => ?_)
    · rw [if_pos hc64] at h
      refine lv_iconst (v := (0 : Int32)) hx hb dX12_between_71 (by decide) ?_
      rw [← Option.some.inj h] at hK
      have hK : ((0 : Int32), M) = (ro, mo) := hK
      obtain ⟨hK1, hK2⟩ := Prod.mk.inj hK
      rw [hK2] at O
      refine xr_top (w := .int ro) (by rw [hK1]) ?_
      exact xr_iret X hr hlk O dX12_between_72
    rw [if_neg hc64] at h
    refine lv_iconst (v := (1 : Int32)) hx hb dX12_between_67 (by decide) ?_
    refine lv_goto (tgt := 72) hx hb dX12_between_68 (by decide) ?_
    rw [← Option.some.inj h] at hK
    have hK : ((1 : Int32), M) = (ro, mo) := hK
    obtain ⟨hK1, hK2⟩ := Prod.mk.inj hK
    rw [hK2] at O
    refine xr_top (w := .int ro) (by rw [hK1]) ?_
    exact xr_iret X hr hlk O dX12_between_72
  rw [if_neg hs1_3005] at h
  by_cases hs1_3007 : a0 = (3007 : Int32)
  · rw [if_pos hs1_3007] at h
    refine xr_tabIn (tgt := 73) (off := 72) X dX12_between_1 hs1_3007 (by decide +kernel) (by decide +kernel) (by decide +kernel) (by decide) ?_
    refine lv_iload_n hx hb dX12_between_73 rfl (lv_at hl 1 rfl) ?_
    refine lv_iload_n hx hb dX12_between_74 rfl (lv_at hl 2 rfl) ?_
    refine lv_iand hx hb dX12_between_75 ?_
    rw [← Option.some.inj h] at hK
    have hK : ((a1 &&& a2), M) = (ro, mo) := hK
    obtain ⟨hK1, hK2⟩ := Prod.mk.inj hK
    rw [hK2] at O
    refine xr_top (w := .int ro) (by rw [hK1]) ?_
    exact xr_iret X hr hlk O dX12_between_76
  rw [if_neg hs1_3007] at h
  by_cases hs1_3008 : a0 = (3008 : Int32)
  · rw [if_pos hs1_3008] at h
    refine xr_tabIn (tgt := 77) (off := 76) X dX12_between_1 hs1_3008 (by decide +kernel) (by decide +kernel) (by decide +kernel) (by decide) ?_
    refine lv_iload_n hx hb dX12_between_77 rfl (lv_at hl 1 rfl) ?_
    refine lv_iload_n hx hb dX12_between_78 rfl (lv_at hl 2 rfl) ?_
    refine lv_ior hx hb dX12_between_79 ?_
    rw [← Option.some.inj h] at hK
    have hK : ((a1 ||| a2), M) = (ro, mo) := hK
    obtain ⟨hK1, hK2⟩ := Prod.mk.inj hK
    rw [hK2] at O
    refine xr_top (w := .int ro) (by rw [hK1]) ?_
    exact xr_iret X hr hlk O dX12_between_80
  rw [if_neg hs1_3008] at h
  have ihs1_3003 := xr_nei (k := 3003) (by decide) hs1_3003
  have ihs1_3004 := xr_nei (k := 3004) (by decide) hs1_3004
  have ihs1_3005 := xr_nei (k := 3005) (by decide) hs1_3005
  have ihs1_3007 := xr_nei (k := 3007) (by decide) hs1_3007
  have ihs1_3008 := xr_nei (k := 3008) (by decide) hs1_3008
  by_cases hg1 : a0 = (3006 : Int32)
  · refine xr_tabIn (tgt := 81) (off := 80) X dX12_between_1 hg1 (by decide +kernel) (by decide +kernel) (by decide +kernel) (by decide) ?_
    refine lv_iload_n hx hb dX12_between_81 rfl (lv_at hl 0 rfl) ?_
    refine lv_sipush (v := (3000 : Int32)) hx hb dX12_between_82 (by decide) ?_
    refine lv_icmp_ne (tgt := 96) hx hb dX12_between_85 (by decide) (fun hc85 => ?_) (fun hc85 => ?_)
    · rw [if_neg hc85] at h
      refine lv_iload_n hx hb dX12_between_96 rfl (lv_at hl 0 rfl) ?_
      refine lv_sipush (v := (3001 : Int32)) hx hb dX12_between_97 (by decide) ?_
      refine lv_icmp_ne (tgt := 111) hx hb dX12_between_100 (by decide) (fun hc100 => ?_) (fun hc100 => ?_)
      · rw [if_neg hc100] at h
        refine lv_iload_n hx hb dX12_between_111 rfl (lv_at hl 1 rfl) ?_
        refine lv_i2l (v := a1.toInt64) hx hb dX12_between_112 rfl ?_
        refine lv_iload_n hx hb dX12_between_113 rfl (lv_at hl 2 rfl) ?_
        refine lv_i2l (v := a2.toInt64) hx hb dX12_between_114 rfl ?_
        refine lv_lmul hx hb dX12_between_115 ?_
        exact F_X12_between_116_ok X hr hlk (a1.toInt64 * a2.toInt64) M _ h hK H locs ls O (lv_sub hl [] rfl)
      rw [if_pos hc100] at h
      refine lv_iload_n hx hb dX12_between_103 rfl (lv_at hl 1 rfl) ?_
      refine lv_i2l (v := a1.toInt64) hx hb dX12_between_104 rfl ?_
      refine lv_iload_n hx hb dX12_between_105 rfl (lv_at hl 2 rfl) ?_
      refine lv_i2l (v := a2.toInt64) hx hb dX12_between_106 rfl ?_
      refine lv_lsub hx hb dX12_between_107 ?_
      refine lv_goto (tgt := 116) hx hb dX12_between_108 (by decide) ?_
      exact F_X12_between_116_ok X hr hlk (a1.toInt64 - a2.toInt64) M _ h hK H locs ls O (lv_sub hl [] rfl)
    rw [if_pos hc85] at h
    refine lv_iload_n hx hb dX12_between_88 rfl (lv_at hl 1 rfl) ?_
    refine lv_i2l (v := a1.toInt64) hx hb dX12_between_89 rfl ?_
    refine lv_iload_n hx hb dX12_between_90 rfl (lv_at hl 2 rfl) ?_
    refine lv_i2l (v := a2.toInt64) hx hb dX12_between_91 rfl ?_
    refine lv_ladd hx hb dX12_between_92 ?_
    refine lv_goto (tgt := 116) hx hb dX12_between_93 (by decide) ?_
    exact F_X12_between_116_ok X hr hlk (a1.toInt64 + a2.toInt64) M _ h hK H locs ls O (lv_sub hl [] rfl)
  have ig1 := xr_nei (k := 3006) (by decide) hg1
  refine lv_tableOut (tgt := 81) hx hb dX12_between_1 (by omega) (by decide) ?_
  refine lv_iload_n hx hb dX12_between_81 rfl (lv_at hl 0 rfl) ?_
  refine lv_sipush (v := (3000 : Int32)) hx hb dX12_between_82 (by decide) ?_
  refine lv_icmp_ne (tgt := 96) hx hb dX12_between_85 (by decide) (fun hc85 => ?_) (fun hc85 => ?_)
  · rw [if_neg hc85] at h
    refine lv_iload_n hx hb dX12_between_96 rfl (lv_at hl 0 rfl) ?_
    refine lv_sipush (v := (3001 : Int32)) hx hb dX12_between_97 (by decide) ?_
    refine lv_icmp_ne (tgt := 111) hx hb dX12_between_100 (by decide) (fun hc100 => ?_) (fun hc100 => ?_)
    · rw [if_neg hc100] at h
      refine lv_iload_n hx hb dX12_between_111 rfl (lv_at hl 1 rfl) ?_
      refine lv_i2l (v := a1.toInt64) hx hb dX12_between_112 rfl ?_
      refine lv_iload_n hx hb dX12_between_113 rfl (lv_at hl 2 rfl) ?_
      refine lv_i2l (v := a2.toInt64) hx hb dX12_between_114 rfl ?_
      refine lv_lmul hx hb dX12_between_115 ?_
      exact F_X12_between_116_ok X hr hlk (a1.toInt64 * a2.toInt64) M _ h hK H locs ls O (lv_sub hl [] rfl)
    rw [if_pos hc100] at h
    refine lv_iload_n hx hb dX12_between_103 rfl (lv_at hl 1 rfl) ?_
    refine lv_i2l (v := a1.toInt64) hx hb dX12_between_104 rfl ?_
    refine lv_iload_n hx hb dX12_between_105 rfl (lv_at hl 2 rfl) ?_
    refine lv_i2l (v := a2.toInt64) hx hb dX12_between_106 rfl ?_
    refine lv_lsub hx hb dX12_between_107 ?_
    refine lv_goto (tgt := 116) hx hb dX12_between_108 (by decide) ?_
    exact F_X12_between_116_ok X hr hlk (a1.toInt64 - a2.toInt64) M _ h hK H locs ls O (lv_sub hl [] rfl)
  rw [if_pos hc85] at h
  refine lv_iload_n hx hb dX12_between_88 rfl (lv_at hl 1 rfl) ?_
  refine lv_i2l (v := a1.toInt64) hx hb dX12_between_89 rfl ?_
  refine lv_iload_n hx hb dX12_between_90 rfl (lv_at hl 2 rfl) ?_
  refine lv_i2l (v := a2.toInt64) hx hb dX12_between_91 rfl ?_
  refine lv_ladd hx hb dX12_between_92 ?_
  refine lv_goto (tgt := 116) hx hb dX12_between_93 (by decide) ?_
  exact F_X12_between_116_ok X hr hlk (a1.toInt64 + a2.toInt64) M _ h hK H locs ls O (lv_sub hl [] rfl)
def F_X12_reckons_193 (v0 : Nat) (v1 : Int32) (v2 : Int32) (v3 : Int32) (M : xM) : Option ((Int32 × Int32 × xM) ⊕ (Int32 × xM)) :=
some (.inl (v2, (v3 + 1), M))
def F_X12_reckons_76 (v0 : Nat) (v1 : Int32) (v2 : Int32) (v3 : Int32) (s0 : Int32) (s1 : Int32) (s2 : Nat) (M : xM) : Option ((Int32 × Int32 × xM) ⊕ (Int32 × xM)) :=
(xsI M s2 s1 s0).bind fun t30 =>
F_X12_reckons_193 v0 v1 (v2 + 1) v3 t30
def F_X12_reckons_159 (v0 : Nat) (v1 : Int32) (v2 : Int32) (v3 : Int32) (s0 : Int32) (s1 : Int32) (s2 : Nat) (M : xM) : Option ((Int32 × Int32 × xM) ⊕ (Int32 × xM)) :=
(xsI M s2 s1 s0).bind fun t31 =>
F_X12_reckons_193 v0 v1 v2 v3 t31
def F_X12_reckons_199 (v0 : Nat) (M : xM) : Option (Int32 × xM) :=
(xgP M v0 12 16).bind fun t28 =>
(xaI M 20 t28 (0 : Int32)).bind fun t29 =>
some (t29, M)
def F_X12_reckons_4b (v0 : Nat) (v1 : Int32) : (Int32 × Int32 × xM) → Option ((Int32 × Int32 × xM) ⊕ (Int32 × xM)) := fun ⟨v2, v3, M⟩ =>
(xgP M v0 12 1).bind fun t1 =>
(xaI M 20 t1 ((11 : Int32) + v1)).bind fun t2 =>
if t2 ≤ v3 then (
(F_X12_reckons_199 v0 M).map Sum.inr)
else (
(xgP M v0 12 1).bind fun t3 =>
(xgP M v0 12 1).bind fun t4 =>
(xaI M 20 t4 ((9 : Int32) + v1)).bind fun t5 =>
(xaI M 20 t3 (((520 : Int32) + t5) + v3)).bind fun t6 =>
if (3000 : Int32) ≤ t6 then (
if t6 = (3006 : Int32) then (
(xgP M v0 12 16).bind fun t21 =>
(xgP M v0 12 16).bind fun t22 =>
(xaI M 20 t22 (v2 - (1 : Int32))).bind fun t23 =>
(xsI M t21 (v2 - (1 : Int32)) ((1 : Int32) - t23)).bind fun t24 =>
F_X12_reckons_193 v0 v1 v2 v3 t24)
else (
if t6 = (3009 : Int32) then (
(xgP M v0 12 16).bind fun t14 =>
(xgP M v0 12 16).bind fun t15 =>
(xaI M 20 t15 ((v2 + (-2)) - (1 : Int32))).bind fun t16 =>
if t16 = (1 : Int32) then (
(xgP M v0 12 16).bind fun t19 =>
(xaI M 20 t19 (v2 + (-2))).bind fun t20 =>
F_X12_reckons_159 v0 v1 (v2 + (-2)) v3 t20 ((v2 + (-2)) - (1 : Int32)) t14 M)
else (
(xgP M v0 12 16).bind fun t17 =>
(xaI M 20 t17 ((v2 + (-2)) + (1 : Int32))).bind fun t18 =>
F_X12_reckons_159 v0 v1 (v2 + (-2)) v3 t18 ((v2 + (-2)) - (1 : Int32)) t14 M))
else (
(xgP M v0 12 16).bind fun t7 =>
(xgP M v0 12 16).bind fun t8 =>
(xaI M 20 t8 ((v2 + (-1)) - (1 : Int32))).bind fun t9 =>
(xgP M v0 12 16).bind fun t10 =>
(xaI M 20 t10 (v2 + (-1))).bind fun t11 =>
(F_X12_between t6 t9 t11 M).bind fun t12 =>
(xsI t12.2 t7 ((v2 + (-1)) - (1 : Int32)) t12.1).bind fun t13 =>
F_X12_reckons_193 v0 v1 (v2 + (-1)) v3 t13)))
else (
(xgP M v0 12 16).bind fun t25 =>
if (1000 : Int32) ≤ t6 then (
(xgP M v0 12 17).bind fun t26 =>
(xaI M 20 t26 (t6 - (1000 : Int32))).bind fun t27 =>
F_X12_reckons_76 v0 v1 v2 v3 t27 v2 t25 M)
else (
F_X12_reckons_76 v0 v1 v2 v3 t6 v2 t25 M)))
def F_X12_reckons_4 (v0 : Nat) (v1 : Int32) (v2 : Int32) (v3 : Int32) (M : xM) : Option (Int32 × xM) := xit (F_X12_reckons_4b v0 v1) xFU (v2, v3, M)
def F_X12_reckons (a0 : Nat) (a1 : Int32) (M : xM) : Option (Int32 × xM) :=
F_X12_reckons_4 a0 a1 (0 : Int32) (0 : Int32) M
set_option maxRecDepth 100000 in
set_option maxHeartbeats 4000000 in
theorem F_X12_reckons_193_ok (X : xX p s m args c cX12_reckons 5 RX12 κ) (hr : meth.sig.returnType = (some .int)) (hlk : meth.locks = false) {ro : Int32} {mo : xM} (v0 : Nat) (v1 : Int32) (v2 : Int32) (v3 : Int32) {W4 : Int32 × Int32 × xM → Prop} (hW4 : ∀ (v2 : Int32) (v3 : Int32) (M : xM), W4 (v2, v3, M) → ∀ (H : Heap) (locs : List Loc) (ls : Array Slot), xO κ s M H locs → lv_has ls 5 [(0, .ref (κ.1 + v0)), (1, .int v1), (2, .int v2), (3, .int v3)] → W p l e (xRm 3 0 0) s m args below meth c H locs 0 0 (xQf below args s 0 0 κ (some (.int ro)) mo) (F0 m 4 ls [])) (M : xM) (x : (Int32 × Int32 × xM) ⊕ (Int32 × xM)) (h : F_X12_reckons_193 v0 v1 v2 v3 M = some x) (hK : (xKl W4 (fun o => o = (ro, mo))) x) (H : Heap) (locs : List Loc) (ls : Array Slot) (O : xO κ s M H locs) (hl : lv_has ls 5 [(0, .ref (κ.1 + v0)), (1, .int v1), (2, .int v2), (3, .int v3)]) : W p l e (xRm 3 0 0) s m args below meth c H locs 0 0 (xQf below args s 0 0 κ (some (.int ro)) mo) (F0 m 193 ls []) := by
  unfold F_X12_reckons_193 at h
  have hx := X.1
  have hb := X.2.1
  refine lv_iinc (v := (v3 + 1)) (lv' := [(3, .int (v3 + 1)), (0, .ref (κ.1 + v0)), (1, .int v1), (2, .int v2)]) hx hb dX12_reckons_193 hl (k := 3) rfl rfl (by decide) rfl (fun ls hl => ?_)
  refine lv_goto (tgt := 4) hx hb dX12_reckons_196 (by decide) ?_
  rw [← Option.some.inj h] at hK
  exact hW4 v2 (v3 + 1) M hK H locs ls O (lv_sub hl [1, 2, 3, 0] rfl)
set_option maxRecDepth 100000 in
set_option maxHeartbeats 4000000 in
theorem F_X12_reckons_76_ok (X : xX p s m args c cX12_reckons 5 RX12 κ) (hr : meth.sig.returnType = (some .int)) (hlk : meth.locks = false) {ro : Int32} {mo : xM} (v0 : Nat) (v1 : Int32) (v2 : Int32) (v3 : Int32) (s0 : Int32) (s1 : Int32) (s2 : Nat) {W4 : Int32 × Int32 × xM → Prop} (hW4 : ∀ (v2 : Int32) (v3 : Int32) (M : xM), W4 (v2, v3, M) → ∀ (H : Heap) (locs : List Loc) (ls : Array Slot), xO κ s M H locs → lv_has ls 5 [(0, .ref (κ.1 + v0)), (1, .int v1), (2, .int v2), (3, .int v3)] → W p l e (xRm 3 0 0) s m args below meth c H locs 0 0 (xQf below args s 0 0 κ (some (.int ro)) mo) (F0 m 4 ls [])) (M : xM) (x : (Int32 × Int32 × xM) ⊕ (Int32 × xM)) (h : F_X12_reckons_76 v0 v1 v2 v3 s0 s1 s2 M = some x) (hK : (xKl W4 (fun o => o = (ro, mo))) x) (H : Heap) (locs : List Loc) (ls : Array Slot) (O : xO κ s M H locs) (hl : lv_has ls 5 [(0, .ref (κ.1 + v0)), (1, .int v1), (2, .int v2), (3, .int v3)]) : W p l e (xRm 3 0 0) s m args below meth c H locs 0 0 (xQf below args s 0 0 κ (some (.int ro)) mo) (F0 m 76 ls [.int s0, .int s1, .ref (κ.1 + s2)]) := by
  unfold F_X12_reckons_76 at h
  have hx := X.1
  have hb := X.2.1
  obtain ⟨t30, ht30, h⟩ := Option.bind_eq_some_iff.mp h
  refine xr_stI X O ht30 dX12_reckons_76 (fun H locs O => ?_)
  refine lv_iinc (v := (v2 + 1)) (lv' := [(2, .int (v2 + 1)), (0, .ref (κ.1 + v0)), (1, .int v1), (3, .int v3)]) hx hb dX12_reckons_77 hl (k := 2) rfl rfl (by decide) rfl (fun ls hl => ?_)
  refine lv_goto (tgt := 193) hx hb dX12_reckons_80 (by decide) ?_
  exact F_X12_reckons_193_ok X hr hlk v0 v1 (v2 + 1) v3 hW4 t30 _ h hK H locs ls O (lv_sub hl [1, 2, 0, 3] rfl)
set_option maxRecDepth 100000 in
set_option maxHeartbeats 4000000 in
theorem F_X12_reckons_159_ok (X : xX p s m args c cX12_reckons 5 RX12 κ) (hr : meth.sig.returnType = (some .int)) (hlk : meth.locks = false) {ro : Int32} {mo : xM} (v0 : Nat) (v1 : Int32) (v2 : Int32) (v3 : Int32) (s0 : Int32) (s1 : Int32) (s2 : Nat) {W4 : Int32 × Int32 × xM → Prop} (hW4 : ∀ (v2 : Int32) (v3 : Int32) (M : xM), W4 (v2, v3, M) → ∀ (H : Heap) (locs : List Loc) (ls : Array Slot), xO κ s M H locs → lv_has ls 5 [(0, .ref (κ.1 + v0)), (1, .int v1), (2, .int v2), (3, .int v3)] → W p l e (xRm 3 0 0) s m args below meth c H locs 0 0 (xQf below args s 0 0 κ (some (.int ro)) mo) (F0 m 4 ls [])) (M : xM) (x : (Int32 × Int32 × xM) ⊕ (Int32 × xM)) (h : F_X12_reckons_159 v0 v1 v2 v3 s0 s1 s2 M = some x) (hK : (xKl W4 (fun o => o = (ro, mo))) x) (H : Heap) (locs : List Loc) (ls : Array Slot) (O : xO κ s M H locs) (hl : lv_has ls 5 [(0, .ref (κ.1 + v0)), (1, .int v1), (2, .int v2), (3, .int v3)]) : W p l e (xRm 3 0 0) s m args below meth c H locs 0 0 (xQf below args s 0 0 κ (some (.int ro)) mo) (F0 m 159 ls [.int s0, .int s1, .ref (κ.1 + s2)]) := by
  unfold F_X12_reckons_159 at h
  have hx := X.1
  have hb := X.2.1
  obtain ⟨t31, ht31, h⟩ := Option.bind_eq_some_iff.mp h
  refine xr_stI X O ht31 dX12_reckons_159 (fun H locs O => ?_)
  refine lv_goto (tgt := 193) hx hb dX12_reckons_160 (by decide) ?_
  exact F_X12_reckons_193_ok X hr hlk v0 v1 v2 v3 hW4 t31 _ h hK H locs ls O (lv_sub hl [0, 1, 2, 3] rfl)
set_option maxRecDepth 100000 in
set_option maxHeartbeats 4000000 in
theorem F_X12_reckons_199_ok (X : xX p s m args c cX12_reckons 5 RX12 κ) (hr : meth.sig.returnType = (some .int)) (hlk : meth.locks = false) {ro : Int32} {mo : xM} (v0 : Nat) (M : xM) (x : Int32 × xM) (h : F_X12_reckons_199 v0 M = some x) (hK : (fun o => o = (ro, mo)) x) (H : Heap) (locs : List Loc) (ls : Array Slot) (O : xO κ s M H locs) (hl : lv_has ls 5 [(0, .ref (κ.1 + v0))]) : W p l e (xRm 3 0 0) s m args below meth c H locs 0 0 (xQf below args s 0 0 κ (some (.int ro)) mo) (F0 m 199 ls []) := by
  unfold F_X12_reckons_199 at h
  have hx := X.1
  have hb := X.2.1
  refine lv_aload_n hx hb dX12_reckons_199 rfl (lv_at hl 0 rfl) ?_
  obtain ⟨t28, ht28, h⟩ := Option.bind_eq_some_iff.mp h
  refine xr_getP X O ht28 fl_X12_30 dX12_reckons_200 ?_
  refine lv_iconst (v := (0 : Int32)) hx hb dX12_reckons_203 (by decide) ?_
  obtain ⟨t29, ht29, h⟩ := Option.bind_eq_some_iff.mp h
  refine xr_aldI X O ht29 dX12_reckons_204 ?_
  rw [← Option.some.inj h] at hK
  have hK : (t29, M) = (ro, mo) := hK
  obtain ⟨hK1, hK2⟩ := Prod.mk.inj hK
  rw [hK2] at O
  refine xr_top (w := .int ro) (by rw [hK1]) ?_
  exact xr_iret X hr hlk O dX12_reckons_205
set_option maxRecDepth 100000 in
set_option maxHeartbeats 4000000 in
theorem F_X12_reckons_4_bok (X : xX p s m args c cX12_reckons 5 RX12 κ) (hr : meth.sig.returnType = (some .int)) (hlk : meth.locks = false) {ro : Int32} {mo : xM} (v0 : Nat) (v1 : Int32) (v2 : Int32) (v3 : Int32) {W4 : Int32 × Int32 × xM → Prop} (hW4 : ∀ (v2 : Int32) (v3 : Int32) (M : xM), W4 (v2, v3, M) → ∀ (H : Heap) (locs : List Loc) (ls : Array Slot), xO κ s M H locs → lv_has ls 5 [(0, .ref (κ.1 + v0)), (1, .int v1), (2, .int v2), (3, .int v3)] → W p l e (xRm 3 0 0) s m args below meth c H locs 0 0 (xQf below args s 0 0 κ (some (.int ro)) mo) (F0 m 4 ls [])) (M : xM) (x : (Int32 × Int32 × xM) ⊕ (Int32 × xM)) (h : F_X12_reckons_4b v0 v1 (v2, v3, M) = some x) (hK : (xKl W4 (fun o => o = (ro, mo))) x) (H : Heap) (locs : List Loc) (ls : Array Slot) (O : xO κ s M H locs) (hl : lv_has ls 5 [(0, .ref (κ.1 + v0)), (1, .int v1), (2, .int v2), (3, .int v3)]) : W p l e (xRm 3 0 0) s m args below meth c H locs 0 0 (xQf below args s 0 0 κ (some (.int ro)) mo) (F0 m 4 ls []) := by
  unfold F_X12_reckons_4b at h
  dsimp only at h
  have hx := X.1
  have hb := X.2.1
  refine lv_iload_n hx hb dX12_reckons_4 rfl (lv_at hl 3 rfl) ?_
  refine lv_aload_n hx hb dX12_reckons_5 rfl (lv_at hl 0 rfl) ?_
  obtain ⟨t1, ht1, h⟩ := Option.bind_eq_some_iff.mp h
  refine xr_getP X O ht1 fl_X12_13 dX12_reckons_6 ?_
  refine lv_bipush (v := (11 : Int32)) hx hb dX12_reckons_9 (by decide) ?_
  refine lv_iload_n hx hb dX12_reckons_11 rfl (lv_at hl 1 rfl) ?_
  refine lv_iadd hx hb dX12_reckons_12 ?_
  obtain ⟨t2, ht2, h⟩ := Option.bind_eq_some_iff.mp h
  refine xr_aldI X O ht2 dX12_reckons_13 ?_
  refine lv_icmp_ge (tgt := 199) hx hb dX12_reckons_14 (by decide) (fun hc14 => ?_) (fun hc14 => ?_)
  · rw [if_pos hc14] at h
    obtain ⟨_, hw0, ew0⟩ := Option.map_eq_some_iff.mp h
    rw [← ew0] at hK
    have h := hw0
    exact F_X12_reckons_199_ok X hr hlk v0 M _ h hK H locs ls O (lv_sub hl [0] rfl)
  rw [if_neg hc14] at h
  refine lv_aload_n hx hb dX12_reckons_17 rfl (lv_at hl 0 rfl) ?_
  obtain ⟨t3, ht3, h⟩ := Option.bind_eq_some_iff.mp h
  refine xr_getP X O ht3 fl_X12_13 dX12_reckons_18 ?_
  refine lv_sipush (v := (520 : Int32)) hx hb dX12_reckons_21 (by decide) ?_
  refine lv_aload_n hx hb dX12_reckons_24 rfl (lv_at hl 0 rfl) ?_
  obtain ⟨t4, ht4, h⟩ := Option.bind_eq_some_iff.mp h
  refine xr_getP X O ht4 fl_X12_13 dX12_reckons_25 ?_
  refine lv_bipush (v := (9 : Int32)) hx hb dX12_reckons_28 (by decide) ?_
  refine lv_iload_n hx hb dX12_reckons_30 rfl (lv_at hl 1 rfl) ?_
  refine lv_iadd hx hb dX12_reckons_31 ?_
  obtain ⟨t5, ht5, h⟩ := Option.bind_eq_some_iff.mp h
  refine xr_aldI X O ht5 dX12_reckons_32 ?_
  refine lv_iadd hx hb dX12_reckons_33 ?_
  refine lv_iload_n hx hb dX12_reckons_34 rfl (lv_at hl 3 rfl) ?_
  refine lv_iadd hx hb dX12_reckons_35 ?_
  obtain ⟨t6, ht6, h⟩ := Option.bind_eq_some_iff.mp h
  refine xr_aldI X O ht6 dX12_reckons_36 ?_
  refine lv_istore (lv' := [(4, .int t6), (0, .ref (κ.1 + v0)), (1, .int v1), (2, .int v2), (3, .int v3)]) hx hb dX12_reckons_37 hl (by decide) rfl (fun ls hl => ?_)
  refine lv_iload hx hb dX12_reckons_39 (lv_at hl 0 rfl) ?_
  refine lv_sipush (v := (3000 : Int32)) hx hb dX12_reckons_41 (by decide) ?_
  refine lv_icmp_ge (tgt := 83) hx hb dX12_reckons_44 (by decide) (fun hc44 => ?_) (fun hc44 => ?_)
  · rw [if_pos hc44] at h
    refine lv_iload hx hb dX12_reckons_83 (lv_at hl 0 rfl) ?_
    refine lv_sipush (v := (3006 : Int32)) hx hb dX12_reckons_85 (by decide) ?_
    refine lv_icmp_ne (tgt := 112) hx hb dX12_reckons_88 (by decide) (fun hc88 => ?_) (fun hc88 => ?_)
    · rw [if_neg hc88] at h
      refine lv_iload hx hb dX12_reckons_112 (lv_at hl 0 rfl) ?_
      refine lv_sipush (v := (3009 : Int32)) hx hb dX12_reckons_114 (by decide) ?_
      refine lv_icmp_ne (tgt := 163) hx hb dX12_reckons_117 (by decide) (fun hc117 => ?_) (fun hc117 => ?_)
      · rw [if_neg hc117] at h
        refine lv_iinc (v := (v2 + (-1))) (lv' := [(2, .int (v2 + (-1))), (4, .int t6), (0, .ref (κ.1 + v0)), (1, .int v1), (3, .int v3)]) hx hb dX12_reckons_163 hl (k := 3) rfl rfl (by decide) rfl (fun ls hl => ?_)
        refine lv_aload_n hx hb dX12_reckons_166 rfl (lv_at hl 2 rfl) ?_
        obtain ⟨t7, ht7, h⟩ := Option.bind_eq_some_iff.mp h
        refine xr_getP X O ht7 fl_X12_30 dX12_reckons_167 ?_
        refine lv_iload_n hx hb dX12_reckons_170 rfl (lv_at hl 0 rfl) ?_
        refine lv_iconst (v := (1 : Int32)) hx hb dX12_reckons_171 (by decide) ?_
        refine lv_isub hx hb dX12_reckons_172 ?_
        refine lv_iload hx hb dX12_reckons_173 (lv_at hl 1 rfl) ?_
        refine lv_aload_n hx hb dX12_reckons_175 rfl (lv_at hl 2 rfl) ?_
        obtain ⟨t8, ht8, h⟩ := Option.bind_eq_some_iff.mp h
        refine xr_getP X O ht8 fl_X12_30 dX12_reckons_176 ?_
        refine lv_iload_n hx hb dX12_reckons_179 rfl (lv_at hl 0 rfl) ?_
        refine lv_iconst (v := (1 : Int32)) hx hb dX12_reckons_180 (by decide) ?_
        refine lv_isub hx hb dX12_reckons_181 ?_
        obtain ⟨t9, ht9, h⟩ := Option.bind_eq_some_iff.mp h
        refine xr_aldI X O ht9 dX12_reckons_182 ?_
        refine lv_aload_n hx hb dX12_reckons_183 rfl (lv_at hl 2 rfl) ?_
        obtain ⟨t10, ht10, h⟩ := Option.bind_eq_some_iff.mp h
        refine xr_getP X O ht10 fl_X12_30 dX12_reckons_184 ?_
        refine lv_iload_n hx hb dX12_reckons_187 rfl (lv_at hl 0 rfl) ?_
        obtain ⟨t11, ht11, h⟩ := Option.bind_eq_some_iff.mp h
        refine xr_aldI X O ht11 dX12_reckons_188 ?_
        obtain ⟨t12, ht12, h⟩ := Option.bind_eq_some_iff.mp h
        refine xr_callS (rest := [.int ((v2 + (-1)) - (1 : Int32)), .ref (κ.1 + t7)]) X O (T_X12_between l κ t6 t9 t11 M _ _ ht12) lk_X12_238 (Nat.le_of_ble_eq_true rfl) rfl hl.1 rfl (Nat.le_of_ble_eq_true rfl) dX12_reckons_189 ⟨Nat.le_of_ble_eq_true rfl, Nat.le_of_ble_eq_true rfl⟩ (fun H locs O => ?_)
        refine W.eq (g2 := F0 m 192 ls [.int t12.1, .int ((v2 + (-1)) - (1 : Int32)), .ref (κ.1 + t7)]) rfl ?_
        obtain ⟨t13, ht13, h⟩ := Option.bind_eq_some_iff.mp h
        refine xr_stI X O ht13 dX12_reckons_192 (fun H locs O => ?_)
        exact F_X12_reckons_193_ok X hr hlk v0 v1 (v2 + (-1)) v3 hW4 t13 _ h hK H locs ls O (lv_sub hl [2, 3, 0, 4] rfl)
      rw [if_pos hc117] at h
      refine lv_iinc (v := (v2 + (-2))) (lv' := [(2, .int (v2 + (-2))), (4, .int t6), (0, .ref (κ.1 + v0)), (1, .int v1), (3, .int v3)]) hx hb dX12_reckons_120 hl (k := 3) rfl rfl (by decide) rfl (fun ls hl => ?_)
      refine lv_aload_n hx hb dX12_reckons_123 rfl (lv_at hl 2 rfl) ?_
      obtain ⟨t14, ht14, h⟩ := Option.bind_eq_some_iff.mp h
      refine xr_getP X O ht14 fl_X12_30 dX12_reckons_124 ?_
      refine lv_iload_n hx hb dX12_reckons_127 rfl (lv_at hl 0 rfl) ?_
      refine lv_iconst (v := (1 : Int32)) hx hb dX12_reckons_128 (by decide) ?_
      refine lv_isub hx hb dX12_reckons_129 ?_
      refine lv_aload_n hx hb dX12_reckons_130 rfl (lv_at hl 2 rfl) ?_
      obtain ⟨t15, ht15, h⟩ := Option.bind_eq_some_iff.mp h
      refine xr_getP X O ht15 fl_X12_30 dX12_reckons_131 ?_
      refine lv_iload_n hx hb dX12_reckons_134 rfl (lv_at hl 0 rfl) ?_
      refine lv_iconst (v := (1 : Int32)) hx hb dX12_reckons_135 (by decide) ?_
      refine lv_isub hx hb dX12_reckons_136 ?_
      obtain ⟨t16, ht16, h⟩ := Option.bind_eq_some_iff.mp h
      refine xr_aldI X O ht16 dX12_reckons_137 ?_
      refine lv_iconst (v := (1 : Int32)) hx hb dX12_reckons_138 (by decide) ?_
      refine lv_icmp_ne (tgt := 151) hx hb dX12_reckons_139 (by decide) (fun hc139 => ?_) (fun hc139 => ?_)
      · rw [if_neg hc139] at h
        refine lv_aload_n hx hb dX12_reckons_151 rfl (lv_at hl 2 rfl) ?_
        obtain ⟨t17, ht17, h⟩ := Option.bind_eq_some_iff.mp h
        refine xr_getP X O ht17 fl_X12_30 dX12_reckons_152 ?_
        refine lv_iload_n hx hb dX12_reckons_155 rfl (lv_at hl 0 rfl) ?_
        refine lv_iconst (v := (1 : Int32)) hx hb dX12_reckons_156 (by decide) ?_
        refine lv_iadd hx hb dX12_reckons_157 ?_
        obtain ⟨t18, ht18, h⟩ := Option.bind_eq_some_iff.mp h
        refine xr_aldI X O ht18 dX12_reckons_158 ?_
        exact F_X12_reckons_159_ok X hr hlk v0 v1 (v2 + (-2)) v3 t18 ((v2 + (-2)) - (1 : Int32)) t14 hW4 M _ h hK H locs ls O (lv_sub hl [2, 3, 0, 4] rfl)
      rw [if_pos hc139] at h
      refine lv_aload_n hx hb dX12_reckons_142 rfl (lv_at hl 2 rfl) ?_
      obtain ⟨t19, ht19, h⟩ := Option.bind_eq_some_iff.mp h
      refine xr_getP X O ht19 fl_X12_30 dX12_reckons_143 ?_
      refine lv_iload_n hx hb dX12_reckons_146 rfl (lv_at hl 0 rfl) ?_
      obtain ⟨t20, ht20, h⟩ := Option.bind_eq_some_iff.mp h
      refine xr_aldI X O ht20 dX12_reckons_147 ?_
      refine lv_goto (tgt := 159) hx hb dX12_reckons_148 (by decide) ?_
      exact F_X12_reckons_159_ok X hr hlk v0 v1 (v2 + (-2)) v3 t20 ((v2 + (-2)) - (1 : Int32)) t14 hW4 M _ h hK H locs ls O (lv_sub hl [2, 3, 0, 4] rfl)
    rw [if_pos hc88] at h
    refine lv_aload_n hx hb dX12_reckons_91 rfl (lv_at hl 1 rfl) ?_
    obtain ⟨t21, ht21, h⟩ := Option.bind_eq_some_iff.mp h
    refine xr_getP X O ht21 fl_X12_30 dX12_reckons_92 ?_
    refine lv_iload_n hx hb dX12_reckons_95 rfl (lv_at hl 3 rfl) ?_
    refine lv_iconst (v := (1 : Int32)) hx hb dX12_reckons_96 (by decide) ?_
    refine lv_isub hx hb dX12_reckons_97 ?_
    refine lv_iconst (v := (1 : Int32)) hx hb dX12_reckons_98 (by decide) ?_
    refine lv_aload_n hx hb dX12_reckons_99 rfl (lv_at hl 1 rfl) ?_
    obtain ⟨t22, ht22, h⟩ := Option.bind_eq_some_iff.mp h
    refine xr_getP X O ht22 fl_X12_30 dX12_reckons_100 ?_
    refine lv_iload_n hx hb dX12_reckons_103 rfl (lv_at hl 3 rfl) ?_
    refine lv_iconst (v := (1 : Int32)) hx hb dX12_reckons_104 (by decide) ?_
    refine lv_isub hx hb dX12_reckons_105 ?_
    obtain ⟨t23, ht23, h⟩ := Option.bind_eq_some_iff.mp h
    refine xr_aldI X O ht23 dX12_reckons_106 ?_
    refine lv_isub hx hb dX12_reckons_107 ?_
    obtain ⟨t24, ht24, h⟩ := Option.bind_eq_some_iff.mp h
    refine xr_stI X O ht24 dX12_reckons_108 (fun H locs O => ?_)
    refine lv_goto (tgt := 193) hx hb dX12_reckons_109 (by decide) ?_
    exact F_X12_reckons_193_ok X hr hlk v0 v1 v2 v3 hW4 t24 _ h hK H locs ls O (lv_sub hl [1, 2, 3, 4] rfl)
  rw [if_neg hc44] at h
  refine lv_aload_n hx hb dX12_reckons_47 rfl (lv_at hl 1 rfl) ?_
  obtain ⟨t25, ht25, h⟩ := Option.bind_eq_some_iff.mp h
  refine xr_getP X O ht25 fl_X12_30 dX12_reckons_48 ?_
  refine lv_iload_n hx hb dX12_reckons_51 rfl (lv_at hl 3 rfl) ?_
  refine lv_iload hx hb dX12_reckons_52 (lv_at hl 0 rfl) ?_
  refine lv_sipush (v := (1000 : Int32)) hx hb dX12_reckons_54 (by decide) ?_
  refine lv_icmp_ge (tgt := 65) hx hb dX12_reckons_57 (by decide) (fun hc57 => ?_) (fun hc57 => ?_)
  · rw [if_pos hc57] at h
    refine lv_aload_n hx hb dX12_reckons_65 rfl (lv_at hl 1 rfl) ?_
    obtain ⟨t26, ht26, h⟩ := Option.bind_eq_some_iff.mp h
    refine xr_getP X O ht26 fl_X12_33 dX12_reckons_66 ?_
    refine lv_iload hx hb dX12_reckons_69 (lv_at hl 0 rfl) ?_
    refine lv_sipush (v := (1000 : Int32)) hx hb dX12_reckons_71 (by decide) ?_
    refine lv_isub hx hb dX12_reckons_74 ?_
    obtain ⟨t27, ht27, h⟩ := Option.bind_eq_some_iff.mp h
    refine xr_aldI X O ht27 dX12_reckons_75 ?_
    exact F_X12_reckons_76_ok X hr hlk v0 v1 v2 v3 t27 v2 t25 hW4 M _ h hK H locs ls O (lv_sub hl [1, 2, 3, 4] rfl)
  rw [if_neg hc57] at h
  refine lv_iload hx hb dX12_reckons_60 (lv_at hl 0 rfl) ?_
  refine lv_goto (tgt := 76) hx hb dX12_reckons_62 (by decide) ?_
  exact F_X12_reckons_76_ok X hr hlk v0 v1 v2 v3 t6 v2 t25 hW4 M _ h hK H locs ls O (lv_sub hl [1, 2, 3, 4] rfl)
set_option maxRecDepth 100000 in
set_option maxHeartbeats 4000000 in
theorem F_X12_reckons_4_ok (X : xX p s m args c cX12_reckons 5 RX12 κ) (hr : meth.sig.returnType = (some .int)) (hlk : meth.locks = false) {ro : Int32} {mo : xM} (v0 : Nat) (v1 : Int32) (v2 : Int32) (v3 : Int32) (M : xM) (x : Int32 × xM) (h : F_X12_reckons_4 v0 v1 v2 v3 M = some x) (hK : (fun o => o = (ro, mo)) x) (H : Heap) (locs : List Loc) (ls : Array Slot) (O : xO κ s M H locs) (hl : lv_has ls 5 [(0, .ref (κ.1 + v0)), (1, .int v1), (2, .int v2), (3, .int v3)]) : W p l e (xRm 3 0 0) s m args below meth c H locs 0 0 (xQf below args s 0 0 κ (some (.int ro)) mo) (F0 m 4 ls []) := by
  refine xit_K (Wh := fun x => ∀ (H : Heap) (locs : List Loc) (ls : Array Slot), xO κ s x.2.2 H locs → lv_has ls 5 [(0, .ref (κ.1 + v0)), (1, .int v1), (2, .int x.1), (3, .int x.2.1)] → W p l e (xRm 3 0 0) s m args below meth c H locs 0 0 (xQf below args s 0 0 κ (some (.int ro)) mo) (F0 m 4 ls [])) (Kp := (fun o => o = (ro, mo))) ?_ xFU (v2, v3, M) x h hK H locs ls O hl
  intro y x h hK H locs ls O hl
  exact F_X12_reckons_4_bok X hr hlk v0 v1 y.1 y.2.1 (fun _ _ _ hw => hw) y.2.2 x h hK H locs ls O hl
set_option maxRecDepth 100000 in
set_option maxHeartbeats 4000000 in
theorem T_X12_reckons (l : Launch) (κ : xQ) (a0 : Nat) (a1 : Int32) (M : xM) (ro : Int32) (mo : xM) (h : F_X12_reckons a0 a1 M = some (ro, mo)) : xC l yX12_reckons cX12_reckons 5 (some .int) 3 0 0 κ [.ref (κ.1 + a0), .int a1] M (some (.int ro)) mo := by
  refine xC_of rfl (Nat.le_of_ble_eq_true rfl) fun p e s m args below meth c X hr hlk hnm H locs ls O hl => ?_
  have X : xX p s m args c cX12_reckons 5 RX12 κ := X
  have hl : lv_has ls 5 [(0, .ref (κ.1 + a0)), (1, .int a1)] := hl
  have hx := X.1
  have hb := X.2.1
  obtain ⟨x, hx0⟩ : ∃ x, (ro, mo) = x := ⟨_, rfl⟩
  rw [hx0] at h
  have hK : x = (ro, mo) := hx0.symm
  unfold F_X12_reckons at h
  refine lv_iconst (v := (0 : Int32)) hx hb dX12_reckons_0 (by decide) ?_
  refine lv_istore_n (lv' := [(2, .int (0 : Int32)), (0, .ref (κ.1 + a0)), (1, .int a1)]) hx hb dX12_reckons_1 rfl hl (by decide) rfl (fun ls hl => ?_)
  refine lv_iconst (v := (0 : Int32)) hx hb dX12_reckons_2 (by decide) ?_
  refine lv_istore_n (lv' := [(3, .int (0 : Int32)), (2, .int (0 : Int32)), (0, .ref (κ.1 + a0)), (1, .int a1)]) hx hb dX12_reckons_3 rfl hl (by decide) rfl (fun ls hl => ?_)
  exact F_X12_reckons_4_ok X hr hlk a0 a1 (0 : Int32) (0 : Int32) M _ h hK H locs ls O (lv_sub hl [2, 3, 1, 0] rfl)
def F_X12_kept (a0 : Int32) (a1 : Int32) (M : xM) : Option (Int32 × xM) :=
if 0 ≤ a0 then (
if a0 ≤ a1 then (
some (a0, M))
else (
some (a1, M)))
else (
some ((0 : Int32), M))
set_option maxRecDepth 100000 in
set_option maxHeartbeats 4000000 in
theorem T_X12_kept (l : Launch) (κ : xQ) (a0 : Int32) (a1 : Int32) (M : xM) (ro : Int32) (mo : xM) (h : F_X12_kept a0 a1 M = some (ro, mo)) : xC l yX12_kept cX12_kept 2 (some .int) 2 0 0 κ [.int a0, .int a1] M (some (.int ro)) mo := by
  refine xC_of rfl (Nat.le_of_ble_eq_true rfl) fun p e s m args below meth c X hr hlk hnm H locs ls O hl => ?_
  have X : xX p s m args c cX12_kept 2 RX12 κ := X
  have hl : lv_has ls 2 [(0, .int a0), (1, .int a1)] := hl
  have hx := X.1
  have hb := X.2.1
  obtain ⟨x, hx0⟩ : ∃ x, (ro, mo) = x := ⟨_, rfl⟩
  rw [hx0] at h
  have hK : x = (ro, mo) := hx0.symm
  unfold F_X12_kept at h
  refine lv_iload_n hx hb dX12_kept_0 rfl (lv_at hl 0 rfl) ?_
  refine lv_if_ge (tgt := 8) hx hb dX12_kept_1 (by decide) (fun hc1 => ?_) (fun hc1 => ?_)
  · rw [if_pos hc1] at h
    refine lv_iload_n hx hb dX12_kept_8 rfl (lv_at hl 0 rfl) ?_
    refine lv_iload_n hx hb dX12_kept_9 rfl (lv_at hl 1 rfl) ?_
    refine lv_icmp_le (tgt := 17) hx hb dX12_kept_10 (by decide) (fun hc10 => ?_) (fun hc10 => ?_)
    · rw [if_pos hc10] at h
      refine lv_iload_n hx hb dX12_kept_17 rfl (lv_at hl 0 rfl) ?_
      rw [← Option.some.inj h] at hK
      have hK : (a0, M) = (ro, mo) := hK
      obtain ⟨hK1, hK2⟩ := Prod.mk.inj hK
      rw [hK2] at O
      refine xr_top (w := .int ro) (by rw [hK1]) ?_
      exact xr_iret X hr hlk O dX12_kept_18
    rw [if_neg hc10] at h
    refine lv_iload_n hx hb dX12_kept_13 rfl (lv_at hl 1 rfl) ?_
    refine lv_goto (tgt := 18) hx hb dX12_kept_14 (by decide) ?_
    rw [← Option.some.inj h] at hK
    have hK : (a1, M) = (ro, mo) := hK
    obtain ⟨hK1, hK2⟩ := Prod.mk.inj hK
    rw [hK2] at O
    refine xr_top (w := .int ro) (by rw [hK1]) ?_
    exact xr_iret X hr hlk O dX12_kept_18
  rw [if_neg hc1] at h
  refine lv_iconst (v := (0 : Int32)) hx hb dX12_kept_4 (by decide) ?_
  refine lv_goto (tgt := 18) hx hb dX12_kept_5 (by decide) ?_
  rw [← Option.some.inj h] at hK
  have hK : ((0 : Int32), M) = (ro, mo) := hK
  obtain ⟨hK1, hK2⟩ := Prod.mk.inj hK
  rw [hK2] at O
  refine xr_top (w := .int ro) (by rw [hK1]) ?_
  exact xr_iret X hr hlk O dX12_kept_18
def F_X12_levelOf (a0 : Nat) (a1 : Int32) (a2 : Int32) (M : xM) : Option (Int32 × xM) :=
(xgP M a0 12 17).bind fun t1 =>
(xsI M t1 (0 : Int32) a1).bind fun t2 =>
(xgP t2 a0 12 17).bind fun t3 =>
(xsI t2 t3 (1 : Int32) a2).bind fun t4 =>
(xgP t4 a0 12 1).bind fun t5 =>
(xaI t4 20 t5 (7 : Int32)).bind fun t6 =>
if t6 = (1 : Int32) then (
(xck t4 a0 12).bind fun _ =>
(F_X12_reckons a0 (0 : Int32) t4).bind fun t9 =>
(F_X12_kept t9.1 (10 : Int32) t9.2).bind fun t10 =>
some (t10.1, t10.2))
else (
(some ((a1 - a1 / (18 : Int32) * (18 : Int32)))).bind fun t7 =>
if t7 ≤ (9 : Int32) then (
some (t7, t4))
else (
some (((18 : Int32) - t7), t4)))
set_option maxRecDepth 100000 in
set_option maxHeartbeats 4000000 in
theorem T_X12_levelOf (l : Launch) (κ : xQ) (a0 : Nat) (a1 : Int32) (a2 : Int32) (M : xM) (ro : Int32) (mo : xM) (h : F_X12_levelOf a0 a1 a2 M = some (ro, mo)) : xC l yX12_levelOf cX12_levelOf 4 (some .int) 4 0 0 κ [.ref (κ.1 + a0), .int a1, .int a2] M (some (.int ro)) mo := by
  refine xC_of rfl (Nat.le_of_ble_eq_true rfl) fun p e s m args below meth c X hr hlk hnm H locs ls O hl => ?_
  have X : xX p s m args c cX12_levelOf 4 RX12 κ := X
  have hl : lv_has ls 4 [(0, .ref (κ.1 + a0)), (1, .int a1), (2, .int a2)] := hl
  have hx := X.1
  have hb := X.2.1
  obtain ⟨x, hx0⟩ : ∃ x, (ro, mo) = x := ⟨_, rfl⟩
  rw [hx0] at h
  have hK : x = (ro, mo) := hx0.symm
  unfold F_X12_levelOf at h
  refine lv_aload_n hx hb dX12_levelOf_0 rfl (lv_at hl 0 rfl) ?_
  obtain ⟨t1, ht1, h⟩ := Option.bind_eq_some_iff.mp h
  refine xr_getP X O ht1 fl_X12_33 dX12_levelOf_1 ?_
  refine lv_iconst (v := (0 : Int32)) hx hb dX12_levelOf_4 (by decide) ?_
  refine lv_iload_n hx hb dX12_levelOf_5 rfl (lv_at hl 1 rfl) ?_
  obtain ⟨t2, ht2, h⟩ := Option.bind_eq_some_iff.mp h
  refine xr_stI X O ht2 dX12_levelOf_6 (fun H locs O => ?_)
  refine lv_aload_n hx hb dX12_levelOf_7 rfl (lv_at hl 0 rfl) ?_
  obtain ⟨t3, ht3, h⟩ := Option.bind_eq_some_iff.mp h
  refine xr_getP X O ht3 fl_X12_33 dX12_levelOf_8 ?_
  refine lv_iconst (v := (1 : Int32)) hx hb dX12_levelOf_11 (by decide) ?_
  refine lv_iload_n hx hb dX12_levelOf_12 rfl (lv_at hl 2 rfl) ?_
  obtain ⟨t4, ht4, h⟩ := Option.bind_eq_some_iff.mp h
  refine xr_stI X O ht4 dX12_levelOf_13 (fun H locs O => ?_)
  refine lv_aload_n hx hb dX12_levelOf_14 rfl (lv_at hl 0 rfl) ?_
  obtain ⟨t5, ht5, h⟩ := Option.bind_eq_some_iff.mp h
  refine xr_getP X O ht5 fl_X12_13 dX12_levelOf_15 ?_
  refine lv_bipush (v := (7 : Int32)) hx hb dX12_levelOf_18 (by decide) ?_
  obtain ⟨t6, ht6, h⟩ := Option.bind_eq_some_iff.mp h
  refine xr_aldI X O ht6 dX12_levelOf_20 ?_
  refine lv_iconst (v := (1 : Int32)) hx hb dX12_levelOf_21 (by decide) ?_
  refine lv_icmp_ne (tgt := 36) hx hb dX12_levelOf_22 (by decide) (fun hc22 => ?_) (fun hc22 => ?_)
  · rw [if_neg hc22] at h
    refine lv_iload_n hx hb dX12_levelOf_36 rfl (lv_at hl 1 rfl) ?_
    refine lv_bipush (v := (18 : Int32)) hx hb dX12_levelOf_37 (by decide) ?_
    refine lv_irem hx hb dX12_levelOf_39 (by decide) ?_
    obtain ⟨t7, ht7, h⟩ := Option.bind_eq_some_iff.mp h
    refine xr_top (w := .int t7) (by rw [Option.some.inj ht7]) ?_
    refine lv_istore_n (lv' := [(3, .int t7), (0, .ref (κ.1 + a0)), (1, .int a1), (2, .int a2)]) hx hb dX12_levelOf_40 rfl hl (by decide) rfl (fun ls hl => ?_)
    refine lv_iload_n hx hb dX12_levelOf_41 rfl (lv_at hl 0 rfl) ?_
    refine lv_bipush (v := (9 : Int32)) hx hb dX12_levelOf_42 (by decide) ?_
    refine lv_icmp_le (tgt := 54) hx hb dX12_levelOf_44 (by decide) (fun hc44 => ?_) (fun hc44 => ?_)
    · rw [if_pos hc44] at h
      refine lv_iload_n hx hb dX12_levelOf_54 rfl (lv_at hl 0 rfl) ?_
      rw [← Option.some.inj h] at hK
      have hK : (t7, t4) = (ro, mo) := hK
      obtain ⟨hK1, hK2⟩ := Prod.mk.inj hK
      rw [hK2] at O
      refine xr_top (w := .int ro) (by rw [hK1]) ?_
      exact xr_iret X hr hlk O dX12_levelOf_55
    rw [if_neg hc44] at h
    refine lv_bipush (v := (18 : Int32)) hx hb dX12_levelOf_47 (by decide) ?_
    refine lv_iload_n hx hb dX12_levelOf_49 rfl (lv_at hl 0 rfl) ?_
    refine lv_isub hx hb dX12_levelOf_50 ?_
    refine lv_goto (tgt := 55) hx hb dX12_levelOf_51 (by decide) ?_
    rw [← Option.some.inj h] at hK
    have hK : (((18 : Int32) - t7), t4) = (ro, mo) := hK
    obtain ⟨hK1, hK2⟩ := Prod.mk.inj hK
    rw [hK2] at O
    refine xr_top (w := .int ro) (by rw [hK1]) ?_
    exact xr_iret X hr hlk O dX12_levelOf_55
  rw [if_pos hc22] at h
  refine lv_aload_n hx hb dX12_levelOf_25 rfl (lv_at hl 0 rfl) ?_
  refine lv_iconst (v := (0 : Int32)) hx hb dX12_levelOf_26 (by decide) ?_
  obtain ⟨_, hut8, h⟩ := Option.bind_eq_some_iff.mp h
  obtain ⟨t9, ht9, h⟩ := Option.bind_eq_some_iff.mp h
  refine xr_callV (rest := []) X O (T_X12_reckons l κ a0 (0 : Int32) t4 _ _ ht9) lk_X12_241 hut8 (Nat.le_of_ble_eq_true rfl) rfl hl.1 rfl (Nat.le_of_ble_eq_true rfl) dX12_levelOf_27 ⟨Nat.le_of_ble_eq_true rfl, Nat.le_of_ble_eq_true rfl⟩ (fun H locs O => ?_)
  refine W.eq (g2 := F0 m 30 ls [.int t9.1]) rfl ?_
  refine lv_bipush (v := (10 : Int32)) hx hb dX12_levelOf_30 (by decide) ?_
  obtain ⟨t10, ht10, h⟩ := Option.bind_eq_some_iff.mp h
  refine xr_callS (rest := []) X O (T_X12_kept l κ t9.1 (10 : Int32) t9.2 _ _ ht10) lk_X12_244 (Nat.le_of_ble_eq_true rfl) rfl hl.1 rfl (Nat.le_of_ble_eq_true rfl) dX12_levelOf_32 ⟨Nat.le_of_ble_eq_true rfl, Nat.le_of_ble_eq_true rfl⟩ (fun H locs O => ?_)
  refine W.eq (g2 := F0 m 35 ls [.int t10.1]) rfl ?_
  rw [← Option.some.inj h] at hK
  have hK : (t10.1, t10.2) = (ro, mo) := hK
  obtain ⟨hK1, hK2⟩ := Prod.mk.inj hK
  rw [hK2] at O
  refine xr_top (w := .int ro) (by rw [hK1]) ?_
  exact xr_iret X hr hlk O dX12_levelOf_35
def F_X12_begins_29 (v0 : Nat) (M : xM) : Option (xM) :=
(xgP M v0 12 1).bind fun t5 =>
(xaI M 20 t5 (105 : Int32)).bind fun t6 =>
(xpI M v0 12 20 t6).bind fun t7 =>
(xgP t7 v0 12 1).bind fun t8 =>
(xaI t7 20 t8 (107 : Int32)).bind fun t9 =>
(xpI t7 v0 12 21 t9).bind fun t10 =>
some t10
def F_X12_begins_2b (v0 : Nat) : (Int32 × xM) → Option ((Int32 × xM) ⊕ (xM)) := fun ⟨v1, M⟩ =>
if (25 : Int32) ≤ v1 then (
(F_X12_begins_29 v0 M).map Sum.inr)
else (
(xgP M v0 12 18).bind fun t1 =>
(xgP M v0 12 1).bind fun t2 =>
(xaI M 20 t2 ((67 : Int32) + v1)).bind fun t3 =>
(xsI M t1 v1 t3).bind fun t4 =>
some (.inl ((v1 + 1), t4)))
def F_X12_begins_2 (v0 : Nat) (v1 : Int32) (M : xM) : Option (xM) := xit (F_X12_begins_2b v0) xFU (v1, M)
def F_X12_begins (a0 : Nat) (M : xM) : Option (xM) :=
F_X12_begins_2 a0 (0 : Int32) M
set_option maxRecDepth 100000 in
set_option maxHeartbeats 4000000 in
theorem F_X12_begins_29_ok (X : xX p s m args c cX12_begins 2 RX12 κ) (hr : meth.sig.returnType = none) (hlk : meth.locks = false) {mo : xM} (v0 : Nat) (M : xM) (x : xM) (h : F_X12_begins_29 v0 M = some x) (hK : (fun o => o = mo) x) (H : Heap) (locs : List Loc) (ls : Array Slot) (O : xO κ s M H locs) (hl : lv_has ls 2 [(0, .ref (κ.1 + v0))]) : W p l e (xRm 2 0 0) s m args below meth c H locs 0 0 (xQf below args s 0 0 κ none mo) (F0 m 29 ls []) := by
  unfold F_X12_begins_29 at h
  have hx := X.1
  have hb := X.2.1
  refine lv_aload_n hx hb dX12_begins_29 rfl (lv_at hl 0 rfl) ?_
  refine lv_aload_n hx hb dX12_begins_30 rfl (lv_at hl 0 rfl) ?_
  obtain ⟨t5, ht5, h⟩ := Option.bind_eq_some_iff.mp h
  refine xr_getP X O ht5 fl_X12_13 dX12_begins_31 ?_
  refine lv_bipush (v := (105 : Int32)) hx hb dX12_begins_34 (by decide) ?_
  obtain ⟨t6, ht6, h⟩ := Option.bind_eq_some_iff.mp h
  refine xr_aldI X O ht6 dX12_begins_36 ?_
  obtain ⟨t7, ht7, h⟩ := Option.bind_eq_some_iff.mp h
  refine xr_putI X O ht7 fl_X12_247 dX12_begins_37 (fun H locs O => ?_)
  refine lv_aload_n hx hb dX12_begins_40 rfl (lv_at hl 0 rfl) ?_
  refine lv_aload_n hx hb dX12_begins_41 rfl (lv_at hl 0 rfl) ?_
  obtain ⟨t8, ht8, h⟩ := Option.bind_eq_some_iff.mp h
  refine xr_getP X O ht8 fl_X12_13 dX12_begins_42 ?_
  refine lv_bipush (v := (107 : Int32)) hx hb dX12_begins_45 (by decide) ?_
  obtain ⟨t9, ht9, h⟩ := Option.bind_eq_some_iff.mp h
  refine xr_aldI X O ht9 dX12_begins_47 ?_
  obtain ⟨t10, ht10, h⟩ := Option.bind_eq_some_iff.mp h
  refine xr_putI X O ht10 fl_X12_250 dX12_begins_48 (fun H locs O => ?_)
  rw [← Option.some.inj h] at hK
  have hK : t10 = mo := hK
  rw [hK] at O
  exact xr_vret X hr hlk O dX12_begins_51
set_option maxRecDepth 100000 in
set_option maxHeartbeats 4000000 in
theorem F_X12_begins_2_bok (X : xX p s m args c cX12_begins 2 RX12 κ) (hr : meth.sig.returnType = none) (hlk : meth.locks = false) {mo : xM} (v0 : Nat) (v1 : Int32) {W2 : Int32 × xM → Prop} (hW2 : ∀ (v1 : Int32) (M : xM), W2 (v1, M) → ∀ (H : Heap) (locs : List Loc) (ls : Array Slot), xO κ s M H locs → lv_has ls 2 [(0, .ref (κ.1 + v0)), (1, .int v1)] → W p l e (xRm 2 0 0) s m args below meth c H locs 0 0 (xQf below args s 0 0 κ none mo) (F0 m 2 ls [])) (M : xM) (x : (Int32 × xM) ⊕ (xM)) (h : F_X12_begins_2b v0 (v1, M) = some x) (hK : (xKl W2 (fun o => o = mo)) x) (H : Heap) (locs : List Loc) (ls : Array Slot) (O : xO κ s M H locs) (hl : lv_has ls 2 [(0, .ref (κ.1 + v0)), (1, .int v1)]) : W p l e (xRm 2 0 0) s m args below meth c H locs 0 0 (xQf below args s 0 0 κ none mo) (F0 m 2 ls []) := by
  unfold F_X12_begins_2b at h
  dsimp only at h
  have hx := X.1
  have hb := X.2.1
  refine lv_iload_n hx hb dX12_begins_2 rfl (lv_at hl 1 rfl) ?_
  refine lv_bipush (v := (25 : Int32)) hx hb dX12_begins_3 (by decide) ?_
  refine lv_icmp_ge (tgt := 29) hx hb dX12_begins_5 (by decide) (fun hc5 => ?_) (fun hc5 => ?_)
  · rw [if_pos hc5] at h
    obtain ⟨_, hw0, ew0⟩ := Option.map_eq_some_iff.mp h
    rw [← ew0] at hK
    have h := hw0
    exact F_X12_begins_29_ok X hr hlk v0 M _ h hK H locs ls O (lv_sub hl [0] rfl)
  rw [if_neg hc5] at h
  refine lv_aload_n hx hb dX12_begins_8 rfl (lv_at hl 0 rfl) ?_
  obtain ⟨t1, ht1, h⟩ := Option.bind_eq_some_iff.mp h
  refine xr_getP X O ht1 fl_X12_36 dX12_begins_9 ?_
  refine lv_iload_n hx hb dX12_begins_12 rfl (lv_at hl 1 rfl) ?_
  refine lv_aload_n hx hb dX12_begins_13 rfl (lv_at hl 0 rfl) ?_
  obtain ⟨t2, ht2, h⟩ := Option.bind_eq_some_iff.mp h
  refine xr_getP X O ht2 fl_X12_13 dX12_begins_14 ?_
  refine lv_bipush (v := (67 : Int32)) hx hb dX12_begins_17 (by decide) ?_
  refine lv_iload_n hx hb dX12_begins_19 rfl (lv_at hl 1 rfl) ?_
  refine lv_iadd hx hb dX12_begins_20 ?_
  obtain ⟨t3, ht3, h⟩ := Option.bind_eq_some_iff.mp h
  refine xr_aldI X O ht3 dX12_begins_21 ?_
  obtain ⟨t4, ht4, h⟩ := Option.bind_eq_some_iff.mp h
  refine xr_stI X O ht4 dX12_begins_22 (fun H locs O => ?_)
  refine lv_iinc (v := (v1 + 1)) (lv' := [(1, .int (v1 + 1)), (0, .ref (κ.1 + v0))]) hx hb dX12_begins_23 hl (k := 1) rfl rfl (by decide) rfl (fun ls hl => ?_)
  refine lv_goto (tgt := 2) hx hb dX12_begins_26 (by decide) ?_
  rw [← Option.some.inj h] at hK
  exact hW2 (v1 + 1) t4 hK H locs ls O (lv_sub hl [1, 0] rfl)
set_option maxRecDepth 100000 in
set_option maxHeartbeats 4000000 in
theorem F_X12_begins_2_ok (X : xX p s m args c cX12_begins 2 RX12 κ) (hr : meth.sig.returnType = none) (hlk : meth.locks = false) {mo : xM} (v0 : Nat) (v1 : Int32) (M : xM) (x : xM) (h : F_X12_begins_2 v0 v1 M = some x) (hK : (fun o => o = mo) x) (H : Heap) (locs : List Loc) (ls : Array Slot) (O : xO κ s M H locs) (hl : lv_has ls 2 [(0, .ref (κ.1 + v0)), (1, .int v1)]) : W p l e (xRm 2 0 0) s m args below meth c H locs 0 0 (xQf below args s 0 0 κ none mo) (F0 m 2 ls []) := by
  refine xit_K (Wh := fun x => ∀ (H : Heap) (locs : List Loc) (ls : Array Slot), xO κ s x.2 H locs → lv_has ls 2 [(0, .ref (κ.1 + v0)), (1, .int x.1)] → W p l e (xRm 2 0 0) s m args below meth c H locs 0 0 (xQf below args s 0 0 κ none mo) (F0 m 2 ls [])) (Kp := (fun o => o = mo)) ?_ xFU (v1, M) x h hK H locs ls O hl
  intro y x h hK H locs ls O hl
  exact F_X12_begins_2_bok X hr hlk v0 y.1 (fun _ _ hw => hw) y.2 x h hK H locs ls O hl
set_option maxRecDepth 100000 in
set_option maxHeartbeats 4000000 in
theorem T_X12_begins (l : Launch) (κ : xQ) (a0 : Nat) (M : xM) (mo : xM) (h : F_X12_begins a0 M = some mo) : xC l yX12_begins cX12_begins 2 none 2 0 0 κ [.ref (κ.1 + a0)] M none mo := by
  refine xC_of rfl (Nat.le_of_ble_eq_true rfl) fun p e s m args below meth c X hr hlk hnm H locs ls O hl => ?_
  have X : xX p s m args c cX12_begins 2 RX12 κ := X
  have hl : lv_has ls 2 [(0, .ref (κ.1 + a0))] := hl
  have hx := X.1
  have hb := X.2.1
  obtain ⟨x, hx0⟩ : ∃ x, mo = x := ⟨_, rfl⟩
  rw [hx0] at h
  have hK : x = mo := hx0.symm
  unfold F_X12_begins at h
  refine lv_iconst (v := (0 : Int32)) hx hb dX12_begins_0 (by decide) ?_
  refine lv_istore_n (lv' := [(1, .int (0 : Int32)), (0, .ref (κ.1 + a0))]) hx hb dX12_begins_1 rfl hl (by decide) rfl (fun ls hl => ?_)
  exact F_X12_begins_2_ok X hr hlk a0 (0 : Int32) M _ h hK H locs ls O (lv_sub hl [1, 0] rfl)
def F_X12_wetOf_78 (v0 : Nat) (v1 : Int32) (v2 : Int32) (v3 : Int32) (v4 : Int32) (M : xM) : Option ((Int32 × Int32 × Int32 × xM) ⊕ ((Int32 × Int32 × xM) ⊕ (Int32 × xM))) :=
some (.inl (v2, v3, (v4 + 1), M))
def F_X12_wetOf_69 (v0 : Nat) (v1 : Int32) (v2 : Int32) (v4 : Int32) (M : xM) : Option ((Int32 × Int32 × Int32 × xM) ⊕ ((Int32 × Int32 × xM) ⊕ (Int32 × xM))) :=
(some ((v2 ||| ((1 : Int32) <<< (v4 &&& 31))))).bind fun t10 =>
F_X12_wetOf_78 v0 v1 t10 (1 : Int32) v4 M
def F_X12_wetOf_84 (v0 : Nat) (v1 : Int32) (v2 : Int32) (v3 : Int32) (M : xM) : Option ((Int32 × Int32 × xM) ⊕ (Int32 × xM)) :=
some (.inl (v2, v3, M))
def F_X12_wetOf_13b (v0 : Nat) (v1 : Int32) : (Int32 × Int32 × Int32 × xM) → Option ((Int32 × Int32 × Int32 × xM) ⊕ ((Int32 × Int32 × xM) ⊕ (Int32 × xM))) := fun ⟨v2, v3, v4, M⟩ =>
(xck M v0 12).bind fun _ =>
(F_X12_isCell v0 v4.toInt64 M).bind fun t2 =>
if t2.1 = 0 then (
(F_X12_wetOf_84 v0 v1 v2 v3 t2.2).map Sum.inr)
else (
(F_X12_isIn v2.toInt64 v4 t2.2).bind fun t3 =>
if t3.1 = 0 then (
(xgP t3.2 v0 12 18).bind fun t4 =>
(xaI t3.2 20 t4 v4).bind fun t5 =>
if v1 ≤ t5 then (
F_X12_wetOf_78 v0 v1 v2 v3 v4 t3.2)
else (
(xgP t3.2 v0 12 1).bind fun t6 =>
(xaI t3.2 20 t6 (2 : Int32)).bind fun t7 =>
if v4 < t7 then (
F_X12_wetOf_69 v0 v1 v2 v4 t3.2)
else (
(xck t3.2 v0 12).bind fun _ =>
(F_X12_besides v0 v4 t3.2).bind fun t9 =>
if (t9.1 &&& v2) = 0 then (
F_X12_wetOf_78 v0 v1 v2 v3 v4 t9.2)
else (
F_X12_wetOf_69 v0 v1 v2 v4 t9.2))))
else (
F_X12_wetOf_78 v0 v1 v2 v3 v4 t3.2))
def F_X12_wetOf_13 (v0 : Nat) (v1 : Int32) (v2 : Int32) (v3 : Int32) (v4 : Int32) (M : xM) : Option ((Int32 × Int32 × xM) ⊕ (Int32 × xM)) := xit (F_X12_wetOf_13b v0 v1) xFU (v2, v3, v4, M)
def F_X12_wetOf_87 (v2 : Int32) (M : xM) : Option (Int32 × xM) :=
some (v2, M)
def F_X12_wetOf_4b (v0 : Nat) (v1 : Int32) : (Int32 × Int32 × xM) → Option ((Int32 × Int32 × xM) ⊕ (Int32 × xM)) := fun ⟨v2, v3, M⟩ =>
if v3 = 0 then (
(F_X12_wetOf_87 v2 M).map Sum.inr)
else (
F_X12_wetOf_13 v0 v1 v2 (0 : Int32) (0 : Int32) M)
def F_X12_wetOf_4 (v0 : Nat) (v1 : Int32) (v2 : Int32) (v3 : Int32) (M : xM) : Option (Int32 × xM) := xit (F_X12_wetOf_4b v0 v1) xFU (v2, v3, M)
def F_X12_wetOf (a0 : Nat) (a1 : Int32) (M : xM) : Option (Int32 × xM) :=
F_X12_wetOf_4 a0 a1 (0 : Int32) (1 : Int32) M
set_option maxRecDepth 100000 in
set_option maxHeartbeats 4000000 in
theorem F_X12_wetOf_78_ok (X : xX p s m args c cX12_wetOf 5 RX12 κ) (hr : meth.sig.returnType = (some .int)) (hlk : meth.locks = false) {ro : Int32} {mo : xM} (v0 : Nat) (v1 : Int32) (v2 : Int32) (v3 : Int32) (v4 : Int32) {W4 : Int32 × Int32 × xM → Prop} (hW4 : ∀ (v2 : Int32) (v3 : Int32) (M : xM), W4 (v2, v3, M) → ∀ (H : Heap) (locs : List Loc) (ls : Array Slot), xO κ s M H locs → lv_has ls 5 [(0, .ref (κ.1 + v0)), (1, .int v1), (2, .int v2), (3, .int v3)] → W p l e (xRm 5 0 0) s m args below meth c H locs 0 0 (xQf below args s 0 0 κ (some (.int ro)) mo) (F0 m 4 ls [])) {W13 : Int32 × Int32 × Int32 × xM → Prop} (hW13 : ∀ (v2 : Int32) (v3 : Int32) (v4 : Int32) (M : xM), W13 (v2, v3, v4, M) → ∀ (H : Heap) (locs : List Loc) (ls : Array Slot), xO κ s M H locs → lv_has ls 5 [(0, .ref (κ.1 + v0)), (1, .int v1), (2, .int v2), (3, .int v3), (4, .int v4)] → W p l e (xRm 5 0 0) s m args below meth c H locs 0 0 (xQf below args s 0 0 κ (some (.int ro)) mo) (F0 m 13 ls [])) (M : xM) (x : (Int32 × Int32 × Int32 × xM) ⊕ ((Int32 × Int32 × xM) ⊕ (Int32 × xM))) (h : F_X12_wetOf_78 v0 v1 v2 v3 v4 M = some x) (hK : (xKl W13 (xKl W4 (fun o => o = (ro, mo)))) x) (H : Heap) (locs : List Loc) (ls : Array Slot) (O : xO κ s M H locs) (hl : lv_has ls 5 [(0, .ref (κ.1 + v0)), (1, .int v1), (2, .int v2), (3, .int v3), (4, .int v4)]) : W p l e (xRm 5 0 0) s m args below meth c H locs 0 0 (xQf below args s 0 0 κ (some (.int ro)) mo) (F0 m 78 ls []) := by
  unfold F_X12_wetOf_78 at h
  have hx := X.1
  have hb := X.2.1
  refine lv_iinc (v := (v4 + 1)) (lv' := [(4, .int (v4 + 1)), (0, .ref (κ.1 + v0)), (1, .int v1), (2, .int v2), (3, .int v3)]) hx hb dX12_wetOf_78 hl (k := 4) rfl rfl (by decide) rfl (fun ls hl => ?_)
  refine lv_goto (tgt := 13) hx hb dX12_wetOf_81 (by decide) ?_
  rw [← Option.some.inj h] at hK
  exact hW13 v2 v3 (v4 + 1) M hK H locs ls O (lv_sub hl [1, 2, 3, 4, 0] rfl)
set_option maxRecDepth 100000 in
set_option maxHeartbeats 4000000 in
theorem F_X12_wetOf_69_ok (X : xX p s m args c cX12_wetOf 5 RX12 κ) (hr : meth.sig.returnType = (some .int)) (hlk : meth.locks = false) {ro : Int32} {mo : xM} (v0 : Nat) (v1 : Int32) (v2 : Int32) (v4 : Int32) {W4 : Int32 × Int32 × xM → Prop} (hW4 : ∀ (v2 : Int32) (v3 : Int32) (M : xM), W4 (v2, v3, M) → ∀ (H : Heap) (locs : List Loc) (ls : Array Slot), xO κ s M H locs → lv_has ls 5 [(0, .ref (κ.1 + v0)), (1, .int v1), (2, .int v2), (3, .int v3)] → W p l e (xRm 5 0 0) s m args below meth c H locs 0 0 (xQf below args s 0 0 κ (some (.int ro)) mo) (F0 m 4 ls [])) {W13 : Int32 × Int32 × Int32 × xM → Prop} (hW13 : ∀ (v2 : Int32) (v3 : Int32) (v4 : Int32) (M : xM), W13 (v2, v3, v4, M) → ∀ (H : Heap) (locs : List Loc) (ls : Array Slot), xO κ s M H locs → lv_has ls 5 [(0, .ref (κ.1 + v0)), (1, .int v1), (2, .int v2), (3, .int v3), (4, .int v4)] → W p l e (xRm 5 0 0) s m args below meth c H locs 0 0 (xQf below args s 0 0 κ (some (.int ro)) mo) (F0 m 13 ls [])) (M : xM) (x : (Int32 × Int32 × Int32 × xM) ⊕ ((Int32 × Int32 × xM) ⊕ (Int32 × xM))) (h : F_X12_wetOf_69 v0 v1 v2 v4 M = some x) (hK : (xKl W13 (xKl W4 (fun o => o = (ro, mo)))) x) (H : Heap) (locs : List Loc) (ls : Array Slot) (O : xO κ s M H locs) (hl : lv_has ls 5 [(0, .ref (κ.1 + v0)), (1, .int v1), (2, .int v2), (4, .int v4)]) : W p l e (xRm 5 0 0) s m args below meth c H locs 0 0 (xQf below args s 0 0 κ (some (.int ro)) mo) (F0 m 69 ls []) := by
  unfold F_X12_wetOf_69 at h
  have hx := X.1
  have hb := X.2.1
  refine lv_iload_n hx hb dX12_wetOf_69 rfl (lv_at hl 2 rfl) ?_
  refine lv_iconst (v := (1 : Int32)) hx hb dX12_wetOf_70 (by decide) ?_
  refine lv_iload hx hb dX12_wetOf_71 (lv_at hl 3 rfl) ?_
  refine lv_ishl hx hb dX12_wetOf_73 ?_
  refine lv_ior hx hb dX12_wetOf_74 ?_
  obtain ⟨t10, ht10, h⟩ := Option.bind_eq_some_iff.mp h
  refine xr_top (w := .int t10) (by rw [Option.some.inj ht10]) ?_
  refine lv_istore_n (lv' := [(2, .int t10), (0, .ref (κ.1 + v0)), (1, .int v1), (4, .int v4)]) hx hb dX12_wetOf_75 rfl hl (by decide) rfl (fun ls hl => ?_)
  refine lv_iconst (v := (1 : Int32)) hx hb dX12_wetOf_76 (by decide) ?_
  refine lv_istore_n (lv' := [(3, .int (1 : Int32)), (2, .int t10), (0, .ref (κ.1 + v0)), (1, .int v1), (4, .int v4)]) hx hb dX12_wetOf_77 rfl hl (by decide) rfl (fun ls hl => ?_)
  exact F_X12_wetOf_78_ok X hr hlk v0 v1 t10 (1 : Int32) v4 hW4 hW13 M _ h hK H locs ls O (lv_sub hl [2, 3, 1, 0, 4] rfl)
set_option maxRecDepth 100000 in
set_option maxHeartbeats 4000000 in
theorem F_X12_wetOf_84_ok (X : xX p s m args c cX12_wetOf 5 RX12 κ) (hr : meth.sig.returnType = (some .int)) (hlk : meth.locks = false) {ro : Int32} {mo : xM} (v0 : Nat) (v1 : Int32) (v2 : Int32) (v3 : Int32) {W4 : Int32 × Int32 × xM → Prop} (hW4 : ∀ (v2 : Int32) (v3 : Int32) (M : xM), W4 (v2, v3, M) → ∀ (H : Heap) (locs : List Loc) (ls : Array Slot), xO κ s M H locs → lv_has ls 5 [(0, .ref (κ.1 + v0)), (1, .int v1), (2, .int v2), (3, .int v3)] → W p l e (xRm 5 0 0) s m args below meth c H locs 0 0 (xQf below args s 0 0 κ (some (.int ro)) mo) (F0 m 4 ls [])) (M : xM) (x : (Int32 × Int32 × xM) ⊕ (Int32 × xM)) (h : F_X12_wetOf_84 v0 v1 v2 v3 M = some x) (hK : (xKl W4 (fun o => o = (ro, mo))) x) (H : Heap) (locs : List Loc) (ls : Array Slot) (O : xO κ s M H locs) (hl : lv_has ls 5 [(0, .ref (κ.1 + v0)), (1, .int v1), (2, .int v2), (3, .int v3)]) : W p l e (xRm 5 0 0) s m args below meth c H locs 0 0 (xQf below args s 0 0 κ (some (.int ro)) mo) (F0 m 84 ls []) := by
  unfold F_X12_wetOf_84 at h
  have hx := X.1
  have hb := X.2.1
  refine lv_goto (tgt := 4) hx hb dX12_wetOf_84 (by decide) ?_
  rw [← Option.some.inj h] at hK
  exact hW4 v2 v3 M hK H locs ls O (lv_sub hl [0, 1, 2, 3] rfl)
set_option maxRecDepth 100000 in
set_option maxHeartbeats 4000000 in
theorem F_X12_wetOf_13_bok (X : xX p s m args c cX12_wetOf 5 RX12 κ) (hr : meth.sig.returnType = (some .int)) (hlk : meth.locks = false) {ro : Int32} {mo : xM} (v0 : Nat) (v1 : Int32) (v2 : Int32) (v3 : Int32) (v4 : Int32) {W4 : Int32 × Int32 × xM → Prop} (hW4 : ∀ (v2 : Int32) (v3 : Int32) (M : xM), W4 (v2, v3, M) → ∀ (H : Heap) (locs : List Loc) (ls : Array Slot), xO κ s M H locs → lv_has ls 5 [(0, .ref (κ.1 + v0)), (1, .int v1), (2, .int v2), (3, .int v3)] → W p l e (xRm 5 0 0) s m args below meth c H locs 0 0 (xQf below args s 0 0 κ (some (.int ro)) mo) (F0 m 4 ls [])) {W13 : Int32 × Int32 × Int32 × xM → Prop} (hW13 : ∀ (v2 : Int32) (v3 : Int32) (v4 : Int32) (M : xM), W13 (v2, v3, v4, M) → ∀ (H : Heap) (locs : List Loc) (ls : Array Slot), xO κ s M H locs → lv_has ls 5 [(0, .ref (κ.1 + v0)), (1, .int v1), (2, .int v2), (3, .int v3), (4, .int v4)] → W p l e (xRm 5 0 0) s m args below meth c H locs 0 0 (xQf below args s 0 0 κ (some (.int ro)) mo) (F0 m 13 ls [])) (M : xM) (x : (Int32 × Int32 × Int32 × xM) ⊕ ((Int32 × Int32 × xM) ⊕ (Int32 × xM))) (h : F_X12_wetOf_13b v0 v1 (v2, v3, v4, M) = some x) (hK : (xKl W13 (xKl W4 (fun o => o = (ro, mo)))) x) (H : Heap) (locs : List Loc) (ls : Array Slot) (O : xO κ s M H locs) (hl : lv_has ls 5 [(0, .ref (κ.1 + v0)), (1, .int v1), (2, .int v2), (3, .int v3), (4, .int v4)]) : W p l e (xRm 5 0 0) s m args below meth c H locs 0 0 (xQf below args s 0 0 κ (some (.int ro)) mo) (F0 m 13 ls []) := by
  unfold F_X12_wetOf_13b at h
  dsimp only at h
  have hx := X.1
  have hb := X.2.1
  refine lv_aload_n hx hb dX12_wetOf_13 rfl (lv_at hl 0 rfl) ?_
  refine lv_iload hx hb dX12_wetOf_14 (lv_at hl 4 rfl) ?_
  refine lv_i2l (v := v4.toInt64) hx hb dX12_wetOf_16 rfl ?_
  obtain ⟨_, hut1, h⟩ := Option.bind_eq_some_iff.mp h
  obtain ⟨t2, ht2, h⟩ := Option.bind_eq_some_iff.mp h
  refine xr_callV (rest := []) X O (T_X12_isCell l κ v0 v4.toInt64 M _ _ ht2) lk_X12_230 hut1 (Nat.le_of_ble_eq_true rfl) rfl hl.1 rfl (Nat.le_of_ble_eq_true rfl) dX12_wetOf_17 ⟨Nat.le_of_ble_eq_true rfl, Nat.le_of_ble_eq_true rfl⟩ (fun H locs O => ?_)
  refine W.eq (g2 := F0 m 20 ls [.int t2.1]) rfl ?_
  refine lv_if_eq (tgt := 84) hx hb dX12_wetOf_20 (by decide) (fun hc20 => ?_) (fun hc20 => ?_)
  · rw [if_pos hc20] at h
    obtain ⟨_, hw0, ew0⟩ := Option.map_eq_some_iff.mp h
    rw [← ew0] at hK
    have h := hw0
    exact F_X12_wetOf_84_ok X hr hlk v0 v1 v2 v3 hW4 t2.2 _ h hK H locs ls O (lv_sub hl [0, 1, 2, 3] rfl)
  rw [if_neg hc20] at h
  refine lv_iload_n hx hb dX12_wetOf_23 rfl (lv_at hl 2 rfl) ?_
  refine lv_i2l (v := v2.toInt64) hx hb dX12_wetOf_24 rfl ?_
  refine lv_iload hx hb dX12_wetOf_25 (lv_at hl 4 rfl) ?_
  obtain ⟨t3, ht3, h⟩ := Option.bind_eq_some_iff.mp h
  refine xr_callS (rest := []) X O (T_X12_isIn l κ v2.toInt64 v4 t2.2 _ _ ht3) lk_X12_253 (Nat.le_of_ble_eq_true rfl) rfl hl.1 rfl (Nat.le_of_ble_eq_true rfl) dX12_wetOf_27 ⟨Nat.le_of_ble_eq_true rfl, Nat.le_of_ble_eq_true rfl⟩ (fun H locs O => ?_)
  refine W.eq (g2 := F0 m 30 ls [.int t3.1]) rfl ?_
  refine lv_if_ne (tgt := 78) hx hb dX12_wetOf_30 (by decide) (fun hc30 => ?_) (fun hc30 => ?_)
  · rw [if_neg hc30] at h
    exact F_X12_wetOf_78_ok X hr hlk v0 v1 v2 v3 v4 hW4 hW13 t3.2 _ h hK H locs ls O (lv_sub hl [0, 1, 2, 3, 4] rfl)
  rw [if_pos hc30] at h
  refine lv_aload_n hx hb dX12_wetOf_33 rfl (lv_at hl 0 rfl) ?_
  obtain ⟨t4, ht4, h⟩ := Option.bind_eq_some_iff.mp h
  refine xr_getP X O ht4 fl_X12_36 dX12_wetOf_34 ?_
  refine lv_iload hx hb dX12_wetOf_37 (lv_at hl 4 rfl) ?_
  obtain ⟨t5, ht5, h⟩ := Option.bind_eq_some_iff.mp h
  refine xr_aldI X O ht5 dX12_wetOf_39 ?_
  refine lv_iload_n hx hb dX12_wetOf_40 rfl (lv_at hl 1 rfl) ?_
  refine lv_icmp_ge (tgt := 78) hx hb dX12_wetOf_41 (by decide) (fun hc41 => ?_) (fun hc41 => ?_)
  · rw [if_pos hc41] at h
    exact F_X12_wetOf_78_ok X hr hlk v0 v1 v2 v3 v4 hW4 hW13 t3.2 _ h hK H locs ls O (lv_sub hl [0, 1, 2, 3, 4] rfl)
  rw [if_neg hc41] at h
  refine lv_iload hx hb dX12_wetOf_44 (lv_at hl 4 rfl) ?_
  refine lv_aload_n hx hb dX12_wetOf_46 rfl (lv_at hl 0 rfl) ?_
  obtain ⟨t6, ht6, h⟩ := Option.bind_eq_some_iff.mp h
  refine xr_getP X O ht6 fl_X12_13 dX12_wetOf_47 ?_
  refine lv_iconst (v := (2 : Int32)) hx hb dX12_wetOf_50 (by decide) ?_
  obtain ⟨t7, ht7, h⟩ := Option.bind_eq_some_iff.mp h
  refine xr_aldI X O ht7 dX12_wetOf_51 ?_
  refine lv_icmp_lt (tgt := 69) hx hb dX12_wetOf_52 (by decide) (fun hc52 => ?_) (fun hc52 => ?_)
  · rw [if_pos hc52] at h
    exact F_X12_wetOf_69_ok X hr hlk v0 v1 v2 v4 hW4 hW13 t3.2 _ h hK H locs ls O (lv_sub hl [0, 1, 2, 4] rfl)
  rw [if_neg hc52] at h
  refine lv_aload_n hx hb dX12_wetOf_55 rfl (lv_at hl 0 rfl) ?_
  refine lv_iload hx hb dX12_wetOf_56 (lv_at hl 4 rfl) ?_
  obtain ⟨_, hut8, h⟩ := Option.bind_eq_some_iff.mp h
  obtain ⟨t9, ht9, h⟩ := Option.bind_eq_some_iff.mp h
  refine xr_callV (rest := []) X O (T_X12_besides l κ v0 v4 t3.2 _ _ ht9) lk_X12_257 hut8 (Nat.le_of_ble_eq_true rfl) rfl hl.1 rfl (Nat.le_of_ble_eq_true rfl) dX12_wetOf_58 ⟨Nat.le_of_ble_eq_true rfl, Nat.le_of_ble_eq_true rfl⟩ (fun H locs O => ?_)
  refine W.eq (g2 := F0 m 61 ls [.int t9.1]) rfl ?_
  refine lv_iload_n hx hb dX12_wetOf_61 rfl (lv_at hl 2 rfl) ?_
  refine lv_iand hx hb dX12_wetOf_62 ?_
  refine lv_if_ne (tgt := 69) hx hb dX12_wetOf_63 (by decide) (fun hc63 => ?_) (fun hc63 => ?_)
  · rw [if_neg hc63] at h
    exact F_X12_wetOf_69_ok X hr hlk v0 v1 v2 v4 hW4 hW13 t9.2 _ h hK H locs ls O (lv_sub hl [0, 1, 2, 4] rfl)
  rw [if_pos hc63] at h
  refine lv_goto (tgt := 78) hx hb dX12_wetOf_66 (by decide) ?_
  exact F_X12_wetOf_78_ok X hr hlk v0 v1 v2 v3 v4 hW4 hW13 t9.2 _ h hK H locs ls O (lv_sub hl [0, 1, 2, 3, 4] rfl)
set_option maxRecDepth 100000 in
set_option maxHeartbeats 4000000 in
theorem F_X12_wetOf_13_ok (X : xX p s m args c cX12_wetOf 5 RX12 κ) (hr : meth.sig.returnType = (some .int)) (hlk : meth.locks = false) {ro : Int32} {mo : xM} (v0 : Nat) (v1 : Int32) (v2 : Int32) (v3 : Int32) (v4 : Int32) {W4 : Int32 × Int32 × xM → Prop} (hW4 : ∀ (v2 : Int32) (v3 : Int32) (M : xM), W4 (v2, v3, M) → ∀ (H : Heap) (locs : List Loc) (ls : Array Slot), xO κ s M H locs → lv_has ls 5 [(0, .ref (κ.1 + v0)), (1, .int v1), (2, .int v2), (3, .int v3)] → W p l e (xRm 5 0 0) s m args below meth c H locs 0 0 (xQf below args s 0 0 κ (some (.int ro)) mo) (F0 m 4 ls [])) (M : xM) (x : (Int32 × Int32 × xM) ⊕ (Int32 × xM)) (h : F_X12_wetOf_13 v0 v1 v2 v3 v4 M = some x) (hK : (xKl W4 (fun o => o = (ro, mo))) x) (H : Heap) (locs : List Loc) (ls : Array Slot) (O : xO κ s M H locs) (hl : lv_has ls 5 [(0, .ref (κ.1 + v0)), (1, .int v1), (2, .int v2), (3, .int v3), (4, .int v4)]) : W p l e (xRm 5 0 0) s m args below meth c H locs 0 0 (xQf below args s 0 0 κ (some (.int ro)) mo) (F0 m 13 ls []) := by
  refine xit_K (Wh := fun x => ∀ (H : Heap) (locs : List Loc) (ls : Array Slot), xO κ s x.2.2.2 H locs → lv_has ls 5 [(0, .ref (κ.1 + v0)), (1, .int v1), (2, .int x.1), (3, .int x.2.1), (4, .int x.2.2.1)] → W p l e (xRm 5 0 0) s m args below meth c H locs 0 0 (xQf below args s 0 0 κ (some (.int ro)) mo) (F0 m 13 ls [])) (Kp := (xKl W4 (fun o => o = (ro, mo)))) ?_ xFU (v2, v3, v4, M) x h hK H locs ls O hl
  intro y x h hK H locs ls O hl
  exact F_X12_wetOf_13_bok X hr hlk v0 v1 y.1 y.2.1 y.2.2.1 hW4 (fun _ _ _ _ hw => hw) y.2.2.2 x h hK H locs ls O hl
set_option maxRecDepth 100000 in
set_option maxHeartbeats 4000000 in
theorem F_X12_wetOf_87_ok (X : xX p s m args c cX12_wetOf 5 RX12 κ) (hr : meth.sig.returnType = (some .int)) (hlk : meth.locks = false) {ro : Int32} {mo : xM} (v2 : Int32) (M : xM) (x : Int32 × xM) (h : F_X12_wetOf_87 v2 M = some x) (hK : (fun o => o = (ro, mo)) x) (H : Heap) (locs : List Loc) (ls : Array Slot) (O : xO κ s M H locs) (hl : lv_has ls 5 [(2, .int v2)]) : W p l e (xRm 5 0 0) s m args below meth c H locs 0 0 (xQf below args s 0 0 κ (some (.int ro)) mo) (F0 m 87 ls []) := by
  unfold F_X12_wetOf_87 at h
  have hx := X.1
  have hb := X.2.1
  refine lv_iload_n hx hb dX12_wetOf_87 rfl (lv_at hl 0 rfl) ?_
  rw [← Option.some.inj h] at hK
  have hK : (v2, M) = (ro, mo) := hK
  obtain ⟨hK1, hK2⟩ := Prod.mk.inj hK
  rw [hK2] at O
  refine xr_top (w := .int ro) (by rw [hK1]) ?_
  exact xr_iret X hr hlk O dX12_wetOf_88
set_option maxRecDepth 100000 in
set_option maxHeartbeats 4000000 in
theorem F_X12_wetOf_4_bok (X : xX p s m args c cX12_wetOf 5 RX12 κ) (hr : meth.sig.returnType = (some .int)) (hlk : meth.locks = false) {ro : Int32} {mo : xM} (v0 : Nat) (v1 : Int32) (v2 : Int32) (v3 : Int32) {W4 : Int32 × Int32 × xM → Prop} (hW4 : ∀ (v2 : Int32) (v3 : Int32) (M : xM), W4 (v2, v3, M) → ∀ (H : Heap) (locs : List Loc) (ls : Array Slot), xO κ s M H locs → lv_has ls 5 [(0, .ref (κ.1 + v0)), (1, .int v1), (2, .int v2), (3, .int v3)] → W p l e (xRm 5 0 0) s m args below meth c H locs 0 0 (xQf below args s 0 0 κ (some (.int ro)) mo) (F0 m 4 ls [])) (M : xM) (x : (Int32 × Int32 × xM) ⊕ (Int32 × xM)) (h : F_X12_wetOf_4b v0 v1 (v2, v3, M) = some x) (hK : (xKl W4 (fun o => o = (ro, mo))) x) (H : Heap) (locs : List Loc) (ls : Array Slot) (O : xO κ s M H locs) (hl : lv_has ls 5 [(0, .ref (κ.1 + v0)), (1, .int v1), (2, .int v2), (3, .int v3)]) : W p l e (xRm 5 0 0) s m args below meth c H locs 0 0 (xQf below args s 0 0 κ (some (.int ro)) mo) (F0 m 4 ls []) := by
  unfold F_X12_wetOf_4b at h
  dsimp only at h
  have hx := X.1
  have hb := X.2.1
  refine lv_iload_n hx hb dX12_wetOf_4 rfl (lv_at hl 3 rfl) ?_
  refine lv_if_eq (tgt := 87) hx hb dX12_wetOf_5 (by decide) (fun hc5 => ?_) (fun hc5 => ?_)
  · rw [if_pos hc5] at h
    obtain ⟨_, hw0, ew0⟩ := Option.map_eq_some_iff.mp h
    rw [← ew0] at hK
    have h := hw0
    exact F_X12_wetOf_87_ok X hr hlk v2 M _ h hK H locs ls O (lv_sub hl [2] rfl)
  rw [if_neg hc5] at h
  refine lv_iconst (v := (0 : Int32)) hx hb dX12_wetOf_8 (by decide) ?_
  refine lv_istore_n (lv' := [(3, .int (0 : Int32)), (0, .ref (κ.1 + v0)), (1, .int v1), (2, .int v2)]) hx hb dX12_wetOf_9 rfl hl (by decide) rfl (fun ls hl => ?_)
  refine lv_iconst (v := (0 : Int32)) hx hb dX12_wetOf_10 (by decide) ?_
  refine lv_istore (lv' := [(4, .int (0 : Int32)), (3, .int (0 : Int32)), (0, .ref (κ.1 + v0)), (1, .int v1), (2, .int v2)]) hx hb dX12_wetOf_11 hl (by decide) rfl (fun ls hl => ?_)
  exact F_X12_wetOf_13_ok X hr hlk v0 v1 v2 (0 : Int32) (0 : Int32) hW4 M _ h hK H locs ls O (lv_sub hl [2, 3, 4, 1, 0] rfl)
set_option maxRecDepth 100000 in
set_option maxHeartbeats 4000000 in
theorem F_X12_wetOf_4_ok (X : xX p s m args c cX12_wetOf 5 RX12 κ) (hr : meth.sig.returnType = (some .int)) (hlk : meth.locks = false) {ro : Int32} {mo : xM} (v0 : Nat) (v1 : Int32) (v2 : Int32) (v3 : Int32) (M : xM) (x : Int32 × xM) (h : F_X12_wetOf_4 v0 v1 v2 v3 M = some x) (hK : (fun o => o = (ro, mo)) x) (H : Heap) (locs : List Loc) (ls : Array Slot) (O : xO κ s M H locs) (hl : lv_has ls 5 [(0, .ref (κ.1 + v0)), (1, .int v1), (2, .int v2), (3, .int v3)]) : W p l e (xRm 5 0 0) s m args below meth c H locs 0 0 (xQf below args s 0 0 κ (some (.int ro)) mo) (F0 m 4 ls []) := by
  refine xit_K (Wh := fun x => ∀ (H : Heap) (locs : List Loc) (ls : Array Slot), xO κ s x.2.2 H locs → lv_has ls 5 [(0, .ref (κ.1 + v0)), (1, .int v1), (2, .int x.1), (3, .int x.2.1)] → W p l e (xRm 5 0 0) s m args below meth c H locs 0 0 (xQf below args s 0 0 κ (some (.int ro)) mo) (F0 m 4 ls [])) (Kp := (fun o => o = (ro, mo))) ?_ xFU (v2, v3, M) x h hK H locs ls O hl
  intro y x h hK H locs ls O hl
  exact F_X12_wetOf_4_bok X hr hlk v0 v1 y.1 y.2.1 (fun _ _ _ hw => hw) y.2.2 x h hK H locs ls O hl
set_option maxRecDepth 100000 in
set_option maxHeartbeats 4000000 in
theorem T_X12_wetOf (l : Launch) (κ : xQ) (a0 : Nat) (a1 : Int32) (M : xM) (ro : Int32) (mo : xM) (h : F_X12_wetOf a0 a1 M = some (ro, mo)) : xC l yX12_wetOf cX12_wetOf 5 (some .int) 5 0 0 κ [.ref (κ.1 + a0), .int a1] M (some (.int ro)) mo := by
  refine xC_of rfl (Nat.le_of_ble_eq_true rfl) fun p e s m args below meth c X hr hlk hnm H locs ls O hl => ?_
  have X : xX p s m args c cX12_wetOf 5 RX12 κ := X
  have hl : lv_has ls 5 [(0, .ref (κ.1 + a0)), (1, .int a1)] := hl
  have hx := X.1
  have hb := X.2.1
  obtain ⟨x, hx0⟩ : ∃ x, (ro, mo) = x := ⟨_, rfl⟩
  rw [hx0] at h
  have hK : x = (ro, mo) := hx0.symm
  unfold F_X12_wetOf at h
  refine lv_iconst (v := (0 : Int32)) hx hb dX12_wetOf_0 (by decide) ?_
  refine lv_istore_n (lv' := [(2, .int (0 : Int32)), (0, .ref (κ.1 + a0)), (1, .int a1)]) hx hb dX12_wetOf_1 rfl hl (by decide) rfl (fun ls hl => ?_)
  refine lv_iconst (v := (1 : Int32)) hx hb dX12_wetOf_2 (by decide) ?_
  refine lv_istore_n (lv' := [(3, .int (1 : Int32)), (2, .int (0 : Int32)), (0, .ref (κ.1 + a0)), (1, .int a1)]) hx hb dX12_wetOf_3 rfl hl (by decide) rfl (fun ls hl => ?_)
  exact F_X12_wetOf_4_ok X hr hlk a0 a1 (0 : Int32) (1 : Int32) M _ h hK H locs ls O (lv_sub hl [2, 3, 1, 0] rfl)
def F_X12_washedTo (a0 : Nat) (a1 : Int32) (a2 : Int32) (a3 : Int32) (M : xM) : Option (Int32 × xM) :=
(xgP M a0 12 1).bind fun t1 =>
(xaI M 20 t1 (8 : Int32)).bind fun t2 =>
if t2 = 0 then (
(xgP M a0 12 18).bind fun t28 =>
(xaI M 20 t28 a1).bind fun t29 =>
some (t29, M))
else (
(xgP M a0 12 17).bind fun t3 =>
(xgI M a0 12 21).bind fun t4 =>
(xsI M t3 (0 : Int32) t4).bind fun t5 =>
(xgP t5 a0 12 17).bind fun t6 =>
(xgP t5 a0 12 1).bind fun t7 =>
(xaI t5 20 t7 (106 : Int32)).bind fun t8 =>
(xsI t5 t6 (1 : Int32) t8).bind fun t9 =>
(xgP t9 a0 12 17).bind fun t10 =>
(xgP t9 a0 12 1).bind fun t11 =>
(xaI t9 20 t11 (2 : Int32)).bind fun t12 =>
if t12 = 0 then none else
(xsI t9 t10 (2 : Int32) (a1 / t12)).bind fun t13 =>
(xgP t13 a0 12 17).bind fun t14 =>
(xgP t13 a0 12 18).bind fun t15 =>
(xaI t13 20 t15 a1).bind fun t16 =>
(xsI t13 t14 (3 : Int32) t16).bind fun t17 =>
(xgP t17 a0 12 17).bind fun t18 =>
(xsI t17 t18 (4 : Int32) a2).bind fun t19 =>
(xgP t19 a0 12 17).bind fun t20 =>
(xck t19 a0 12).bind fun _ =>
(F_X12_besides a0 a1 t19).bind fun t22 =>
(F_X12_bitsOf (t22.1 &&& a3) t22.2).bind fun t23 =>
(xsI t23.2 t20 (5 : Int32) t23.1).bind fun t24 =>
(xck t24 a0 12).bind fun _ =>
(F_X12_reckons a0 (1 : Int32) t24).bind fun t26 =>
(F_X12_kept t26.1 (9 : Int32) t26.2).bind fun t27 =>
some (t27.1, t27.2))
set_option maxRecDepth 100000 in
set_option maxHeartbeats 4000000 in
theorem T_X12_washedTo (l : Launch) (κ : xQ) (a0 : Nat) (a1 : Int32) (a2 : Int32) (a3 : Int32) (M : xM) (ro : Int32) (mo : xM) (h : F_X12_washedTo a0 a1 a2 a3 M = some (ro, mo)) : xC l yX12_washedTo cX12_washedTo 4 (some .int) 5 0 0 κ [.ref (κ.1 + a0), .int a1, .int a2, .int a3] M (some (.int ro)) mo := by
  refine xC_of rfl (Nat.le_of_ble_eq_true rfl) fun p e s m args below meth c X hr hlk hnm H locs ls O hl => ?_
  have X : xX p s m args c cX12_washedTo 4 RX12 κ := X
  have hl : lv_has ls 4 [(0, .ref (κ.1 + a0)), (1, .int a1), (2, .int a2), (3, .int a3)] := hl
  have hx := X.1
  have hb := X.2.1
  obtain ⟨x, hx0⟩ : ∃ x, (ro, mo) = x := ⟨_, rfl⟩
  rw [hx0] at h
  have hK : x = (ro, mo) := hx0.symm
  unfold F_X12_washedTo at h
  refine lv_aload_n hx hb dX12_washedTo_0 rfl (lv_at hl 0 rfl) ?_
  obtain ⟨t1, ht1, h⟩ := Option.bind_eq_some_iff.mp h
  refine xr_getP X O ht1 fl_X12_13 dX12_washedTo_1 ?_
  refine lv_bipush (v := (8 : Int32)) hx hb dX12_washedTo_4 (by decide) ?_
  obtain ⟨t2, ht2, h⟩ := Option.bind_eq_some_iff.mp h
  refine xr_aldI X O ht2 dX12_washedTo_6 ?_
  refine lv_if_ne (tgt := 17) hx hb dX12_washedTo_7 (by decide) (fun hc7 => ?_) (fun hc7 => ?_)
  · rw [if_neg hc7] at h
    refine lv_aload_n hx hb dX12_washedTo_17 rfl (lv_at hl 0 rfl) ?_
    obtain ⟨t3, ht3, h⟩ := Option.bind_eq_some_iff.mp h
    refine xr_getP X O ht3 fl_X12_33 dX12_washedTo_18 ?_
    refine lv_iconst (v := (0 : Int32)) hx hb dX12_washedTo_21 (by decide) ?_
    refine lv_aload_n hx hb dX12_washedTo_22 rfl (lv_at hl 0 rfl) ?_
    obtain ⟨t4, ht4, h⟩ := Option.bind_eq_some_iff.mp h
    refine xr_getI X O ht4 fl_X12_250 (Or.inl rfl) dX12_washedTo_23 ?_
    obtain ⟨t5, ht5, h⟩ := Option.bind_eq_some_iff.mp h
    refine xr_stI X O ht5 dX12_washedTo_26 (fun H locs O => ?_)
    refine lv_aload_n hx hb dX12_washedTo_27 rfl (lv_at hl 0 rfl) ?_
    obtain ⟨t6, ht6, h⟩ := Option.bind_eq_some_iff.mp h
    refine xr_getP X O ht6 fl_X12_33 dX12_washedTo_28 ?_
    refine lv_iconst (v := (1 : Int32)) hx hb dX12_washedTo_31 (by decide) ?_
    refine lv_aload_n hx hb dX12_washedTo_32 rfl (lv_at hl 0 rfl) ?_
    obtain ⟨t7, ht7, h⟩ := Option.bind_eq_some_iff.mp h
    refine xr_getP X O ht7 fl_X12_13 dX12_washedTo_33 ?_
    refine lv_bipush (v := (106 : Int32)) hx hb dX12_washedTo_36 (by decide) ?_
    obtain ⟨t8, ht8, h⟩ := Option.bind_eq_some_iff.mp h
    refine xr_aldI X O ht8 dX12_washedTo_38 ?_
    obtain ⟨t9, ht9, h⟩ := Option.bind_eq_some_iff.mp h
    refine xr_stI X O ht9 dX12_washedTo_39 (fun H locs O => ?_)
    refine lv_aload_n hx hb dX12_washedTo_40 rfl (lv_at hl 0 rfl) ?_
    obtain ⟨t10, ht10, h⟩ := Option.bind_eq_some_iff.mp h
    refine xr_getP X O ht10 fl_X12_33 dX12_washedTo_41 ?_
    refine lv_iconst (v := (2 : Int32)) hx hb dX12_washedTo_44 (by decide) ?_
    refine lv_iload_n hx hb dX12_washedTo_45 rfl (lv_at hl 1 rfl) ?_
    refine lv_aload_n hx hb dX12_washedTo_46 rfl (lv_at hl 0 rfl) ?_
    obtain ⟨t11, ht11, h⟩ := Option.bind_eq_some_iff.mp h
    refine xr_getP X O ht11 fl_X12_13 dX12_washedTo_47 ?_
    refine lv_iconst (v := (2 : Int32)) hx hb dX12_washedTo_50 (by decide) ?_
    obtain ⟨t12, ht12, h⟩ := Option.bind_eq_some_iff.mp h
    refine xr_aldI X O ht12 dX12_washedTo_51 ?_
    by_cases hz52 : t12 = 0
    · rw [if_pos hz52] at h; cases h
    rw [if_neg hz52] at h
    refine lv_idiv hx hb dX12_washedTo_52 hz52 ?_
    obtain ⟨t13, ht13, h⟩ := Option.bind_eq_some_iff.mp h
    refine xr_stI X O ht13 dX12_washedTo_53 (fun H locs O => ?_)
    refine lv_aload_n hx hb dX12_washedTo_54 rfl (lv_at hl 0 rfl) ?_
    obtain ⟨t14, ht14, h⟩ := Option.bind_eq_some_iff.mp h
    refine xr_getP X O ht14 fl_X12_33 dX12_washedTo_55 ?_
    refine lv_iconst (v := (3 : Int32)) hx hb dX12_washedTo_58 (by decide) ?_
    refine lv_aload_n hx hb dX12_washedTo_59 rfl (lv_at hl 0 rfl) ?_
    obtain ⟨t15, ht15, h⟩ := Option.bind_eq_some_iff.mp h
    refine xr_getP X O ht15 fl_X12_36 dX12_washedTo_60 ?_
    refine lv_iload_n hx hb dX12_washedTo_63 rfl (lv_at hl 1 rfl) ?_
    obtain ⟨t16, ht16, h⟩ := Option.bind_eq_some_iff.mp h
    refine xr_aldI X O ht16 dX12_washedTo_64 ?_
    obtain ⟨t17, ht17, h⟩ := Option.bind_eq_some_iff.mp h
    refine xr_stI X O ht17 dX12_washedTo_65 (fun H locs O => ?_)
    refine lv_aload_n hx hb dX12_washedTo_66 rfl (lv_at hl 0 rfl) ?_
    obtain ⟨t18, ht18, h⟩ := Option.bind_eq_some_iff.mp h
    refine xr_getP X O ht18 fl_X12_33 dX12_washedTo_67 ?_
    refine lv_iconst (v := (4 : Int32)) hx hb dX12_washedTo_70 (by decide) ?_
    refine lv_iload_n hx hb dX12_washedTo_71 rfl (lv_at hl 2 rfl) ?_
    obtain ⟨t19, ht19, h⟩ := Option.bind_eq_some_iff.mp h
    refine xr_stI X O ht19 dX12_washedTo_72 (fun H locs O => ?_)
    refine lv_aload_n hx hb dX12_washedTo_73 rfl (lv_at hl 0 rfl) ?_
    obtain ⟨t20, ht20, h⟩ := Option.bind_eq_some_iff.mp h
    refine xr_getP X O ht20 fl_X12_33 dX12_washedTo_74 ?_
    refine lv_iconst (v := (5 : Int32)) hx hb dX12_washedTo_77 (by decide) ?_
    refine lv_aload_n hx hb dX12_washedTo_78 rfl (lv_at hl 0 rfl) ?_
    refine lv_iload_n hx hb dX12_washedTo_79 rfl (lv_at hl 1 rfl) ?_
    obtain ⟨_, hut21, h⟩ := Option.bind_eq_some_iff.mp h
    obtain ⟨t22, ht22, h⟩ := Option.bind_eq_some_iff.mp h
    refine xr_callV (rest := [.int (5 : Int32), .ref (κ.1 + t20)]) X O (T_X12_besides l κ a0 a1 t19 _ _ ht22) lk_X12_257 hut21 (Nat.le_of_ble_eq_true rfl) rfl hl.1 rfl (Nat.le_of_ble_eq_true rfl) dX12_washedTo_80 ⟨Nat.le_of_ble_eq_true rfl, Nat.le_of_ble_eq_true rfl⟩ (fun H locs O => ?_)
    refine W.eq (g2 := F0 m 83 ls [.int t22.1, .int (5 : Int32), .ref (κ.1 + t20)]) rfl ?_
    refine lv_iload_n hx hb dX12_washedTo_83 rfl (lv_at hl 3 rfl) ?_
    refine lv_iand hx hb dX12_washedTo_84 ?_
    obtain ⟨t23, ht23, h⟩ := Option.bind_eq_some_iff.mp h
    refine xr_callS (rest := [.int (5 : Int32), .ref (κ.1 + t20)]) X O (T_X12_bitsOf l κ (t22.1 &&& a3) t22.2 _ _ ht23) lk_X12_260 (Nat.le_of_ble_eq_true rfl) rfl hl.1 rfl (Nat.le_of_ble_eq_true rfl) dX12_washedTo_85 ⟨Nat.le_of_ble_eq_true rfl, Nat.le_of_ble_eq_true rfl⟩ (fun H locs O => ?_)
    refine W.eq (g2 := F0 m 88 ls [.int t23.1, .int (5 : Int32), .ref (κ.1 + t20)]) rfl ?_
    obtain ⟨t24, ht24, h⟩ := Option.bind_eq_some_iff.mp h
    refine xr_stI X O ht24 dX12_washedTo_88 (fun H locs O => ?_)
    refine lv_aload_n hx hb dX12_washedTo_89 rfl (lv_at hl 0 rfl) ?_
    refine lv_iconst (v := (1 : Int32)) hx hb dX12_washedTo_90 (by decide) ?_
    obtain ⟨_, hut25, h⟩ := Option.bind_eq_some_iff.mp h
    obtain ⟨t26, ht26, h⟩ := Option.bind_eq_some_iff.mp h
    refine xr_callV (rest := []) X O (T_X12_reckons l κ a0 (1 : Int32) t24 _ _ ht26) lk_X12_241 hut25 (Nat.le_of_ble_eq_true rfl) rfl hl.1 rfl (Nat.le_of_ble_eq_true rfl) dX12_washedTo_91 ⟨Nat.le_of_ble_eq_true rfl, Nat.le_of_ble_eq_true rfl⟩ (fun H locs O => ?_)
    refine W.eq (g2 := F0 m 94 ls [.int t26.1]) rfl ?_
    refine lv_bipush (v := (9 : Int32)) hx hb dX12_washedTo_94 (by decide) ?_
    obtain ⟨t27, ht27, h⟩ := Option.bind_eq_some_iff.mp h
    refine xr_callS (rest := []) X O (T_X12_kept l κ t26.1 (9 : Int32) t26.2 _ _ ht27) lk_X12_244 (Nat.le_of_ble_eq_true rfl) rfl hl.1 rfl (Nat.le_of_ble_eq_true rfl) dX12_washedTo_96 ⟨Nat.le_of_ble_eq_true rfl, Nat.le_of_ble_eq_true rfl⟩ (fun H locs O => ?_)
    refine W.eq (g2 := F0 m 99 ls [.int t27.1]) rfl ?_
    rw [← Option.some.inj h] at hK
    have hK : (t27.1, t27.2) = (ro, mo) := hK
    obtain ⟨hK1, hK2⟩ := Prod.mk.inj hK
    rw [hK2] at O
    refine xr_top (w := .int ro) (by rw [hK1]) ?_
    exact xr_iret X hr hlk O dX12_washedTo_99
  rw [if_pos hc7] at h
  refine lv_aload_n hx hb dX12_washedTo_10 rfl (lv_at hl 0 rfl) ?_
  obtain ⟨t28, ht28, h⟩ := Option.bind_eq_some_iff.mp h
  refine xr_getP X O ht28 fl_X12_36 dX12_washedTo_11 ?_
  refine lv_iload_n hx hb dX12_washedTo_14 rfl (lv_at hl 1 rfl) ?_
  obtain ⟨t29, ht29, h⟩ := Option.bind_eq_some_iff.mp h
  refine xr_aldI X O ht29 dX12_washedTo_15 ?_
  rw [← Option.some.inj h] at hK
  have hK : (t29, M) = (ro, mo) := hK
  obtain ⟨hK1, hK2⟩ := Prod.mk.inj hK
  rw [hK2] at O
  refine xr_top (w := .int ro) (by rw [hK1]) ?_
  exact xr_iret X hr hlk O dX12_washedTo_16
def F_X12_goesOn_87 (v0 : Nat) (v2 : Int32) (v3 : Int32) (v4 : Int32) (M : xM) : Option ((Int32 × xM) ⊕ (Int32 × xM)) :=
some (.inl ((v4 + 1), M))
def F_X12_goesOn_140 (v0 : Nat) (v2 : Int32) (v3 : Int32) (v4 : Int32) (s0 : Int32) (s1 : Int32) (s2 : Nat) (M : xM) : Option ((Int32 × xM) ⊕ (Int32 × xM)) :=
(xsI M s2 s1 s0).bind fun t26 =>
some (.inl ((v4 + 1), t26))
def F_X12_goesOn_180 (v3 : Int32) (M : xM) : Option (Int32 × xM) :=
some (v3, M)
def F_X12_goesOn_150b (v0 : Nat) (v3 : Int32) : (Int32 × xM) → Option ((Int32 × xM) ⊕ (Int32 × xM)) := fun ⟨v4, M⟩ =>
(xck M v0 12).bind fun _ =>
(F_X12_isCell v0 v4.toInt64 M).bind fun t28 =>
if t28.1 = 0 then (
(F_X12_goesOn_180 v3 t28.2).map Sum.inr)
else (
(xgP t28.2 v0 12 18).bind fun t29 =>
(xgP t28.2 v0 12 19).bind fun t30 =>
(xaI t28.2 20 t30 v4).bind fun t31 =>
(xsI t28.2 t29 v4 t31).bind fun t32 =>
some (.inl ((v4 + 1), t32)))
def F_X12_goesOn_150 (v0 : Nat) (v3 : Int32) (v4 : Int32) (M : xM) : Option (Int32 × xM) := xit (F_X12_goesOn_150b v0 v3) xFU (v4, M)
def F_X12_goesOn_147 (v0 : Nat) (v3 : Int32) (M : xM) : Option (Int32 × xM) :=
F_X12_goesOn_150 v0 v3 (0 : Int32) M
def F_X12_goesOn_96b (v0 : Nat) (v2 : Int32) (v3 : Int32) : (Int32 × xM) → Option ((Int32 × xM) ⊕ (Int32 × xM)) := fun ⟨v4, M⟩ =>
(xck M v0 12).bind fun _ =>
(F_X12_isCell v0 v4.toInt64 M).bind fun t19 =>
if t19.1 = 0 then (
(F_X12_goesOn_147 v0 v3 t19.2).map Sum.inr)
else (
(xgP t19.2 v0 12 19).bind fun t20 =>
(F_X12_isIn v3.toInt64 v4 t19.2).bind fun t21 =>
if t21.1 = 0 then (
(xgP t21.2 v0 12 18).bind fun t22 =>
(xaI t21.2 20 t22 v4).bind fun t23 =>
F_X12_goesOn_140 v0 v2 v3 v4 t23 v4 t20 t21.2)
else (
(xck t21.2 v0 12).bind fun _ =>
(F_X12_washedTo v0 v4 v2 v3 t21.2).bind fun t25 =>
F_X12_goesOn_140 v0 v2 v3 v4 t25.1 v4 t20 t25.2))
def F_X12_goesOn_96 (v0 : Nat) (v2 : Int32) (v3 : Int32) (v4 : Int32) (M : xM) : Option (Int32 × xM) := xit (F_X12_goesOn_96b v0 v2 v3) xFU (v4, M)
def F_X12_goesOn_93 (v0 : Nat) (v2 : Int32) (v3 : Int32) (M : xM) : Option (Int32 × xM) :=
F_X12_goesOn_96 v0 v2 v3 (0 : Int32) M
def F_X12_goesOn_42b (v0 : Nat) (v2 : Int32) (v3 : Int32) : (Int32 × xM) → Option ((Int32 × xM) ⊕ (Int32 × xM)) := fun ⟨v4, M⟩ =>
(xgP M v0 12 1).bind fun t11 =>
(xaI M 20 t11 (92 : Int32)).bind fun t12 =>
if t12 ≤ v4 then (
(F_X12_goesOn_93 v0 v2 v3 M).map Sum.inr)
else (
(xgP M v0 12 1).bind fun t13 =>
(xaI M 20 t13 ((93 : Int32) + ((2 : Int32) * v4))).bind fun t14 =>
(F_X12_isIn v3.toInt64 t14 M).bind fun t15 =>
if t15.1 = 0 then (
F_X12_goesOn_87 v0 v2 v3 v4 t15.2)
else (
(xgI t15.2 v0 12 20).bind fun t16 =>
(xpI t15.2 v0 12 20 (t16 ||| ((1 : Int32) <<< (v4 &&& 31)))).bind fun t17 =>
F_X12_goesOn_87 v0 v2 v3 v4 t17))
def F_X12_goesOn_42 (v0 : Nat) (v2 : Int32) (v3 : Int32) (v4 : Int32) (M : xM) : Option (Int32 × xM) := xit (F_X12_goesOn_42b v0 v2 v3) xFU (v4, M)
def F_X12_goesOn (a0 : Nat) (a1 : Int32) (M : xM) : Option (Int32 × xM) :=
(xgI M a0 12 21).bind fun t1 =>
(xpI M a0 12 21 (t1 + (1 : Int32))).bind fun t2 =>
(xgI t2 a0 12 21).bind fun t3 =>
(xgP t2 a0 12 1).bind fun t4 =>
(xaI t2 20 t4 (106 : Int32)).bind fun t5 =>
(xck t2 a0 12).bind fun _ =>
(F_X12_levelOf a0 t3 t5 t2).bind fun t7 =>
(F_X12_kept (t7.1 + a1) (10 : Int32) t7.2).bind fun t8 =>
(xck t8.2 a0 12).bind fun _ =>
(F_X12_wetOf a0 t8.1 t8.2).bind fun t10 =>
F_X12_goesOn_42 a0 t8.1 t10.1 (0 : Int32) t10.2
set_option maxRecDepth 100000 in
set_option maxHeartbeats 4000000 in
theorem F_X12_goesOn_87_ok (X : xX p s m args c cX12_goesOn 5 RX12 κ) (hr : meth.sig.returnType = (some .int)) (hlk : meth.locks = false) {ro : Int32} {mo : xM} (v0 : Nat) (v2 : Int32) (v3 : Int32) (v4 : Int32) {W42 : Int32 × xM → Prop} (hW42 : ∀ (v4 : Int32) (M : xM), W42 (v4, M) → ∀ (H : Heap) (locs : List Loc) (ls : Array Slot), xO κ s M H locs → lv_has ls 5 [(0, .ref (κ.1 + v0)), (2, .int v2), (3, .int v3), (4, .int v4)] → W p l e (xRm 6 0 0) s m args below meth c H locs 0 0 (xQf below args s 0 0 κ (some (.int ro)) mo) (F0 m 42 ls [])) (M : xM) (x : (Int32 × xM) ⊕ (Int32 × xM)) (h : F_X12_goesOn_87 v0 v2 v3 v4 M = some x) (hK : (xKl W42 (fun o => o = (ro, mo))) x) (H : Heap) (locs : List Loc) (ls : Array Slot) (O : xO κ s M H locs) (hl : lv_has ls 5 [(0, .ref (κ.1 + v0)), (2, .int v2), (3, .int v3), (4, .int v4)]) : W p l e (xRm 6 0 0) s m args below meth c H locs 0 0 (xQf below args s 0 0 κ (some (.int ro)) mo) (F0 m 87 ls []) := by
  unfold F_X12_goesOn_87 at h
  have hx := X.1
  have hb := X.2.1
  refine lv_iinc (v := (v4 + 1)) (lv' := [(4, .int (v4 + 1)), (0, .ref (κ.1 + v0)), (2, .int v2), (3, .int v3)]) hx hb dX12_goesOn_87 hl (k := 3) rfl rfl (by decide) rfl (fun ls hl => ?_)
  refine lv_goto (tgt := 42) hx hb dX12_goesOn_90 (by decide) ?_
  rw [← Option.some.inj h] at hK
  exact hW42 (v4 + 1) M hK H locs ls O (lv_sub hl [1, 2, 3, 0] rfl)
set_option maxRecDepth 100000 in
set_option maxHeartbeats 4000000 in
theorem F_X12_goesOn_140_ok (X : xX p s m args c cX12_goesOn 5 RX12 κ) (hr : meth.sig.returnType = (some .int)) (hlk : meth.locks = false) {ro : Int32} {mo : xM} (v0 : Nat) (v2 : Int32) (v3 : Int32) (v4 : Int32) (s0 : Int32) (s1 : Int32) (s2 : Nat) {W96 : Int32 × xM → Prop} (hW96 : ∀ (v4 : Int32) (M : xM), W96 (v4, M) → ∀ (H : Heap) (locs : List Loc) (ls : Array Slot), xO κ s M H locs → lv_has ls 5 [(0, .ref (κ.1 + v0)), (2, .int v2), (3, .int v3), (4, .int v4)] → W p l e (xRm 6 0 0) s m args below meth c H locs 0 0 (xQf below args s 0 0 κ (some (.int ro)) mo) (F0 m 96 ls [])) (M : xM) (x : (Int32 × xM) ⊕ (Int32 × xM)) (h : F_X12_goesOn_140 v0 v2 v3 v4 s0 s1 s2 M = some x) (hK : (xKl W96 (fun o => o = (ro, mo))) x) (H : Heap) (locs : List Loc) (ls : Array Slot) (O : xO κ s M H locs) (hl : lv_has ls 5 [(0, .ref (κ.1 + v0)), (2, .int v2), (3, .int v3), (4, .int v4)]) : W p l e (xRm 6 0 0) s m args below meth c H locs 0 0 (xQf below args s 0 0 κ (some (.int ro)) mo) (F0 m 140 ls [.int s0, .int s1, .ref (κ.1 + s2)]) := by
  unfold F_X12_goesOn_140 at h
  have hx := X.1
  have hb := X.2.1
  obtain ⟨t26, ht26, h⟩ := Option.bind_eq_some_iff.mp h
  refine xr_stI X O ht26 dX12_goesOn_140 (fun H locs O => ?_)
  refine lv_iinc (v := (v4 + 1)) (lv' := [(4, .int (v4 + 1)), (0, .ref (κ.1 + v0)), (2, .int v2), (3, .int v3)]) hx hb dX12_goesOn_141 hl (k := 3) rfl rfl (by decide) rfl (fun ls hl => ?_)
  refine lv_goto (tgt := 96) hx hb dX12_goesOn_144 (by decide) ?_
  rw [← Option.some.inj h] at hK
  exact hW96 (v4 + 1) t26 hK H locs ls O (lv_sub hl [1, 2, 3, 0] rfl)
set_option maxRecDepth 100000 in
set_option maxHeartbeats 4000000 in
theorem F_X12_goesOn_180_ok (X : xX p s m args c cX12_goesOn 5 RX12 κ) (hr : meth.sig.returnType = (some .int)) (hlk : meth.locks = false) {ro : Int32} {mo : xM} (v3 : Int32) (M : xM) (x : Int32 × xM) (h : F_X12_goesOn_180 v3 M = some x) (hK : (fun o => o = (ro, mo)) x) (H : Heap) (locs : List Loc) (ls : Array Slot) (O : xO κ s M H locs) (hl : lv_has ls 5 [(3, .int v3)]) : W p l e (xRm 6 0 0) s m args below meth c H locs 0 0 (xQf below args s 0 0 κ (some (.int ro)) mo) (F0 m 180 ls []) := by
  unfold F_X12_goesOn_180 at h
  have hx := X.1
  have hb := X.2.1
  refine lv_iload_n hx hb dX12_goesOn_180 rfl (lv_at hl 0 rfl) ?_
  rw [← Option.some.inj h] at hK
  have hK : (v3, M) = (ro, mo) := hK
  obtain ⟨hK1, hK2⟩ := Prod.mk.inj hK
  rw [hK2] at O
  refine xr_top (w := .int ro) (by rw [hK1]) ?_
  exact xr_iret X hr hlk O dX12_goesOn_181
set_option maxRecDepth 100000 in
set_option maxHeartbeats 4000000 in
theorem F_X12_goesOn_150_bok (X : xX p s m args c cX12_goesOn 5 RX12 κ) (hr : meth.sig.returnType = (some .int)) (hlk : meth.locks = false) {ro : Int32} {mo : xM} (v0 : Nat) (v3 : Int32) (v4 : Int32) {W150 : Int32 × xM → Prop} (hW150 : ∀ (v4 : Int32) (M : xM), W150 (v4, M) → ∀ (H : Heap) (locs : List Loc) (ls : Array Slot), xO κ s M H locs → lv_has ls 5 [(0, .ref (κ.1 + v0)), (3, .int v3), (4, .int v4)] → W p l e (xRm 6 0 0) s m args below meth c H locs 0 0 (xQf below args s 0 0 κ (some (.int ro)) mo) (F0 m 150 ls [])) (M : xM) (x : (Int32 × xM) ⊕ (Int32 × xM)) (h : F_X12_goesOn_150b v0 v3 (v4, M) = some x) (hK : (xKl W150 (fun o => o = (ro, mo))) x) (H : Heap) (locs : List Loc) (ls : Array Slot) (O : xO κ s M H locs) (hl : lv_has ls 5 [(0, .ref (κ.1 + v0)), (3, .int v3), (4, .int v4)]) : W p l e (xRm 6 0 0) s m args below meth c H locs 0 0 (xQf below args s 0 0 κ (some (.int ro)) mo) (F0 m 150 ls []) := by
  unfold F_X12_goesOn_150b at h
  dsimp only at h
  have hx := X.1
  have hb := X.2.1
  refine lv_aload_n hx hb dX12_goesOn_150 rfl (lv_at hl 0 rfl) ?_
  refine lv_iload hx hb dX12_goesOn_151 (lv_at hl 2 rfl) ?_
  refine lv_i2l (v := v4.toInt64) hx hb dX12_goesOn_153 rfl ?_
  obtain ⟨_, hut27, h⟩ := Option.bind_eq_some_iff.mp h
  obtain ⟨t28, ht28, h⟩ := Option.bind_eq_some_iff.mp h
  refine xr_callV (rest := []) X O (T_X12_isCell l κ v0 v4.toInt64 M _ _ ht28) lk_X12_230 hut27 (Nat.le_of_ble_eq_true rfl) rfl hl.1 rfl (Nat.le_of_ble_eq_true rfl) dX12_goesOn_154 ⟨Nat.le_of_ble_eq_true rfl, Nat.le_of_ble_eq_true rfl⟩ (fun H locs O => ?_)
  refine W.eq (g2 := F0 m 157 ls [.int t28.1]) rfl ?_
  refine lv_if_eq (tgt := 180) hx hb dX12_goesOn_157 (by decide) (fun hc157 => ?_) (fun hc157 => ?_)
  · rw [if_pos hc157] at h
    obtain ⟨_, hw0, ew0⟩ := Option.map_eq_some_iff.mp h
    rw [← ew0] at hK
    have h := hw0
    exact F_X12_goesOn_180_ok X hr hlk v3 t28.2 _ h hK H locs ls O (lv_sub hl [1] rfl)
  rw [if_neg hc157] at h
  refine lv_aload_n hx hb dX12_goesOn_160 rfl (lv_at hl 0 rfl) ?_
  obtain ⟨t29, ht29, h⟩ := Option.bind_eq_some_iff.mp h
  refine xr_getP X O ht29 fl_X12_36 dX12_goesOn_161 ?_
  refine lv_iload hx hb dX12_goesOn_164 (lv_at hl 2 rfl) ?_
  refine lv_aload_n hx hb dX12_goesOn_166 rfl (lv_at hl 0 rfl) ?_
  obtain ⟨t30, ht30, h⟩ := Option.bind_eq_some_iff.mp h
  refine xr_getP X O ht30 fl_X12_39 dX12_goesOn_167 ?_
  refine lv_iload hx hb dX12_goesOn_170 (lv_at hl 2 rfl) ?_
  obtain ⟨t31, ht31, h⟩ := Option.bind_eq_some_iff.mp h
  refine xr_aldI X O ht31 dX12_goesOn_172 ?_
  obtain ⟨t32, ht32, h⟩ := Option.bind_eq_some_iff.mp h
  refine xr_stI X O ht32 dX12_goesOn_173 (fun H locs O => ?_)
  refine lv_iinc (v := (v4 + 1)) (lv' := [(4, .int (v4 + 1)), (0, .ref (κ.1 + v0)), (3, .int v3)]) hx hb dX12_goesOn_174 hl (k := 2) rfl rfl (by decide) rfl (fun ls hl => ?_)
  refine lv_goto (tgt := 150) hx hb dX12_goesOn_177 (by decide) ?_
  rw [← Option.some.inj h] at hK
  exact hW150 (v4 + 1) t32 hK H locs ls O (lv_sub hl [1, 2, 0] rfl)
set_option maxRecDepth 100000 in
set_option maxHeartbeats 4000000 in
theorem F_X12_goesOn_150_ok (X : xX p s m args c cX12_goesOn 5 RX12 κ) (hr : meth.sig.returnType = (some .int)) (hlk : meth.locks = false) {ro : Int32} {mo : xM} (v0 : Nat) (v3 : Int32) (v4 : Int32) (M : xM) (x : Int32 × xM) (h : F_X12_goesOn_150 v0 v3 v4 M = some x) (hK : (fun o => o = (ro, mo)) x) (H : Heap) (locs : List Loc) (ls : Array Slot) (O : xO κ s M H locs) (hl : lv_has ls 5 [(0, .ref (κ.1 + v0)), (3, .int v3), (4, .int v4)]) : W p l e (xRm 6 0 0) s m args below meth c H locs 0 0 (xQf below args s 0 0 κ (some (.int ro)) mo) (F0 m 150 ls []) := by
  refine xit_K (Wh := fun x => ∀ (H : Heap) (locs : List Loc) (ls : Array Slot), xO κ s x.2 H locs → lv_has ls 5 [(0, .ref (κ.1 + v0)), (3, .int v3), (4, .int x.1)] → W p l e (xRm 6 0 0) s m args below meth c H locs 0 0 (xQf below args s 0 0 κ (some (.int ro)) mo) (F0 m 150 ls [])) (Kp := (fun o => o = (ro, mo))) ?_ xFU (v4, M) x h hK H locs ls O hl
  intro y x h hK H locs ls O hl
  exact F_X12_goesOn_150_bok X hr hlk v0 v3 y.1 (fun _ _ hw => hw) y.2 x h hK H locs ls O hl
set_option maxRecDepth 100000 in
set_option maxHeartbeats 4000000 in
theorem F_X12_goesOn_147_ok (X : xX p s m args c cX12_goesOn 5 RX12 κ) (hr : meth.sig.returnType = (some .int)) (hlk : meth.locks = false) {ro : Int32} {mo : xM} (v0 : Nat) (v3 : Int32) (M : xM) (x : Int32 × xM) (h : F_X12_goesOn_147 v0 v3 M = some x) (hK : (fun o => o = (ro, mo)) x) (H : Heap) (locs : List Loc) (ls : Array Slot) (O : xO κ s M H locs) (hl : lv_has ls 5 [(0, .ref (κ.1 + v0)), (3, .int v3)]) : W p l e (xRm 6 0 0) s m args below meth c H locs 0 0 (xQf below args s 0 0 κ (some (.int ro)) mo) (F0 m 147 ls []) := by
  unfold F_X12_goesOn_147 at h
  have hx := X.1
  have hb := X.2.1
  refine lv_iconst (v := (0 : Int32)) hx hb dX12_goesOn_147 (by decide) ?_
  refine lv_istore (lv' := [(4, .int (0 : Int32)), (0, .ref (κ.1 + v0)), (3, .int v3)]) hx hb dX12_goesOn_148 hl (by decide) rfl (fun ls hl => ?_)
  exact F_X12_goesOn_150_ok X hr hlk v0 v3 (0 : Int32) M _ h hK H locs ls O (lv_sub hl [1, 2, 0] rfl)
set_option maxRecDepth 100000 in
set_option maxHeartbeats 4000000 in
theorem F_X12_goesOn_96_bok (X : xX p s m args c cX12_goesOn 5 RX12 κ) (hr : meth.sig.returnType = (some .int)) (hlk : meth.locks = false) {ro : Int32} {mo : xM} (v0 : Nat) (v2 : Int32) (v3 : Int32) (v4 : Int32) {W96 : Int32 × xM → Prop} (hW96 : ∀ (v4 : Int32) (M : xM), W96 (v4, M) → ∀ (H : Heap) (locs : List Loc) (ls : Array Slot), xO κ s M H locs → lv_has ls 5 [(0, .ref (κ.1 + v0)), (2, .int v2), (3, .int v3), (4, .int v4)] → W p l e (xRm 6 0 0) s m args below meth c H locs 0 0 (xQf below args s 0 0 κ (some (.int ro)) mo) (F0 m 96 ls [])) (M : xM) (x : (Int32 × xM) ⊕ (Int32 × xM)) (h : F_X12_goesOn_96b v0 v2 v3 (v4, M) = some x) (hK : (xKl W96 (fun o => o = (ro, mo))) x) (H : Heap) (locs : List Loc) (ls : Array Slot) (O : xO κ s M H locs) (hl : lv_has ls 5 [(0, .ref (κ.1 + v0)), (2, .int v2), (3, .int v3), (4, .int v4)]) : W p l e (xRm 6 0 0) s m args below meth c H locs 0 0 (xQf below args s 0 0 κ (some (.int ro)) mo) (F0 m 96 ls []) := by
  unfold F_X12_goesOn_96b at h
  dsimp only at h
  have hx := X.1
  have hb := X.2.1
  refine lv_aload_n hx hb dX12_goesOn_96 rfl (lv_at hl 0 rfl) ?_
  refine lv_iload hx hb dX12_goesOn_97 (lv_at hl 3 rfl) ?_
  refine lv_i2l (v := v4.toInt64) hx hb dX12_goesOn_99 rfl ?_
  obtain ⟨_, hut18, h⟩ := Option.bind_eq_some_iff.mp h
  obtain ⟨t19, ht19, h⟩ := Option.bind_eq_some_iff.mp h
  refine xr_callV (rest := []) X O (T_X12_isCell l κ v0 v4.toInt64 M _ _ ht19) lk_X12_230 hut18 (Nat.le_of_ble_eq_true rfl) rfl hl.1 rfl (Nat.le_of_ble_eq_true rfl) dX12_goesOn_100 ⟨Nat.le_of_ble_eq_true rfl, Nat.le_of_ble_eq_true rfl⟩ (fun H locs O => ?_)
  refine W.eq (g2 := F0 m 103 ls [.int t19.1]) rfl ?_
  refine lv_if_eq (tgt := 147) hx hb dX12_goesOn_103 (by decide) (fun hc103 => ?_) (fun hc103 => ?_)
  · rw [if_pos hc103] at h
    obtain ⟨_, hw0, ew0⟩ := Option.map_eq_some_iff.mp h
    rw [← ew0] at hK
    have h := hw0
    exact F_X12_goesOn_147_ok X hr hlk v0 v3 t19.2 _ h hK H locs ls O (lv_sub hl [0, 2] rfl)
  rw [if_neg hc103] at h
  refine lv_aload_n hx hb dX12_goesOn_106 rfl (lv_at hl 0 rfl) ?_
  obtain ⟨t20, ht20, h⟩ := Option.bind_eq_some_iff.mp h
  refine xr_getP X O ht20 fl_X12_39 dX12_goesOn_107 ?_
  refine lv_iload hx hb dX12_goesOn_110 (lv_at hl 3 rfl) ?_
  refine lv_iload_n hx hb dX12_goesOn_112 rfl (lv_at hl 2 rfl) ?_
  refine lv_i2l (v := v3.toInt64) hx hb dX12_goesOn_113 rfl ?_
  refine lv_iload hx hb dX12_goesOn_114 (lv_at hl 3 rfl) ?_
  obtain ⟨t21, ht21, h⟩ := Option.bind_eq_some_iff.mp h
  refine xr_callS (rest := [.int v4, .ref (κ.1 + t20)]) X O (T_X12_isIn l κ v3.toInt64 v4 t19.2 _ _ ht21) lk_X12_253 (Nat.le_of_ble_eq_true rfl) rfl hl.1 rfl (Nat.le_of_ble_eq_true rfl) dX12_goesOn_116 ⟨Nat.le_of_ble_eq_true rfl, Nat.le_of_ble_eq_true rfl⟩ (fun H locs O => ?_)
  refine W.eq (g2 := F0 m 119 ls [.int t21.1, .int v4, .ref (κ.1 + t20)]) rfl ?_
  refine lv_if_eq (tgt := 133) hx hb dX12_goesOn_119 (by decide) (fun hc119 => ?_) (fun hc119 => ?_)
  · rw [if_pos hc119] at h
    refine lv_aload_n hx hb dX12_goesOn_133 rfl (lv_at hl 0 rfl) ?_
    obtain ⟨t22, ht22, h⟩ := Option.bind_eq_some_iff.mp h
    refine xr_getP X O ht22 fl_X12_36 dX12_goesOn_134 ?_
    refine lv_iload hx hb dX12_goesOn_137 (lv_at hl 3 rfl) ?_
    obtain ⟨t23, ht23, h⟩ := Option.bind_eq_some_iff.mp h
    refine xr_aldI X O ht23 dX12_goesOn_139 ?_
    exact F_X12_goesOn_140_ok X hr hlk v0 v2 v3 v4 t23 v4 t20 hW96 t21.2 _ h hK H locs ls O (lv_sub hl [0, 1, 2, 3] rfl)
  rw [if_neg hc119] at h
  refine lv_aload_n hx hb dX12_goesOn_122 rfl (lv_at hl 0 rfl) ?_
  refine lv_iload hx hb dX12_goesOn_123 (lv_at hl 3 rfl) ?_
  refine lv_iload_n hx hb dX12_goesOn_125 rfl (lv_at hl 1 rfl) ?_
  refine lv_iload_n hx hb dX12_goesOn_126 rfl (lv_at hl 2 rfl) ?_
  obtain ⟨_, hut24, h⟩ := Option.bind_eq_some_iff.mp h
  obtain ⟨t25, ht25, h⟩ := Option.bind_eq_some_iff.mp h
  refine xr_callV (rest := [.int v4, .ref (κ.1 + t20)]) X O (T_X12_washedTo l κ v0 v4 v2 v3 t21.2 _ _ ht25) lk_X12_269 hut24 (Nat.le_of_ble_eq_true rfl) rfl hl.1 rfl (Nat.le_of_ble_eq_true rfl) dX12_goesOn_127 ⟨Nat.le_of_ble_eq_true rfl, Nat.le_of_ble_eq_true rfl⟩ (fun H locs O => ?_)
  refine W.eq (g2 := F0 m 130 ls [.int t25.1, .int v4, .ref (κ.1 + t20)]) rfl ?_
  refine lv_goto (tgt := 140) hx hb dX12_goesOn_130 (by decide) ?_
  exact F_X12_goesOn_140_ok X hr hlk v0 v2 v3 v4 t25.1 v4 t20 hW96 t25.2 _ h hK H locs ls O (lv_sub hl [0, 1, 2, 3] rfl)
set_option maxRecDepth 100000 in
set_option maxHeartbeats 4000000 in
theorem F_X12_goesOn_96_ok (X : xX p s m args c cX12_goesOn 5 RX12 κ) (hr : meth.sig.returnType = (some .int)) (hlk : meth.locks = false) {ro : Int32} {mo : xM} (v0 : Nat) (v2 : Int32) (v3 : Int32) (v4 : Int32) (M : xM) (x : Int32 × xM) (h : F_X12_goesOn_96 v0 v2 v3 v4 M = some x) (hK : (fun o => o = (ro, mo)) x) (H : Heap) (locs : List Loc) (ls : Array Slot) (O : xO κ s M H locs) (hl : lv_has ls 5 [(0, .ref (κ.1 + v0)), (2, .int v2), (3, .int v3), (4, .int v4)]) : W p l e (xRm 6 0 0) s m args below meth c H locs 0 0 (xQf below args s 0 0 κ (some (.int ro)) mo) (F0 m 96 ls []) := by
  refine xit_K (Wh := fun x => ∀ (H : Heap) (locs : List Loc) (ls : Array Slot), xO κ s x.2 H locs → lv_has ls 5 [(0, .ref (κ.1 + v0)), (2, .int v2), (3, .int v3), (4, .int x.1)] → W p l e (xRm 6 0 0) s m args below meth c H locs 0 0 (xQf below args s 0 0 κ (some (.int ro)) mo) (F0 m 96 ls [])) (Kp := (fun o => o = (ro, mo))) ?_ xFU (v4, M) x h hK H locs ls O hl
  intro y x h hK H locs ls O hl
  exact F_X12_goesOn_96_bok X hr hlk v0 v2 v3 y.1 (fun _ _ hw => hw) y.2 x h hK H locs ls O hl
set_option maxRecDepth 100000 in
set_option maxHeartbeats 4000000 in
theorem F_X12_goesOn_93_ok (X : xX p s m args c cX12_goesOn 5 RX12 κ) (hr : meth.sig.returnType = (some .int)) (hlk : meth.locks = false) {ro : Int32} {mo : xM} (v0 : Nat) (v2 : Int32) (v3 : Int32) (M : xM) (x : Int32 × xM) (h : F_X12_goesOn_93 v0 v2 v3 M = some x) (hK : (fun o => o = (ro, mo)) x) (H : Heap) (locs : List Loc) (ls : Array Slot) (O : xO κ s M H locs) (hl : lv_has ls 5 [(0, .ref (κ.1 + v0)), (2, .int v2), (3, .int v3)]) : W p l e (xRm 6 0 0) s m args below meth c H locs 0 0 (xQf below args s 0 0 κ (some (.int ro)) mo) (F0 m 93 ls []) := by
  unfold F_X12_goesOn_93 at h
  have hx := X.1
  have hb := X.2.1
  refine lv_iconst (v := (0 : Int32)) hx hb dX12_goesOn_93 (by decide) ?_
  refine lv_istore (lv' := [(4, .int (0 : Int32)), (0, .ref (κ.1 + v0)), (2, .int v2), (3, .int v3)]) hx hb dX12_goesOn_94 hl (by decide) rfl (fun ls hl => ?_)
  exact F_X12_goesOn_96_ok X hr hlk v0 v2 v3 (0 : Int32) M _ h hK H locs ls O (lv_sub hl [1, 2, 3, 0] rfl)
set_option maxRecDepth 100000 in
set_option maxHeartbeats 4000000 in
theorem F_X12_goesOn_42_bok (X : xX p s m args c cX12_goesOn 5 RX12 κ) (hr : meth.sig.returnType = (some .int)) (hlk : meth.locks = false) {ro : Int32} {mo : xM} (v0 : Nat) (v2 : Int32) (v3 : Int32) (v4 : Int32) {W42 : Int32 × xM → Prop} (hW42 : ∀ (v4 : Int32) (M : xM), W42 (v4, M) → ∀ (H : Heap) (locs : List Loc) (ls : Array Slot), xO κ s M H locs → lv_has ls 5 [(0, .ref (κ.1 + v0)), (2, .int v2), (3, .int v3), (4, .int v4)] → W p l e (xRm 6 0 0) s m args below meth c H locs 0 0 (xQf below args s 0 0 κ (some (.int ro)) mo) (F0 m 42 ls [])) (M : xM) (x : (Int32 × xM) ⊕ (Int32 × xM)) (h : F_X12_goesOn_42b v0 v2 v3 (v4, M) = some x) (hK : (xKl W42 (fun o => o = (ro, mo))) x) (H : Heap) (locs : List Loc) (ls : Array Slot) (O : xO κ s M H locs) (hl : lv_has ls 5 [(0, .ref (κ.1 + v0)), (2, .int v2), (3, .int v3), (4, .int v4)]) : W p l e (xRm 6 0 0) s m args below meth c H locs 0 0 (xQf below args s 0 0 κ (some (.int ro)) mo) (F0 m 42 ls []) := by
  unfold F_X12_goesOn_42b at h
  dsimp only at h
  have hx := X.1
  have hb := X.2.1
  refine lv_iload hx hb dX12_goesOn_42 (lv_at hl 3 rfl) ?_
  refine lv_aload_n hx hb dX12_goesOn_44 rfl (lv_at hl 0 rfl) ?_
  obtain ⟨t11, ht11, h⟩ := Option.bind_eq_some_iff.mp h
  refine xr_getP X O ht11 fl_X12_13 dX12_goesOn_45 ?_
  refine lv_bipush (v := (92 : Int32)) hx hb dX12_goesOn_48 (by decide) ?_
  obtain ⟨t12, ht12, h⟩ := Option.bind_eq_some_iff.mp h
  refine xr_aldI X O ht12 dX12_goesOn_50 ?_
  refine lv_icmp_ge (tgt := 93) hx hb dX12_goesOn_51 (by decide) (fun hc51 => ?_) (fun hc51 => ?_)
  · rw [if_pos hc51] at h
    obtain ⟨_, hw0, ew0⟩ := Option.map_eq_some_iff.mp h
    rw [← ew0] at hK
    have h := hw0
    exact F_X12_goesOn_93_ok X hr hlk v0 v2 v3 M _ h hK H locs ls O (lv_sub hl [0, 1, 2] rfl)
  rw [if_neg hc51] at h
  refine lv_iload_n hx hb dX12_goesOn_54 rfl (lv_at hl 2 rfl) ?_
  refine lv_i2l (v := v3.toInt64) hx hb dX12_goesOn_55 rfl ?_
  refine lv_aload_n hx hb dX12_goesOn_56 rfl (lv_at hl 0 rfl) ?_
  obtain ⟨t13, ht13, h⟩ := Option.bind_eq_some_iff.mp h
  refine xr_getP X O ht13 fl_X12_13 dX12_goesOn_57 ?_
  refine lv_bipush (v := (93 : Int32)) hx hb dX12_goesOn_60 (by decide) ?_
  refine lv_iconst (v := (2 : Int32)) hx hb dX12_goesOn_62 (by decide) ?_
  refine lv_iload hx hb dX12_goesOn_63 (lv_at hl 3 rfl) ?_
  refine lv_imul hx hb dX12_goesOn_65 ?_
  refine lv_iadd hx hb dX12_goesOn_66 ?_
  obtain ⟨t14, ht14, h⟩ := Option.bind_eq_some_iff.mp h
  refine xr_aldI X O ht14 dX12_goesOn_67 ?_
  obtain ⟨t15, ht15, h⟩ := Option.bind_eq_some_iff.mp h
  refine xr_callS (rest := []) X O (T_X12_isIn l κ v3.toInt64 t14 M _ _ ht15) lk_X12_253 (Nat.le_of_ble_eq_true rfl) rfl hl.1 rfl (Nat.le_of_ble_eq_true rfl) dX12_goesOn_68 ⟨Nat.le_of_ble_eq_true rfl, Nat.le_of_ble_eq_true rfl⟩ (fun H locs O => ?_)
  refine W.eq (g2 := F0 m 71 ls [.int t15.1]) rfl ?_
  refine lv_if_eq (tgt := 87) hx hb dX12_goesOn_71 (by decide) (fun hc71 => ?_) (fun hc71 => ?_)
  · rw [if_pos hc71] at h
    exact F_X12_goesOn_87_ok X hr hlk v0 v2 v3 v4 hW42 t15.2 _ h hK H locs ls O (lv_sub hl [0, 1, 2, 3] rfl)
  rw [if_neg hc71] at h
  refine lv_aload_n hx hb dX12_goesOn_74 rfl (lv_at hl 0 rfl) ?_
  refine lv_dup hx hb dX12_goesOn_75 rfl ?_
  obtain ⟨t16, ht16, h⟩ := Option.bind_eq_some_iff.mp h
  refine xr_getI X O ht16 fl_X12_247 (Or.inl rfl) dX12_goesOn_76 ?_
  refine lv_iconst (v := (1 : Int32)) hx hb dX12_goesOn_79 (by decide) ?_
  refine lv_iload hx hb dX12_goesOn_80 (lv_at hl 3 rfl) ?_
  refine lv_ishl hx hb dX12_goesOn_82 ?_
  refine lv_ior hx hb dX12_goesOn_83 ?_
  obtain ⟨t17, ht17, h⟩ := Option.bind_eq_some_iff.mp h
  refine xr_putI X O ht17 fl_X12_247 dX12_goesOn_84 (fun H locs O => ?_)
  exact F_X12_goesOn_87_ok X hr hlk v0 v2 v3 v4 hW42 t17 _ h hK H locs ls O (lv_sub hl [0, 1, 2, 3] rfl)
set_option maxRecDepth 100000 in
set_option maxHeartbeats 4000000 in
theorem F_X12_goesOn_42_ok (X : xX p s m args c cX12_goesOn 5 RX12 κ) (hr : meth.sig.returnType = (some .int)) (hlk : meth.locks = false) {ro : Int32} {mo : xM} (v0 : Nat) (v2 : Int32) (v3 : Int32) (v4 : Int32) (M : xM) (x : Int32 × xM) (h : F_X12_goesOn_42 v0 v2 v3 v4 M = some x) (hK : (fun o => o = (ro, mo)) x) (H : Heap) (locs : List Loc) (ls : Array Slot) (O : xO κ s M H locs) (hl : lv_has ls 5 [(0, .ref (κ.1 + v0)), (2, .int v2), (3, .int v3), (4, .int v4)]) : W p l e (xRm 6 0 0) s m args below meth c H locs 0 0 (xQf below args s 0 0 κ (some (.int ro)) mo) (F0 m 42 ls []) := by
  refine xit_K (Wh := fun x => ∀ (H : Heap) (locs : List Loc) (ls : Array Slot), xO κ s x.2 H locs → lv_has ls 5 [(0, .ref (κ.1 + v0)), (2, .int v2), (3, .int v3), (4, .int x.1)] → W p l e (xRm 6 0 0) s m args below meth c H locs 0 0 (xQf below args s 0 0 κ (some (.int ro)) mo) (F0 m 42 ls [])) (Kp := (fun o => o = (ro, mo))) ?_ xFU (v4, M) x h hK H locs ls O hl
  intro y x h hK H locs ls O hl
  exact F_X12_goesOn_42_bok X hr hlk v0 v2 v3 y.1 (fun _ _ hw => hw) y.2 x h hK H locs ls O hl
set_option maxRecDepth 100000 in
set_option maxHeartbeats 4000000 in
theorem T_X12_goesOn (l : Launch) (κ : xQ) (a0 : Nat) (a1 : Int32) (M : xM) (ro : Int32) (mo : xM) (h : F_X12_goesOn a0 a1 M = some (ro, mo)) : xC l yX12_goesOn cX12_goesOn 5 (some .int) 6 0 0 κ [.ref (κ.1 + a0), .int a1] M (some (.int ro)) mo := by
  refine xC_of rfl (Nat.le_of_ble_eq_true rfl) fun p e s m args below meth c X hr hlk hnm H locs ls O hl => ?_
  have X : xX p s m args c cX12_goesOn 5 RX12 κ := X
  have hl : lv_has ls 5 [(0, .ref (κ.1 + a0)), (1, .int a1)] := hl
  have hx := X.1
  have hb := X.2.1
  obtain ⟨x, hx0⟩ : ∃ x, (ro, mo) = x := ⟨_, rfl⟩
  rw [hx0] at h
  have hK : x = (ro, mo) := hx0.symm
  unfold F_X12_goesOn at h
  refine lv_aload_n hx hb dX12_goesOn_0 rfl (lv_at hl 0 rfl) ?_
  refine lv_dup hx hb dX12_goesOn_1 rfl ?_
  obtain ⟨t1, ht1, h⟩ := Option.bind_eq_some_iff.mp h
  refine xr_getI X O ht1 fl_X12_250 (Or.inl rfl) dX12_goesOn_2 ?_
  refine lv_iconst (v := (1 : Int32)) hx hb dX12_goesOn_5 (by decide) ?_
  refine lv_iadd hx hb dX12_goesOn_6 ?_
  obtain ⟨t2, ht2, h⟩ := Option.bind_eq_some_iff.mp h
  refine xr_putI X O ht2 fl_X12_250 dX12_goesOn_7 (fun H locs O => ?_)
  refine lv_aload_n hx hb dX12_goesOn_10 rfl (lv_at hl 0 rfl) ?_
  refine lv_aload_n hx hb dX12_goesOn_11 rfl (lv_at hl 0 rfl) ?_
  obtain ⟨t3, ht3, h⟩ := Option.bind_eq_some_iff.mp h
  refine xr_getI X O ht3 fl_X12_250 (Or.inl rfl) dX12_goesOn_12 ?_
  refine lv_aload_n hx hb dX12_goesOn_15 rfl (lv_at hl 0 rfl) ?_
  obtain ⟨t4, ht4, h⟩ := Option.bind_eq_some_iff.mp h
  refine xr_getP X O ht4 fl_X12_13 dX12_goesOn_16 ?_
  refine lv_bipush (v := (106 : Int32)) hx hb dX12_goesOn_19 (by decide) ?_
  obtain ⟨t5, ht5, h⟩ := Option.bind_eq_some_iff.mp h
  refine xr_aldI X O ht5 dX12_goesOn_21 ?_
  obtain ⟨_, hut6, h⟩ := Option.bind_eq_some_iff.mp h
  obtain ⟨t7, ht7, h⟩ := Option.bind_eq_some_iff.mp h
  refine xr_callV (rest := []) X O (T_X12_levelOf l κ a0 t3 t5 t2 _ _ ht7) lk_X12_263 hut6 (Nat.le_of_ble_eq_true rfl) rfl hl.1 rfl (Nat.le_of_ble_eq_true rfl) dX12_goesOn_22 ⟨Nat.le_of_ble_eq_true rfl, Nat.le_of_ble_eq_true rfl⟩ (fun H locs O => ?_)
  refine W.eq (g2 := F0 m 25 ls [.int t7.1]) rfl ?_
  refine lv_iload_n hx hb dX12_goesOn_25 rfl (lv_at hl 1 rfl) ?_
  refine lv_iadd hx hb dX12_goesOn_26 ?_
  refine lv_bipush (v := (10 : Int32)) hx hb dX12_goesOn_27 (by decide) ?_
  obtain ⟨t8, ht8, h⟩ := Option.bind_eq_some_iff.mp h
  refine xr_callS (rest := []) X O (T_X12_kept l κ (t7.1 + a1) (10 : Int32) t7.2 _ _ ht8) lk_X12_244 (Nat.le_of_ble_eq_true rfl) rfl hl.1 rfl (Nat.le_of_ble_eq_true rfl) dX12_goesOn_29 ⟨Nat.le_of_ble_eq_true rfl, Nat.le_of_ble_eq_true rfl⟩ (fun H locs O => ?_)
  refine W.eq (g2 := F0 m 32 ls [.int t8.1]) rfl ?_
  refine lv_istore_n (lv' := [(2, .int t8.1), (0, .ref (κ.1 + a0)), (1, .int a1)]) hx hb dX12_goesOn_32 rfl hl (by decide) rfl (fun ls hl => ?_)
  refine lv_aload_n hx hb dX12_goesOn_33 rfl (lv_at hl 1 rfl) ?_
  refine lv_iload_n hx hb dX12_goesOn_34 rfl (lv_at hl 0 rfl) ?_
  obtain ⟨_, hut9, h⟩ := Option.bind_eq_some_iff.mp h
  obtain ⟨t10, ht10, h⟩ := Option.bind_eq_some_iff.mp h
  refine xr_callV (rest := []) X O (T_X12_wetOf l κ a0 t8.1 t8.2 _ _ ht10) lk_X12_266 hut9 (Nat.le_of_ble_eq_true rfl) rfl hl.1 rfl (Nat.le_of_ble_eq_true rfl) dX12_goesOn_35 ⟨Nat.le_of_ble_eq_true rfl, Nat.le_of_ble_eq_true rfl⟩ (fun H locs O => ?_)
  refine W.eq (g2 := F0 m 38 ls [.int t10.1]) rfl ?_
  refine lv_istore_n (lv' := [(3, .int t10.1), (2, .int t8.1), (0, .ref (κ.1 + a0)), (1, .int a1)]) hx hb dX12_goesOn_38 rfl hl (by decide) rfl (fun ls hl => ?_)
  refine lv_iconst (v := (0 : Int32)) hx hb dX12_goesOn_39 (by decide) ?_
  refine lv_istore (lv' := [(4, .int (0 : Int32)), (3, .int t10.1), (2, .int t8.1), (0, .ref (κ.1 + a0)), (1, .int a1)]) hx hb dX12_goesOn_40 hl (by decide) rfl (fun ls hl => ?_)
  exact F_X12_goesOn_42_ok X hr hlk a0 t8.1 t10.1 (0 : Int32) t10.2 _ h hK H locs ls O (lv_sub hl [3, 2, 1, 0] rfl)
def F_X12_goesOnFor_23 (M : xM) : Option (xM) :=
some M
def F_X12_goesOnFor_6b (v0 : Nat) (v1 : Int32) : (Int32 × xM) → Option ((Int32 × xM) ⊕ (xM)) := fun ⟨v2, M⟩ =>
if v1 ≤ v2 then (
(F_X12_goesOnFor_23 M).map Sum.inr)
else (
(xck M v0 12).bind fun _ =>
(F_X12_goesOn v0 (0 : Int32) M).bind fun t4 =>
some (.inl ((v2 + 1), t4.2)))
def F_X12_goesOnFor_6 (v0 : Nat) (v1 : Int32) (v2 : Int32) (M : xM) : Option (xM) := xit (F_X12_goesOnFor_6b v0 v1) xFU (v2, M)
def F_X12_goesOnFor (a0 : Nat) (a1 : Int32) (M : xM) : Option (xM) :=
(xck M a0 12).bind fun _ =>
(F_X12_begins a0 M).bind fun t2 =>
F_X12_goesOnFor_6 a0 a1 (0 : Int32) t2
set_option maxRecDepth 100000 in
set_option maxHeartbeats 4000000 in
theorem F_X12_goesOnFor_23_ok (X : xX p s m args c cX12_goesOnFor 3 RX12 κ) (hr : meth.sig.returnType = none) (hlk : meth.locks = false) {mo : xM} (M : xM) (x : xM) (h : F_X12_goesOnFor_23 M = some x) (hK : (fun o => o = mo) x) (H : Heap) (locs : List Loc) (ls : Array Slot) (O : xO κ s M H locs) (hl : lv_has ls 3 []) : W p l e (xRm 7 0 0) s m args below meth c H locs 0 0 (xQf below args s 0 0 κ none mo) (F0 m 23 ls []) := by
  unfold F_X12_goesOnFor_23 at h
  have hx := X.1
  have hb := X.2.1
  rw [← Option.some.inj h] at hK
  have hK : M = mo := hK
  rw [hK] at O
  exact xr_vret X hr hlk O dX12_goesOnFor_23
set_option maxRecDepth 100000 in
set_option maxHeartbeats 4000000 in
theorem F_X12_goesOnFor_6_bok (X : xX p s m args c cX12_goesOnFor 3 RX12 κ) (hr : meth.sig.returnType = none) (hlk : meth.locks = false) {mo : xM} (v0 : Nat) (v1 : Int32) (v2 : Int32) {W6 : Int32 × xM → Prop} (hW6 : ∀ (v2 : Int32) (M : xM), W6 (v2, M) → ∀ (H : Heap) (locs : List Loc) (ls : Array Slot), xO κ s M H locs → lv_has ls 3 [(0, .ref (κ.1 + v0)), (1, .int v1), (2, .int v2)] → W p l e (xRm 7 0 0) s m args below meth c H locs 0 0 (xQf below args s 0 0 κ none mo) (F0 m 6 ls [])) (M : xM) (x : (Int32 × xM) ⊕ (xM)) (h : F_X12_goesOnFor_6b v0 v1 (v2, M) = some x) (hK : (xKl W6 (fun o => o = mo)) x) (H : Heap) (locs : List Loc) (ls : Array Slot) (O : xO κ s M H locs) (hl : lv_has ls 3 [(0, .ref (κ.1 + v0)), (1, .int v1), (2, .int v2)]) : W p l e (xRm 7 0 0) s m args below meth c H locs 0 0 (xQf below args s 0 0 κ none mo) (F0 m 6 ls []) := by
  unfold F_X12_goesOnFor_6b at h
  dsimp only at h
  have hx := X.1
  have hb := X.2.1
  refine lv_iload_n hx hb dX12_goesOnFor_6 rfl (lv_at hl 2 rfl) ?_
  refine lv_iload_n hx hb dX12_goesOnFor_7 rfl (lv_at hl 1 rfl) ?_
  refine lv_icmp_ge (tgt := 23) hx hb dX12_goesOnFor_8 (by decide) (fun hc8 => ?_) (fun hc8 => ?_)
  · rw [if_pos hc8] at h
    obtain ⟨_, hw0, ew0⟩ := Option.map_eq_some_iff.mp h
    rw [← ew0] at hK
    have h := hw0
    exact F_X12_goesOnFor_23_ok X hr hlk  M _ h hK H locs ls O (lv_sub hl [] rfl)
  rw [if_neg hc8] at h
  refine lv_aload_n hx hb dX12_goesOnFor_11 rfl (lv_at hl 0 rfl) ?_
  refine lv_iconst (v := (0 : Int32)) hx hb dX12_goesOnFor_12 (by decide) ?_
  obtain ⟨_, hut3, h⟩ := Option.bind_eq_some_iff.mp h
  obtain ⟨t4, ht4, h⟩ := Option.bind_eq_some_iff.mp h
  refine xr_callV (rest := []) X O (T_X12_goesOn l κ v0 (0 : Int32) M _ _ ht4) lk_X12_275 hut3 (Nat.le_of_ble_eq_true rfl) rfl hl.1 rfl (Nat.le_of_ble_eq_true rfl) dX12_goesOnFor_13 ⟨Nat.le_of_ble_eq_true rfl, Nat.le_of_ble_eq_true rfl⟩ (fun H locs O => ?_)
  refine W.eq (g2 := F0 m 16 ls [.int t4.1]) rfl ?_
  refine lv_pop hx hb dX12_goesOnFor_16 rfl ?_
  refine lv_iinc (v := (v2 + 1)) (lv' := [(2, .int (v2 + 1)), (0, .ref (κ.1 + v0)), (1, .int v1)]) hx hb dX12_goesOnFor_17 hl (k := 2) rfl rfl (by decide) rfl (fun ls hl => ?_)
  refine lv_goto (tgt := 6) hx hb dX12_goesOnFor_20 (by decide) ?_
  rw [← Option.some.inj h] at hK
  exact hW6 (v2 + 1) t4.2 hK H locs ls O (lv_sub hl [1, 2, 0] rfl)
set_option maxRecDepth 100000 in
set_option maxHeartbeats 4000000 in
theorem F_X12_goesOnFor_6_ok (X : xX p s m args c cX12_goesOnFor 3 RX12 κ) (hr : meth.sig.returnType = none) (hlk : meth.locks = false) {mo : xM} (v0 : Nat) (v1 : Int32) (v2 : Int32) (M : xM) (x : xM) (h : F_X12_goesOnFor_6 v0 v1 v2 M = some x) (hK : (fun o => o = mo) x) (H : Heap) (locs : List Loc) (ls : Array Slot) (O : xO κ s M H locs) (hl : lv_has ls 3 [(0, .ref (κ.1 + v0)), (1, .int v1), (2, .int v2)]) : W p l e (xRm 7 0 0) s m args below meth c H locs 0 0 (xQf below args s 0 0 κ none mo) (F0 m 6 ls []) := by
  refine xit_K (Wh := fun x => ∀ (H : Heap) (locs : List Loc) (ls : Array Slot), xO κ s x.2 H locs → lv_has ls 3 [(0, .ref (κ.1 + v0)), (1, .int v1), (2, .int x.1)] → W p l e (xRm 7 0 0) s m args below meth c H locs 0 0 (xQf below args s 0 0 κ none mo) (F0 m 6 ls [])) (Kp := (fun o => o = mo)) ?_ xFU (v2, M) x h hK H locs ls O hl
  intro y x h hK H locs ls O hl
  exact F_X12_goesOnFor_6_bok X hr hlk v0 v1 y.1 (fun _ _ hw => hw) y.2 x h hK H locs ls O hl
set_option maxRecDepth 100000 in
set_option maxHeartbeats 4000000 in
theorem T_X12_goesOnFor (l : Launch) (κ : xQ) (a0 : Nat) (a1 : Int32) (M : xM) (mo : xM) (h : F_X12_goesOnFor a0 a1 M = some mo) : xC l yX12_goesOnFor cX12_goesOnFor 3 none 7 0 0 κ [.ref (κ.1 + a0), .int a1] M none mo := by
  refine xC_of rfl (Nat.le_of_ble_eq_true rfl) fun p e s m args below meth c X hr hlk hnm H locs ls O hl => ?_
  have X : xX p s m args c cX12_goesOnFor 3 RX12 κ := X
  have hl : lv_has ls 3 [(0, .ref (κ.1 + a0)), (1, .int a1)] := hl
  have hx := X.1
  have hb := X.2.1
  obtain ⟨x, hx0⟩ : ∃ x, mo = x := ⟨_, rfl⟩
  rw [hx0] at h
  have hK : x = mo := hx0.symm
  unfold F_X12_goesOnFor at h
  refine lv_aload_n hx hb dX12_goesOnFor_0 rfl (lv_at hl 0 rfl) ?_
  obtain ⟨_, hut1, h⟩ := Option.bind_eq_some_iff.mp h
  obtain ⟨t2, ht2, h⟩ := Option.bind_eq_some_iff.mp h
  refine xr_callV (rest := []) X O (T_X12_begins l κ a0 M _ ht2) lk_X12_272 hut1 (Nat.le_of_ble_eq_true rfl) rfl hl.1 rfl (Nat.le_of_ble_eq_true rfl) dX12_goesOnFor_1 ⟨Nat.le_of_ble_eq_true rfl, Nat.le_of_ble_eq_true rfl⟩ (fun H locs O => ?_)
  refine W.eq (g2 := F0 m 4 ls []) rfl ?_
  refine lv_iconst (v := (0 : Int32)) hx hb dX12_goesOnFor_4 (by decide) ?_
  refine lv_istore_n (lv' := [(2, .int (0 : Int32)), (0, .ref (κ.1 + a0)), (1, .int a1)]) hx hb dX12_goesOnFor_5 rfl hl (by decide) rfl (fun ls hl => ?_)
  exact F_X12_goesOnFor_6_ok X hr hlk a0 a1 (0 : Int32) t2 _ h hK H locs ls O (lv_sub hl [1, 2, 0] rfl)
def F_X12_standingOn (a0 : Nat) (M : xM) : Option (Int32 × xM) :=
(xgP M a0 12 1).bind fun t1 =>
(xaI M 20 t1 (92 : Int32)).bind fun t2 =>
(xgI M a0 12 20).bind fun t3 =>
some (((((1 : Int32) <<< (t2 &&& 31)) - (1 : Int32)) &&& (t3 ^^^ (-1 : Int32))), M)
set_option maxRecDepth 100000 in
set_option maxHeartbeats 4000000 in
theorem T_X12_standingOn (l : Launch) (κ : xQ) (a0 : Nat) (M : xM) (ro : Int32) (mo : xM) (h : F_X12_standingOn a0 M = some (ro, mo)) : xC l yX12_standingOn cX12_standingOn 1 (some .int) 2 0 0 κ [.ref (κ.1 + a0)] M (some (.int ro)) mo := by
  refine xC_of rfl (Nat.le_of_ble_eq_true rfl) fun p e s m args below meth c X hr hlk hnm H locs ls O hl => ?_
  have X : xX p s m args c cX12_standingOn 1 RX12 κ := X
  have hl : lv_has ls 1 [(0, .ref (κ.1 + a0))] := hl
  have hx := X.1
  have hb := X.2.1
  obtain ⟨x, hx0⟩ : ∃ x, (ro, mo) = x := ⟨_, rfl⟩
  rw [hx0] at h
  have hK : x = (ro, mo) := hx0.symm
  unfold F_X12_standingOn at h
  refine lv_iconst (v := (1 : Int32)) hx hb dX12_standingOn_0 (by decide) ?_
  refine lv_aload_n hx hb dX12_standingOn_1 rfl (lv_at hl 0 rfl) ?_
  obtain ⟨t1, ht1, h⟩ := Option.bind_eq_some_iff.mp h
  refine xr_getP X O ht1 fl_X12_13 dX12_standingOn_2 ?_
  refine lv_bipush (v := (92 : Int32)) hx hb dX12_standingOn_5 (by decide) ?_
  obtain ⟨t2, ht2, h⟩ := Option.bind_eq_some_iff.mp h
  refine xr_aldI X O ht2 dX12_standingOn_7 ?_
  refine lv_ishl hx hb dX12_standingOn_8 ?_
  refine lv_iconst (v := (1 : Int32)) hx hb dX12_standingOn_9 (by decide) ?_
  refine lv_isub hx hb dX12_standingOn_10 ?_
  refine lv_aload_n hx hb dX12_standingOn_11 rfl (lv_at hl 0 rfl) ?_
  obtain ⟨t3, ht3, h⟩ := Option.bind_eq_some_iff.mp h
  refine xr_getI X O ht3 fl_X12_247 (Or.inl rfl) dX12_standingOn_12 ?_
  refine lv_iconst (v := (-1 : Int32)) hx hb dX12_standingOn_15 (by decide) ?_
  refine lv_ixor hx hb dX12_standingOn_16 ?_
  refine lv_iand hx hb dX12_standingOn_17 ?_
  rw [← Option.some.inj h] at hK
  have hK : (((((1 : Int32) <<< (t2 &&& 31)) - (1 : Int32)) &&& (t3 ^^^ (-1 : Int32))), M) = (ro, mo) := hK
  obtain ⟨hK1, hK2⟩ := Prod.mk.inj hK
  rw [hK2] at O
  refine xr_top (w := .int ro) (by rw [hK1]) ?_
  exact xr_iret X hr hlk O dX12_standingOn_18
def F_X12_sand (a0 : Nat) (a1 : Int32) (M : xM) : Option (Int32 × xM) :=
(xpI M a0 12 0 (0 : Int32)).bind fun t1 =>
(xck t1 a0 12).bind fun _ =>
(F_X12_isCell a0 a1.toInt64 t1).bind fun t3 =>
if t3.1 = 0 then (
some ((-2 : Int32), t3.2))
else (
(xgP t3.2 a0 12 1).bind fun t4 =>
(xaI t3.2 20 t4 ((67 : Int32) + a1)).bind fun t5 =>
some (t5, t3.2))
set_option maxRecDepth 100000 in
set_option maxHeartbeats 4000000 in
theorem T_X12_sand (l : Launch) (κ : xQ) (a0 : Nat) (a1 : Int32) (M : xM) (ro : Int32) (mo : xM) (h : F_X12_sand a0 a1 M = some (ro, mo)) : xC l yX12_sand cX12_sand 2 (some .int) 4 0 0 κ [.ref (κ.1 + a0), .int a1] M (some (.int ro)) mo := by
  refine xC_of rfl (Nat.le_of_ble_eq_true rfl) fun p e s m args below meth c X hr hlk hnm H locs ls O hl => ?_
  have X : xX p s m args c cX12_sand 2 RX12 κ := X
  have hl : lv_has ls 2 [(0, .ref (κ.1 + a0)), (1, .int a1)] := hl
  have hx := X.1
  have hb := X.2.1
  obtain ⟨x, hx0⟩ : ∃ x, (ro, mo) = x := ⟨_, rfl⟩
  rw [hx0] at h
  have hK : x = (ro, mo) := hx0.symm
  unfold F_X12_sand at h
  refine lv_aload_n hx hb dX12_sand_0 rfl (lv_at hl 0 rfl) ?_
  refine lv_iconst (v := (0 : Int32)) hx hb dX12_sand_1 (by decide) ?_
  obtain ⟨t1, ht1, h⟩ := Option.bind_eq_some_iff.mp h
  refine xr_putI X O ht1 fl_X12_1 dX12_sand_2 (fun H locs O => ?_)
  refine lv_aload_n hx hb dX12_sand_5 rfl (lv_at hl 0 rfl) ?_
  refine lv_iload_n hx hb dX12_sand_6 rfl (lv_at hl 1 rfl) ?_
  refine lv_i2l (v := a1.toInt64) hx hb dX12_sand_7 rfl ?_
  obtain ⟨_, hut2, h⟩ := Option.bind_eq_some_iff.mp h
  obtain ⟨t3, ht3, h⟩ := Option.bind_eq_some_iff.mp h
  refine xr_callV (rest := []) X O (T_X12_isCell l κ a0 a1.toInt64 t1 _ _ ht3) lk_X12_230 hut2 (Nat.le_of_ble_eq_true rfl) rfl hl.1 rfl (Nat.le_of_ble_eq_true rfl) dX12_sand_8 ⟨Nat.le_of_ble_eq_true rfl, Nat.le_of_ble_eq_true rfl⟩ (fun H locs O => ?_)
  refine W.eq (g2 := F0 m 11 ls [.int t3.1]) rfl ?_
  refine lv_if_eq (tgt := 26) hx hb dX12_sand_11 (by decide) (fun hc11 => ?_) (fun hc11 => ?_)
  · rw [if_pos hc11] at h
    refine lv_bipush (v := (-2 : Int32)) hx hb dX12_sand_26 (by decide) ?_
    rw [← Option.some.inj h] at hK
    have hK : ((-2 : Int32), t3.2) = (ro, mo) := hK
    obtain ⟨hK1, hK2⟩ := Prod.mk.inj hK
    rw [hK2] at O
    refine xr_top (w := .int ro) (by rw [hK1]) ?_
    exact xr_iret X hr hlk O dX12_sand_28
  rw [if_neg hc11] at h
  refine lv_aload_n hx hb dX12_sand_14 rfl (lv_at hl 0 rfl) ?_
  obtain ⟨t4, ht4, h⟩ := Option.bind_eq_some_iff.mp h
  refine xr_getP X O ht4 fl_X12_13 dX12_sand_15 ?_
  refine lv_bipush (v := (67 : Int32)) hx hb dX12_sand_18 (by decide) ?_
  refine lv_iload_n hx hb dX12_sand_20 rfl (lv_at hl 1 rfl) ?_
  refine lv_iadd hx hb dX12_sand_21 ?_
  obtain ⟨t5, ht5, h⟩ := Option.bind_eq_some_iff.mp h
  refine xr_aldI X O ht5 dX12_sand_22 ?_
  refine lv_goto (tgt := 28) hx hb dX12_sand_23 (by decide) ?_
  rw [← Option.some.inj h] at hK
  have hK : (t5, t3.2) = (ro, mo) := hK
  obtain ⟨hK1, hK2⟩ := Prod.mk.inj hK
  rw [hK2] at O
  refine xr_top (w := .int ro) (by rw [hK1]) ?_
  exact xr_iret X hr hlk O dX12_sand_28
def F_X12_house (a0 : Nat) (a1 : Int32) (a2 : Int32) (M : xM) : Option (Int32 × xM) :=
(xpI M a0 12 0 (0 : Int32)).bind fun t1 =>
(xck t1 a0 12).bind fun _ =>
(F_X12_isHouse a0 a1.toInt64 t1).bind fun t3 =>
if t3.1 = 0 then (
some ((-2 : Int32), t3.2))
else (
if a2 = (0 : Int32) then (
(xgP t3.2 a0 12 1).bind fun t4 =>
(xaI t3.2 20 t4 ((93 : Int32) + ((2 : Int32) * a1))).bind fun t5 =>
some (t5, t3.2))
else if a2 = (1 : Int32) then (
(xgP t3.2 a0 12 1).bind fun t6 =>
(xaI t3.2 20 t6 (((93 : Int32) + ((2 : Int32) * a1)) + (1 : Int32))).bind fun t7 =>
some (t7, t3.2))
else if a2 = (2 : Int32) then (
(xgP t3.2 a0 12 1).bind fun t8 =>
(xaI t3.2 20 t8 (105 : Int32)).bind fun t9 =>
(F_X12_isIn t9.toInt64 a1 t3.2).bind fun t10 =>
if t10.1 = 0 then (
some ((1 : Int32), t10.2))
else (
some ((0 : Int32), t10.2)))
else (
some ((-2 : Int32), t3.2)))
set_option maxRecDepth 100000 in
set_option maxHeartbeats 4000000 in
theorem T_X12_house (l : Launch) (κ : xQ) (a0 : Nat) (a1 : Int32) (a2 : Int32) (M : xM) (ro : Int32) (mo : xM) (h : F_X12_house a0 a1 a2 M = some (ro, mo)) : xC l yX12_house cX12_house 3 (some .int) 4 0 0 κ [.ref (κ.1 + a0), .int a1, .int a2] M (some (.int ro)) mo := by
  refine xC_of rfl (Nat.le_of_ble_eq_true rfl) fun p e s m args below meth c X hr hlk hnm H locs ls O hl => ?_
  have X : xX p s m args c cX12_house 3 RX12 κ := X
  have hl : lv_has ls 3 [(0, .ref (κ.1 + a0)), (1, .int a1), (2, .int a2)] := hl
  have hx := X.1
  have hb := X.2.1
  obtain ⟨x, hx0⟩ : ∃ x, (ro, mo) = x := ⟨_, rfl⟩
  rw [hx0] at h
  have hK : x = (ro, mo) := hx0.symm
  unfold F_X12_house at h
  refine lv_aload_n hx hb dX12_house_0 rfl (lv_at hl 0 rfl) ?_
  refine lv_iconst (v := (0 : Int32)) hx hb dX12_house_1 (by decide) ?_
  obtain ⟨t1, ht1, h⟩ := Option.bind_eq_some_iff.mp h
  refine xr_putI X O ht1 fl_X12_1 dX12_house_2 (fun H locs O => ?_)
  refine lv_aload_n hx hb dX12_house_5 rfl (lv_at hl 0 rfl) ?_
  refine lv_iload_n hx hb dX12_house_6 rfl (lv_at hl 1 rfl) ?_
  refine lv_i2l (v := a1.toInt64) hx hb dX12_house_7 rfl ?_
  obtain ⟨_, hut2, h⟩ := Option.bind_eq_some_iff.mp h
  obtain ⟨t3, ht3, h⟩ := Option.bind_eq_some_iff.mp h
  refine xr_callV (rest := []) X O (T_X12_isHouse l κ a0 a1.toInt64 t1 _ _ ht3) lk_X12_278 hut2 (Nat.le_of_ble_eq_true rfl) rfl hl.1 rfl (Nat.le_of_ble_eq_true rfl) dX12_house_8 ⟨Nat.le_of_ble_eq_true rfl, Nat.le_of_ble_eq_true rfl⟩ (fun H locs O => ?_)
  refine W.eq (g2 := F0 m 11 ls [.int t3.1]) rfl ?_
  refine lv_if_ne (tgt := 17) hx hb dX12_house_11 (by decide) (fun hc11 => ?_) (fun hc11 => ?_)
  · rw [if_neg hc11] at h
    refine lv_iload_n hx hb dX12_house_17 rfl (lv_at hl 2 rfl) ?_
    by_cases hs18_0 : a2 = (0 : Int32)
    · rw [if_pos hs18_0] at h
      refine xr_tabIn (tgt := 44) (off := 26) X dX12_house_18 hs18_0 (by decide +kernel) (by decide +kernel) (by decide +kernel) (by decide) ?_
      refine lv_aload_n hx hb dX12_house_44 rfl (lv_at hl 0 rfl) ?_
      obtain ⟨t4, ht4, h⟩ := Option.bind_eq_some_iff.mp h
      refine xr_getP X O ht4 fl_X12_13 dX12_house_45 ?_
      refine lv_bipush (v := (93 : Int32)) hx hb dX12_house_48 (by decide) ?_
      refine lv_iconst (v := (2 : Int32)) hx hb dX12_house_50 (by decide) ?_
      refine lv_iload_n hx hb dX12_house_51 rfl (lv_at hl 1 rfl) ?_
      refine lv_imul hx hb dX12_house_52 ?_
      refine lv_iadd hx hb dX12_house_53 ?_
      obtain ⟨t5, ht5, h⟩ := Option.bind_eq_some_iff.mp h
      refine xr_aldI X O ht5 dX12_house_54 ?_
      rw [← Option.some.inj h] at hK
      have hK : (t5, t3.2) = (ro, mo) := hK
      obtain ⟨hK1, hK2⟩ := Prod.mk.inj hK
      rw [hK2] at O
      refine xr_top (w := .int ro) (by rw [hK1]) ?_
      exact xr_iret X hr hlk O dX12_house_55
    rw [if_neg hs18_0] at h
    by_cases hs18_1 : a2 = (1 : Int32)
    · rw [if_pos hs18_1] at h
      refine xr_tabIn (tgt := 56) (off := 38) X dX12_house_18 hs18_1 (by decide +kernel) (by decide +kernel) (by decide +kernel) (by decide) ?_
      refine lv_aload_n hx hb dX12_house_56 rfl (lv_at hl 0 rfl) ?_
      obtain ⟨t6, ht6, h⟩ := Option.bind_eq_some_iff.mp h
      refine xr_getP X O ht6 fl_X12_13 dX12_house_57 ?_
      refine lv_bipush (v := (93 : Int32)) hx hb dX12_house_60 (by decide) ?_
      refine lv_iconst (v := (2 : Int32)) hx hb dX12_house_62 (by decide) ?_
      refine lv_iload_n hx hb dX12_house_63 rfl (lv_at hl 1 rfl) ?_
      refine lv_imul hx hb dX12_house_64 ?_
      refine lv_iadd hx hb dX12_house_65 ?_
      refine lv_iconst (v := (1 : Int32)) hx hb dX12_house_66 (by decide) ?_
      refine lv_iadd hx hb dX12_house_67 ?_
      obtain ⟨t7, ht7, h⟩ := Option.bind_eq_some_iff.mp h
      refine xr_aldI X O ht7 dX12_house_68 ?_
      rw [← Option.some.inj h] at hK
      have hK : (t7, t3.2) = (ro, mo) := hK
      obtain ⟨hK1, hK2⟩ := Prod.mk.inj hK
      rw [hK2] at O
      refine xr_top (w := .int ro) (by rw [hK1]) ?_
      exact xr_iret X hr hlk O dX12_house_69
    rw [if_neg hs18_1] at h
    by_cases hs18_2 : a2 = (2 : Int32)
    · rw [if_pos hs18_2] at h
      refine xr_tabIn (tgt := 70) (off := 52) X dX12_house_18 hs18_2 (by decide +kernel) (by decide +kernel) (by decide +kernel) (by decide) ?_
      refine lv_aload_n hx hb dX12_house_70 rfl (lv_at hl 0 rfl) ?_
      obtain ⟨t8, ht8, h⟩ := Option.bind_eq_some_iff.mp h
      refine xr_getP X O ht8 fl_X12_13 dX12_house_71 ?_
      refine lv_bipush (v := (105 : Int32)) hx hb dX12_house_74 (by decide) ?_
      obtain ⟨t9, ht9, h⟩ := Option.bind_eq_some_iff.mp h
      refine xr_aldI X O ht9 dX12_house_76 ?_
      refine lv_i2l (v := t9.toInt64) hx hb dX12_house_77 rfl ?_
      refine lv_iload_n hx hb dX12_house_78 rfl (lv_at hl 1 rfl) ?_
      obtain ⟨t10, ht10, h⟩ := Option.bind_eq_some_iff.mp h
      refine xr_callS (rest := []) X O (T_X12_isIn l κ t9.toInt64 a1 t3.2 _ _ ht10) lk_X12_253 (Nat.le_of_ble_eq_true rfl) rfl hl.1 rfl (Nat.le_of_ble_eq_true rfl) dX12_house_79 ⟨Nat.le_of_ble_eq_true rfl, Nat.le_of_ble_eq_true rfl⟩ (fun H locs O => ?_)
      refine W.eq (g2 := F0 m 82 ls [.int t10.1]) rfl ?_
      refine lv_if_eq (tgt := 89) hx hb dX12_house_82 (by decide) (fun hc82 => ?_) (fun hc82 => ?_)
      · rw [if_pos hc82] at h
        refine lv_iconst (v := (1 : Int32)) hx hb dX12_house_89 (by decide) ?_
        rw [← Option.some.inj h] at hK
        have hK : ((1 : Int32), t10.2) = (ro, mo) := hK
        obtain ⟨hK1, hK2⟩ := Prod.mk.inj hK
        rw [hK2] at O
        refine xr_top (w := .int ro) (by rw [hK1]) ?_
        exact xr_iret X hr hlk O dX12_house_90
      rw [if_neg hc82] at h
      refine lv_iconst (v := (0 : Int32)) hx hb dX12_house_85 (by decide) ?_
      refine lv_goto (tgt := 90) hx hb dX12_house_86 (by decide) ?_
      rw [← Option.some.inj h] at hK
      have hK : ((0 : Int32), t10.2) = (ro, mo) := hK
      obtain ⟨hK1, hK2⟩ := Prod.mk.inj hK
      rw [hK2] at O
      refine xr_top (w := .int ro) (by rw [hK1]) ?_
      exact xr_iret X hr hlk O dX12_house_90
    rw [if_neg hs18_2] at h
    have ihs18_0 := xr_nei (k := 0) (by decide) hs18_0
    have ihs18_1 := xr_nei (k := 1) (by decide) hs18_1
    have ihs18_2 := xr_nei (k := 2) (by decide) hs18_2
    refine lv_tableOut (tgt := 91) hx hb dX12_house_18 (by omega) (by decide) ?_
    refine lv_bipush (v := (-2 : Int32)) hx hb dX12_house_91 (by decide) ?_
    rw [← Option.some.inj h] at hK
    have hK : ((-2 : Int32), t3.2) = (ro, mo) := hK
    obtain ⟨hK1, hK2⟩ := Prod.mk.inj hK
    rw [hK2] at O
    refine xr_top (w := .int ro) (by rw [hK1]) ?_
    exact xr_iret X hr hlk O dX12_house_93
  rw [if_pos hc11] at h
  refine lv_bipush (v := (-2 : Int32)) hx hb dX12_house_14 (by decide) ?_
  rw [← Option.some.inj h] at hK
  have hK : ((-2 : Int32), t3.2) = (ro, mo) := hK
  obtain ⟨hK1, hK2⟩ := Prod.mk.inj hK
  rw [hK2] at O
  refine xr_top (w := .int ro) (by rw [hK1]) ?_
  exact xr_iret X hr hlk O dX12_house_16
def F_X12_plot_51 (M : xM) : Option (Int32 × xM) :=
some ((-2 : Int32), M)
def F_X12_plot (a0 : Nat) (a1 : Int32) (a2 : Int32) (M : xM) : Option (Int32 × xM) :=
(xpI M a0 12 0 (0 : Int32)).bind fun t1 =>
(xgP t1 a0 12 1).bind fun t2 =>
(xaI t1 20 t2 (4 : Int32)).bind fun t3 =>
(F_X12_within a1.toInt64 (0 : Int64) (t3 - (1 : Int32)).toInt64 t1).bind fun t4 =>
if t4.1 = 0 then (
F_X12_plot_51 t4.2)
else (
(F_X12_within a2.toInt64 (0 : Int64) (2 : Int64) t4.2).bind fun t5 =>
if t5.1 = 0 then (
F_X12_plot_51 t5.2)
else (
(xgP t5.2 a0 12 1).bind fun t6 =>
(xaI t5.2 20 t6 (((13 : Int32) + ((3 : Int32) * a1)) + a2)).bind fun t7 =>
some (t7, t5.2)))
set_option maxRecDepth 100000 in
set_option maxHeartbeats 4000000 in
theorem F_X12_plot_51_ok (X : xX p s m args c cX12_plot 3 RX12 κ) (hr : meth.sig.returnType = (some .int)) (hlk : meth.locks = false) {ro : Int32} {mo : xM} (M : xM) (x : Int32 × xM) (h : F_X12_plot_51 M = some x) (hK : (fun o => o = (ro, mo)) x) (H : Heap) (locs : List Loc) (ls : Array Slot) (O : xO κ s M H locs) (hl : lv_has ls 3 []) : W p l e (xRm 3 0 0) s m args below meth c H locs 0 0 (xQf below args s 0 0 κ (some (.int ro)) mo) (F0 m 51 ls []) := by
  unfold F_X12_plot_51 at h
  have hx := X.1
  have hb := X.2.1
  refine lv_bipush (v := (-2 : Int32)) hx hb dX12_plot_51 (by decide) ?_
  rw [← Option.some.inj h] at hK
  have hK : ((-2 : Int32), M) = (ro, mo) := hK
  obtain ⟨hK1, hK2⟩ := Prod.mk.inj hK
  rw [hK2] at O
  refine xr_top (w := .int ro) (by rw [hK1]) ?_
  exact xr_iret X hr hlk O dX12_plot_53
set_option maxRecDepth 100000 in
set_option maxHeartbeats 4000000 in
theorem T_X12_plot (l : Launch) (κ : xQ) (a0 : Nat) (a1 : Int32) (a2 : Int32) (M : xM) (ro : Int32) (mo : xM) (h : F_X12_plot a0 a1 a2 M = some (ro, mo)) : xC l yX12_plot cX12_plot 3 (some .int) 3 0 0 κ [.ref (κ.1 + a0), .int a1, .int a2] M (some (.int ro)) mo := by
  refine xC_of rfl (Nat.le_of_ble_eq_true rfl) fun p e s m args below meth c X hr hlk hnm H locs ls O hl => ?_
  have X : xX p s m args c cX12_plot 3 RX12 κ := X
  have hl : lv_has ls 3 [(0, .ref (κ.1 + a0)), (1, .int a1), (2, .int a2)] := hl
  have hx := X.1
  have hb := X.2.1
  obtain ⟨x, hx0⟩ : ∃ x, (ro, mo) = x := ⟨_, rfl⟩
  rw [hx0] at h
  have hK : x = (ro, mo) := hx0.symm
  unfold F_X12_plot at h
  refine lv_aload_n hx hb dX12_plot_0 rfl (lv_at hl 0 rfl) ?_
  refine lv_iconst (v := (0 : Int32)) hx hb dX12_plot_1 (by decide) ?_
  obtain ⟨t1, ht1, h⟩ := Option.bind_eq_some_iff.mp h
  refine xr_putI X O ht1 fl_X12_1 dX12_plot_2 (fun H locs O => ?_)
  refine lv_iload_n hx hb dX12_plot_5 rfl (lv_at hl 1 rfl) ?_
  refine lv_i2l (v := a1.toInt64) hx hb dX12_plot_6 rfl ?_
  refine lv_lconst (v := (0 : Int64)) hx hb dX12_plot_7 (by decide) ?_
  refine lv_aload_n hx hb dX12_plot_8 rfl (lv_at hl 0 rfl) ?_
  obtain ⟨t2, ht2, h⟩ := Option.bind_eq_some_iff.mp h
  refine xr_getP X O ht2 fl_X12_13 dX12_plot_9 ?_
  refine lv_iconst (v := (4 : Int32)) hx hb dX12_plot_12 (by decide) ?_
  obtain ⟨t3, ht3, h⟩ := Option.bind_eq_some_iff.mp h
  refine xr_aldI X O ht3 dX12_plot_13 ?_
  refine lv_iconst (v := (1 : Int32)) hx hb dX12_plot_14 (by decide) ?_
  refine lv_isub hx hb dX12_plot_15 ?_
  refine lv_i2l (v := (t3 - (1 : Int32)).toInt64) hx hb dX12_plot_16 rfl ?_
  obtain ⟨t4, ht4, h⟩ := Option.bind_eq_some_iff.mp h
  refine xr_callS (rest := []) X O (T_X12_within l κ a1.toInt64 (0 : Int64) (t3 - (1 : Int32)).toInt64 t1 _ _ ht4) lk_X12_145 (Nat.le_of_ble_eq_true rfl) rfl hl.1 rfl (Nat.le_of_ble_eq_true rfl) dX12_plot_17 ⟨Nat.le_of_ble_eq_true rfl, Nat.le_of_ble_eq_true rfl⟩ (fun H locs O => ?_)
  refine W.eq (g2 := F0 m 20 ls [.int t4.1]) rfl ?_
  refine lv_if_eq (tgt := 51) hx hb dX12_plot_20 (by decide) (fun hc20 => ?_) (fun hc20 => ?_)
  · rw [if_pos hc20] at h
    exact F_X12_plot_51_ok X hr hlk  t4.2 _ h hK H locs ls O (lv_sub hl [] rfl)
  rw [if_neg hc20] at h
  refine lv_iload_n hx hb dX12_plot_23 rfl (lv_at hl 2 rfl) ?_
  refine lv_i2l (v := a2.toInt64) hx hb dX12_plot_24 rfl ?_
  refine lv_lconst (v := (0 : Int64)) hx hb dX12_plot_25 (by decide) ?_
  refine lv_ldc2 (v := (2 : Int64)) hx hb X.2.2.2.1 (X.2.2.2.2.1 _ ct_X12_281) dX12_plot_26 ?_
  obtain ⟨t5, ht5, h⟩ := Option.bind_eq_some_iff.mp h
  refine xr_callS (rest := []) X O (T_X12_within l κ a2.toInt64 (0 : Int64) (2 : Int64) t4.2 _ _ ht5) lk_X12_145 (Nat.le_of_ble_eq_true rfl) rfl hl.1 rfl (Nat.le_of_ble_eq_true rfl) dX12_plot_29 ⟨Nat.le_of_ble_eq_true rfl, Nat.le_of_ble_eq_true rfl⟩ (fun H locs O => ?_)
  refine W.eq (g2 := F0 m 32 ls [.int t5.1]) rfl ?_
  refine lv_if_eq (tgt := 51) hx hb dX12_plot_32 (by decide) (fun hc32 => ?_) (fun hc32 => ?_)
  · rw [if_pos hc32] at h
    exact F_X12_plot_51_ok X hr hlk  t5.2 _ h hK H locs ls O (lv_sub hl [] rfl)
  rw [if_neg hc32] at h
  refine lv_aload_n hx hb dX12_plot_35 rfl (lv_at hl 0 rfl) ?_
  obtain ⟨t6, ht6, h⟩ := Option.bind_eq_some_iff.mp h
  refine xr_getP X O ht6 fl_X12_13 dX12_plot_36 ?_
  refine lv_bipush (v := (13 : Int32)) hx hb dX12_plot_39 (by decide) ?_
  refine lv_iconst (v := (3 : Int32)) hx hb dX12_plot_41 (by decide) ?_
  refine lv_iload_n hx hb dX12_plot_42 rfl (lv_at hl 1 rfl) ?_
  refine lv_imul hx hb dX12_plot_43 ?_
  refine lv_iadd hx hb dX12_plot_44 ?_
  refine lv_iload_n hx hb dX12_plot_45 rfl (lv_at hl 2 rfl) ?_
  refine lv_iadd hx hb dX12_plot_46 ?_
  obtain ⟨t7, ht7, h⟩ := Option.bind_eq_some_iff.mp h
  refine xr_aldI X O ht7 dX12_plot_47 ?_
  refine lv_goto (tgt := 53) hx hb dX12_plot_48 (by decide) ?_
  rw [← Option.some.inj h] at hK
  have hK : (t7, t5.2) = (ro, mo) := hK
  obtain ⟨hK1, hK2⟩ := Prod.mk.inj hK
  rw [hK2] at O
  refine xr_top (w := .int ro) (by rw [hK1]) ?_
  exact xr_iret X hr hlk O dX12_plot_53
def F_X12_level (a0 : Nat) (a1 : Int32) (M : xM) : Option (Int32 × xM) :=
(xpI M a0 12 0 (0 : Int32)).bind fun t1 =>
(F_X12_within a1.toInt64 (0 : Int64) (999 : Int64) t1).bind fun t2 =>
if t2.1 = 0 then (
some ((-3 : Int32), t2.2))
else (
(xgP t2.2 a0 12 1).bind fun t3 =>
(xaI t2.2 20 t3 (106 : Int32)).bind fun t4 =>
(xck t2.2 a0 12).bind fun _ =>
(F_X12_levelOf a0 a1 t4 t2.2).bind fun t6 =>
some (t6.1, t6.2))
set_option maxRecDepth 100000 in
set_option maxHeartbeats 4000000 in
theorem T_X12_level (l : Launch) (κ : xQ) (a0 : Nat) (a1 : Int32) (M : xM) (ro : Int32) (mo : xM) (h : F_X12_level a0 a1 M = some (ro, mo)) : xC l yX12_level cX12_level 2 (some .int) 5 0 0 κ [.ref (κ.1 + a0), .int a1] M (some (.int ro)) mo := by
  refine xC_of rfl (Nat.le_of_ble_eq_true rfl) fun p e s m args below meth c X hr hlk hnm H locs ls O hl => ?_
  have X : xX p s m args c cX12_level 2 RX12 κ := X
  have hl : lv_has ls 2 [(0, .ref (κ.1 + a0)), (1, .int a1)] := hl
  have hx := X.1
  have hb := X.2.1
  obtain ⟨x, hx0⟩ : ∃ x, (ro, mo) = x := ⟨_, rfl⟩
  rw [hx0] at h
  have hK : x = (ro, mo) := hx0.symm
  unfold F_X12_level at h
  refine lv_aload_n hx hb dX12_level_0 rfl (lv_at hl 0 rfl) ?_
  refine lv_iconst (v := (0 : Int32)) hx hb dX12_level_1 (by decide) ?_
  obtain ⟨t1, ht1, h⟩ := Option.bind_eq_some_iff.mp h
  refine xr_putI X O ht1 fl_X12_1 dX12_level_2 (fun H locs O => ?_)
  refine lv_iload_n hx hb dX12_level_5 rfl (lv_at hl 1 rfl) ?_
  refine lv_i2l (v := a1.toInt64) hx hb dX12_level_6 rfl ?_
  refine lv_lconst (v := (0 : Int64)) hx hb dX12_level_7 (by decide) ?_
  refine lv_ldc2 (v := (999 : Int64)) hx hb X.2.2.2.1 (X.2.2.2.2.1 _ ct_X12_283) dX12_level_8 ?_
  obtain ⟨t2, ht2, h⟩ := Option.bind_eq_some_iff.mp h
  refine xr_callS (rest := []) X O (T_X12_within l κ a1.toInt64 (0 : Int64) (999 : Int64) t1 _ _ ht2) lk_X12_145 (Nat.le_of_ble_eq_true rfl) rfl hl.1 rfl (Nat.le_of_ble_eq_true rfl) dX12_level_11 ⟨Nat.le_of_ble_eq_true rfl, Nat.le_of_ble_eq_true rfl⟩ (fun H locs O => ?_)
  refine W.eq (g2 := F0 m 14 ls [.int t2.1]) rfl ?_
  refine lv_if_eq (tgt := 32) hx hb dX12_level_14 (by decide) (fun hc14 => ?_) (fun hc14 => ?_)
  · rw [if_pos hc14] at h
    refine lv_bipush (v := (-3 : Int32)) hx hb dX12_level_32 (by decide) ?_
    rw [← Option.some.inj h] at hK
    have hK : ((-3 : Int32), t2.2) = (ro, mo) := hK
    obtain ⟨hK1, hK2⟩ := Prod.mk.inj hK
    rw [hK2] at O
    refine xr_top (w := .int ro) (by rw [hK1]) ?_
    exact xr_iret X hr hlk O dX12_level_34
  rw [if_neg hc14] at h
  refine lv_aload_n hx hb dX12_level_17 rfl (lv_at hl 0 rfl) ?_
  refine lv_iload_n hx hb dX12_level_18 rfl (lv_at hl 1 rfl) ?_
  refine lv_aload_n hx hb dX12_level_19 rfl (lv_at hl 0 rfl) ?_
  obtain ⟨t3, ht3, h⟩ := Option.bind_eq_some_iff.mp h
  refine xr_getP X O ht3 fl_X12_13 dX12_level_20 ?_
  refine lv_bipush (v := (106 : Int32)) hx hb dX12_level_23 (by decide) ?_
  obtain ⟨t4, ht4, h⟩ := Option.bind_eq_some_iff.mp h
  refine xr_aldI X O ht4 dX12_level_25 ?_
  obtain ⟨_, hut5, h⟩ := Option.bind_eq_some_iff.mp h
  obtain ⟨t6, ht6, h⟩ := Option.bind_eq_some_iff.mp h
  refine xr_callV (rest := []) X O (T_X12_levelOf l κ a0 a1 t4 t2.2 _ _ ht6) lk_X12_263 hut5 (Nat.le_of_ble_eq_true rfl) rfl hl.1 rfl (Nat.le_of_ble_eq_true rfl) dX12_level_26 ⟨Nat.le_of_ble_eq_true rfl, Nat.le_of_ble_eq_true rfl⟩ (fun H locs O => ?_)
  refine W.eq (g2 := F0 m 29 ls [.int t6.1]) rfl ?_
  refine lv_goto (tgt := 34) hx hb dX12_level_29 (by decide) ?_
  rw [← Option.some.inj h] at hK
  have hK : (t6.1, t6.2) = (ro, mo) := hK
  obtain ⟨hK1, hK2⟩ := Prod.mk.inj hK
  rw [hK2] at O
  refine xr_top (w := .int ro) (by rw [hK1]) ?_
  exact xr_iret X hr hlk O dX12_level_34
def F_X12_wet (a0 : Nat) (a1 : Int32) (M : xM) : Option (Int32 × xM) :=
(xpI M a0 12 0 (0 : Int32)).bind fun t1 =>
(F_X12_within a1.toInt64 (0 : Int64) (10 : Int64) t1).bind fun t2 =>
if t2.1 = 0 then (
some ((-3 : Int32), t2.2))
else (
(xck t2.2 a0 12).bind fun _ =>
(F_X12_begins a0 t2.2).bind fun t4 =>
(xck t4 a0 12).bind fun _ =>
(F_X12_wetOf a0 a1 t4).bind fun t6 =>
some (t6.1, t6.2))
set_option maxRecDepth 100000 in
set_option maxHeartbeats 4000000 in
theorem T_X12_wet (l : Launch) (κ : xQ) (a0 : Nat) (a1 : Int32) (M : xM) (ro : Int32) (mo : xM) (h : F_X12_wet a0 a1 M = some (ro, mo)) : xC l yX12_wet cX12_wet 2 (some .int) 6 0 0 κ [.ref (κ.1 + a0), .int a1] M (some (.int ro)) mo := by
  refine xC_of rfl (Nat.le_of_ble_eq_true rfl) fun p e s m args below meth c X hr hlk hnm H locs ls O hl => ?_
  have X : xX p s m args c cX12_wet 2 RX12 κ := X
  have hl : lv_has ls 2 [(0, .ref (κ.1 + a0)), (1, .int a1)] := hl
  have hx := X.1
  have hb := X.2.1
  obtain ⟨x, hx0⟩ : ∃ x, (ro, mo) = x := ⟨_, rfl⟩
  rw [hx0] at h
  have hK : x = (ro, mo) := hx0.symm
  unfold F_X12_wet at h
  refine lv_aload_n hx hb dX12_wet_0 rfl (lv_at hl 0 rfl) ?_
  refine lv_iconst (v := (0 : Int32)) hx hb dX12_wet_1 (by decide) ?_
  obtain ⟨t1, ht1, h⟩ := Option.bind_eq_some_iff.mp h
  refine xr_putI X O ht1 fl_X12_1 dX12_wet_2 (fun H locs O => ?_)
  refine lv_iload_n hx hb dX12_wet_5 rfl (lv_at hl 1 rfl) ?_
  refine lv_i2l (v := a1.toInt64) hx hb dX12_wet_6 rfl ?_
  refine lv_lconst (v := (0 : Int64)) hx hb dX12_wet_7 (by decide) ?_
  refine lv_ldc2 (v := (10 : Int64)) hx hb X.2.2.2.1 (X.2.2.2.2.1 _ ct_X12_285) dX12_wet_8 ?_
  obtain ⟨t2, ht2, h⟩ := Option.bind_eq_some_iff.mp h
  refine xr_callS (rest := []) X O (T_X12_within l κ a1.toInt64 (0 : Int64) (10 : Int64) t1 _ _ ht2) lk_X12_145 (Nat.le_of_ble_eq_true rfl) rfl hl.1 rfl (Nat.le_of_ble_eq_true rfl) dX12_wet_11 ⟨Nat.le_of_ble_eq_true rfl, Nat.le_of_ble_eq_true rfl⟩ (fun H locs O => ?_)
  refine W.eq (g2 := F0 m 14 ls [.int t2.1]) rfl ?_
  refine lv_if_ne (tgt := 20) hx hb dX12_wet_14 (by decide) (fun hc14 => ?_) (fun hc14 => ?_)
  · rw [if_neg hc14] at h
    refine lv_aload_n hx hb dX12_wet_20 rfl (lv_at hl 0 rfl) ?_
    obtain ⟨_, hut3, h⟩ := Option.bind_eq_some_iff.mp h
    obtain ⟨t4, ht4, h⟩ := Option.bind_eq_some_iff.mp h
    refine xr_callV (rest := []) X O (T_X12_begins l κ a0 t2.2 _ ht4) lk_X12_272 hut3 (Nat.le_of_ble_eq_true rfl) rfl hl.1 rfl (Nat.le_of_ble_eq_true rfl) dX12_wet_21 ⟨Nat.le_of_ble_eq_true rfl, Nat.le_of_ble_eq_true rfl⟩ (fun H locs O => ?_)
    refine W.eq (g2 := F0 m 24 ls []) rfl ?_
    refine lv_aload_n hx hb dX12_wet_24 rfl (lv_at hl 0 rfl) ?_
    refine lv_iload_n hx hb dX12_wet_25 rfl (lv_at hl 1 rfl) ?_
    obtain ⟨_, hut5, h⟩ := Option.bind_eq_some_iff.mp h
    obtain ⟨t6, ht6, h⟩ := Option.bind_eq_some_iff.mp h
    refine xr_callV (rest := []) X O (T_X12_wetOf l κ a0 a1 t4 _ _ ht6) lk_X12_266 hut5 (Nat.le_of_ble_eq_true rfl) rfl hl.1 rfl (Nat.le_of_ble_eq_true rfl) dX12_wet_26 ⟨Nat.le_of_ble_eq_true rfl, Nat.le_of_ble_eq_true rfl⟩ (fun H locs O => ?_)
    refine W.eq (g2 := F0 m 29 ls [.int t6.1]) rfl ?_
    rw [← Option.some.inj h] at hK
    have hK : (t6.1, t6.2) = (ro, mo) := hK
    obtain ⟨hK1, hK2⟩ := Prod.mk.inj hK
    rw [hK2] at O
    refine xr_top (w := .int ro) (by rw [hK1]) ?_
    exact xr_iret X hr hlk O dX12_wet_29
  rw [if_pos hc14] at h
  refine lv_bipush (v := (-3 : Int32)) hx hb dX12_wet_17 (by decide) ?_
  rw [← Option.some.inj h] at hK
  have hK : ((-3 : Int32), t2.2) = (ro, mo) := hK
  obtain ⟨hK1, hK2⟩ := Prod.mk.inj hK
  rw [hK2] at O
  refine xr_top (w := .int ro) (by rw [hK1]) ?_
  exact xr_iret X hr hlk O dX12_wet_19
def F_X12_stores_29 (M : xM) : Option (xM) :=
some M
def F_X12_stores_2b (v0 : Nat) : (Int32 × xM) → Option ((Int32 × xM) ⊕ (xM)) := fun ⟨v1, M⟩ =>
if (41 : Int32) ≤ v1 then (
(F_X12_stores_29 M).map Sum.inr)
else (
(xgP M v0 12 22).bind fun t1 =>
(xgP M v0 12 1).bind fun t2 =>
(xaI M 20 t2 ((67 : Int32) + v1)).bind fun t3 =>
(xsI M t1 v1 t3).bind fun t4 =>
some (.inl ((v1 + 1), t4)))
def F_X12_stores_2 (v0 : Nat) (v1 : Int32) (M : xM) : Option (xM) := xit (F_X12_stores_2b v0) xFU (v1, M)
def F_X12_stores (a0 : Nat) (M : xM) : Option (xM) :=
F_X12_stores_2 a0 (0 : Int32) M
set_option maxRecDepth 100000 in
set_option maxHeartbeats 4000000 in
theorem F_X12_stores_29_ok (X : xX p s m args c cX12_stores 2 RX12 κ) (hr : meth.sig.returnType = none) (hlk : meth.locks = false) {mo : xM} (M : xM) (x : xM) (h : F_X12_stores_29 M = some x) (hK : (fun o => o = mo) x) (H : Heap) (locs : List Loc) (ls : Array Slot) (O : xO κ s M H locs) (hl : lv_has ls 2 []) : W p l e (xRm 2 0 0) s m args below meth c H locs 0 0 (xQf below args s 0 0 κ none mo) (F0 m 29 ls []) := by
  unfold F_X12_stores_29 at h
  have hx := X.1
  have hb := X.2.1
  rw [← Option.some.inj h] at hK
  have hK : M = mo := hK
  rw [hK] at O
  exact xr_vret X hr hlk O dX12_stores_29
set_option maxRecDepth 100000 in
set_option maxHeartbeats 4000000 in
theorem F_X12_stores_2_bok (X : xX p s m args c cX12_stores 2 RX12 κ) (hr : meth.sig.returnType = none) (hlk : meth.locks = false) {mo : xM} (v0 : Nat) (v1 : Int32) {W2 : Int32 × xM → Prop} (hW2 : ∀ (v1 : Int32) (M : xM), W2 (v1, M) → ∀ (H : Heap) (locs : List Loc) (ls : Array Slot), xO κ s M H locs → lv_has ls 2 [(0, .ref (κ.1 + v0)), (1, .int v1)] → W p l e (xRm 2 0 0) s m args below meth c H locs 0 0 (xQf below args s 0 0 κ none mo) (F0 m 2 ls [])) (M : xM) (x : (Int32 × xM) ⊕ (xM)) (h : F_X12_stores_2b v0 (v1, M) = some x) (hK : (xKl W2 (fun o => o = mo)) x) (H : Heap) (locs : List Loc) (ls : Array Slot) (O : xO κ s M H locs) (hl : lv_has ls 2 [(0, .ref (κ.1 + v0)), (1, .int v1)]) : W p l e (xRm 2 0 0) s m args below meth c H locs 0 0 (xQf below args s 0 0 κ none mo) (F0 m 2 ls []) := by
  unfold F_X12_stores_2b at h
  dsimp only at h
  have hx := X.1
  have hb := X.2.1
  refine lv_iload_n hx hb dX12_stores_2 rfl (lv_at hl 1 rfl) ?_
  refine lv_bipush (v := (41 : Int32)) hx hb dX12_stores_3 (by decide) ?_
  refine lv_icmp_ge (tgt := 29) hx hb dX12_stores_5 (by decide) (fun hc5 => ?_) (fun hc5 => ?_)
  · rw [if_pos hc5] at h
    obtain ⟨_, hw0, ew0⟩ := Option.map_eq_some_iff.mp h
    rw [← ew0] at hK
    have h := hw0
    exact F_X12_stores_29_ok X hr hlk  M _ h hK H locs ls O (lv_sub hl [] rfl)
  rw [if_neg hc5] at h
  refine lv_aload_n hx hb dX12_stores_8 rfl (lv_at hl 0 rfl) ?_
  obtain ⟨t1, ht1, h⟩ := Option.bind_eq_some_iff.mp h
  refine xr_getP X O ht1 fl_X12_42 dX12_stores_9 ?_
  refine lv_iload_n hx hb dX12_stores_12 rfl (lv_at hl 1 rfl) ?_
  refine lv_aload_n hx hb dX12_stores_13 rfl (lv_at hl 0 rfl) ?_
  obtain ⟨t2, ht2, h⟩ := Option.bind_eq_some_iff.mp h
  refine xr_getP X O ht2 fl_X12_13 dX12_stores_14 ?_
  refine lv_bipush (v := (67 : Int32)) hx hb dX12_stores_17 (by decide) ?_
  refine lv_iload_n hx hb dX12_stores_19 rfl (lv_at hl 1 rfl) ?_
  refine lv_iadd hx hb dX12_stores_20 ?_
  obtain ⟨t3, ht3, h⟩ := Option.bind_eq_some_iff.mp h
  refine xr_aldI X O ht3 dX12_stores_21 ?_
  obtain ⟨t4, ht4, h⟩ := Option.bind_eq_some_iff.mp h
  refine xr_stI X O ht4 dX12_stores_22 (fun H locs O => ?_)
  refine lv_iinc (v := (v1 + 1)) (lv' := [(1, .int (v1 + 1)), (0, .ref (κ.1 + v0))]) hx hb dX12_stores_23 hl (k := 1) rfl rfl (by decide) rfl (fun ls hl => ?_)
  refine lv_goto (tgt := 2) hx hb dX12_stores_26 (by decide) ?_
  rw [← Option.some.inj h] at hK
  exact hW2 (v1 + 1) t4 hK H locs ls O (lv_sub hl [1, 0] rfl)
set_option maxRecDepth 100000 in
set_option maxHeartbeats 4000000 in
theorem F_X12_stores_2_ok (X : xX p s m args c cX12_stores 2 RX12 κ) (hr : meth.sig.returnType = none) (hlk : meth.locks = false) {mo : xM} (v0 : Nat) (v1 : Int32) (M : xM) (x : xM) (h : F_X12_stores_2 v0 v1 M = some x) (hK : (fun o => o = mo) x) (H : Heap) (locs : List Loc) (ls : Array Slot) (O : xO κ s M H locs) (hl : lv_has ls 2 [(0, .ref (κ.1 + v0)), (1, .int v1)]) : W p l e (xRm 2 0 0) s m args below meth c H locs 0 0 (xQf below args s 0 0 κ none mo) (F0 m 2 ls []) := by
  refine xit_K (Wh := fun x => ∀ (H : Heap) (locs : List Loc) (ls : Array Slot), xO κ s x.2 H locs → lv_has ls 2 [(0, .ref (κ.1 + v0)), (1, .int x.1)] → W p l e (xRm 2 0 0) s m args below meth c H locs 0 0 (xQf below args s 0 0 κ none mo) (F0 m 2 ls [])) (Kp := (fun o => o = mo)) ?_ xFU (v1, M) x h hK H locs ls O hl
  intro y x h hK H locs ls O hl
  exact F_X12_stores_2_bok X hr hlk v0 y.1 (fun _ _ hw => hw) y.2 x h hK H locs ls O hl
set_option maxRecDepth 100000 in
set_option maxHeartbeats 4000000 in
theorem T_X12_stores (l : Launch) (κ : xQ) (a0 : Nat) (M : xM) (mo : xM) (h : F_X12_stores a0 M = some mo) : xC l yX12_stores cX12_stores 2 none 2 0 0 κ [.ref (κ.1 + a0)] M none mo := by
  refine xC_of rfl (Nat.le_of_ble_eq_true rfl) fun p e s m args below meth c X hr hlk hnm H locs ls O hl => ?_
  have X : xX p s m args c cX12_stores 2 RX12 κ := X
  have hl : lv_has ls 2 [(0, .ref (κ.1 + a0))] := hl
  have hx := X.1
  have hb := X.2.1
  obtain ⟨x, hx0⟩ : ∃ x, mo = x := ⟨_, rfl⟩
  rw [hx0] at h
  have hK : x = mo := hx0.symm
  unfold F_X12_stores at h
  refine lv_iconst (v := (0 : Int32)) hx hb dX12_stores_0 (by decide) ?_
  refine lv_istore_n (lv' := [(1, .int (0 : Int32)), (0, .ref (κ.1 + a0))]) hx hb dX12_stores_1 rfl hl (by decide) rfl (fun ls hl => ?_)
  exact F_X12_stores_2_ok X hr hlk a0 (0 : Int32) M _ h hK H locs ls O (lv_sub hl [1, 0] rfl)
def F_X12_isAgain_29 (M : xM) : Option (xM) :=
some M
def F_X12_isAgain_2b (v0 : Nat) : (Int32 × xM) → Option ((Int32 × xM) ⊕ (xM)) := fun ⟨v1, M⟩ =>
if (41 : Int32) ≤ v1 then (
(F_X12_isAgain_29 M).map Sum.inr)
else (
(xgP M v0 12 1).bind fun t1 =>
(xgP M v0 12 22).bind fun t2 =>
(xaI M 20 t2 v1).bind fun t3 =>
(xsI M t1 ((67 : Int32) + v1) t3).bind fun t4 =>
some (.inl ((v1 + 1), t4)))
def F_X12_isAgain_2 (v0 : Nat) (v1 : Int32) (M : xM) : Option (xM) := xit (F_X12_isAgain_2b v0) xFU (v1, M)
def F_X12_isAgain (a0 : Nat) (M : xM) : Option (xM) :=
F_X12_isAgain_2 a0 (0 : Int32) M
set_option maxRecDepth 100000 in
set_option maxHeartbeats 4000000 in
theorem F_X12_isAgain_29_ok (X : xX p s m args c cX12_isAgain 2 RX12 κ) (hr : meth.sig.returnType = none) (hlk : meth.locks = false) {mo : xM} (M : xM) (x : xM) (h : F_X12_isAgain_29 M = some x) (hK : (fun o => o = mo) x) (H : Heap) (locs : List Loc) (ls : Array Slot) (O : xO κ s M H locs) (hl : lv_has ls 2 []) : W p l e (xRm 2 0 0) s m args below meth c H locs 0 0 (xQf below args s 0 0 κ none mo) (F0 m 29 ls []) := by
  unfold F_X12_isAgain_29 at h
  have hx := X.1
  have hb := X.2.1
  rw [← Option.some.inj h] at hK
  have hK : M = mo := hK
  rw [hK] at O
  exact xr_vret X hr hlk O dX12_isAgain_29
set_option maxRecDepth 100000 in
set_option maxHeartbeats 4000000 in
theorem F_X12_isAgain_2_bok (X : xX p s m args c cX12_isAgain 2 RX12 κ) (hr : meth.sig.returnType = none) (hlk : meth.locks = false) {mo : xM} (v0 : Nat) (v1 : Int32) {W2 : Int32 × xM → Prop} (hW2 : ∀ (v1 : Int32) (M : xM), W2 (v1, M) → ∀ (H : Heap) (locs : List Loc) (ls : Array Slot), xO κ s M H locs → lv_has ls 2 [(0, .ref (κ.1 + v0)), (1, .int v1)] → W p l e (xRm 2 0 0) s m args below meth c H locs 0 0 (xQf below args s 0 0 κ none mo) (F0 m 2 ls [])) (M : xM) (x : (Int32 × xM) ⊕ (xM)) (h : F_X12_isAgain_2b v0 (v1, M) = some x) (hK : (xKl W2 (fun o => o = mo)) x) (H : Heap) (locs : List Loc) (ls : Array Slot) (O : xO κ s M H locs) (hl : lv_has ls 2 [(0, .ref (κ.1 + v0)), (1, .int v1)]) : W p l e (xRm 2 0 0) s m args below meth c H locs 0 0 (xQf below args s 0 0 κ none mo) (F0 m 2 ls []) := by
  unfold F_X12_isAgain_2b at h
  dsimp only at h
  have hx := X.1
  have hb := X.2.1
  refine lv_iload_n hx hb dX12_isAgain_2 rfl (lv_at hl 1 rfl) ?_
  refine lv_bipush (v := (41 : Int32)) hx hb dX12_isAgain_3 (by decide) ?_
  refine lv_icmp_ge (tgt := 29) hx hb dX12_isAgain_5 (by decide) (fun hc5 => ?_) (fun hc5 => ?_)
  · rw [if_pos hc5] at h
    obtain ⟨_, hw0, ew0⟩ := Option.map_eq_some_iff.mp h
    rw [← ew0] at hK
    have h := hw0
    exact F_X12_isAgain_29_ok X hr hlk  M _ h hK H locs ls O (lv_sub hl [] rfl)
  rw [if_neg hc5] at h
  refine lv_aload_n hx hb dX12_isAgain_8 rfl (lv_at hl 0 rfl) ?_
  obtain ⟨t1, ht1, h⟩ := Option.bind_eq_some_iff.mp h
  refine xr_getP X O ht1 fl_X12_13 dX12_isAgain_9 ?_
  refine lv_bipush (v := (67 : Int32)) hx hb dX12_isAgain_12 (by decide) ?_
  refine lv_iload_n hx hb dX12_isAgain_14 rfl (lv_at hl 1 rfl) ?_
  refine lv_iadd hx hb dX12_isAgain_15 ?_
  refine lv_aload_n hx hb dX12_isAgain_16 rfl (lv_at hl 0 rfl) ?_
  obtain ⟨t2, ht2, h⟩ := Option.bind_eq_some_iff.mp h
  refine xr_getP X O ht2 fl_X12_42 dX12_isAgain_17 ?_
  refine lv_iload_n hx hb dX12_isAgain_20 rfl (lv_at hl 1 rfl) ?_
  obtain ⟨t3, ht3, h⟩ := Option.bind_eq_some_iff.mp h
  refine xr_aldI X O ht3 dX12_isAgain_21 ?_
  obtain ⟨t4, ht4, h⟩ := Option.bind_eq_some_iff.mp h
  refine xr_stI X O ht4 dX12_isAgain_22 (fun H locs O => ?_)
  refine lv_iinc (v := (v1 + 1)) (lv' := [(1, .int (v1 + 1)), (0, .ref (κ.1 + v0))]) hx hb dX12_isAgain_23 hl (k := 1) rfl rfl (by decide) rfl (fun ls hl => ?_)
  refine lv_goto (tgt := 2) hx hb dX12_isAgain_26 (by decide) ?_
  rw [← Option.some.inj h] at hK
  exact hW2 (v1 + 1) t4 hK H locs ls O (lv_sub hl [1, 0] rfl)
set_option maxRecDepth 100000 in
set_option maxHeartbeats 4000000 in
theorem F_X12_isAgain_2_ok (X : xX p s m args c cX12_isAgain 2 RX12 κ) (hr : meth.sig.returnType = none) (hlk : meth.locks = false) {mo : xM} (v0 : Nat) (v1 : Int32) (M : xM) (x : xM) (h : F_X12_isAgain_2 v0 v1 M = some x) (hK : (fun o => o = mo) x) (H : Heap) (locs : List Loc) (ls : Array Slot) (O : xO κ s M H locs) (hl : lv_has ls 2 [(0, .ref (κ.1 + v0)), (1, .int v1)]) : W p l e (xRm 2 0 0) s m args below meth c H locs 0 0 (xQf below args s 0 0 κ none mo) (F0 m 2 ls []) := by
  refine xit_K (Wh := fun x => ∀ (H : Heap) (locs : List Loc) (ls : Array Slot), xO κ s x.2 H locs → lv_has ls 2 [(0, .ref (κ.1 + v0)), (1, .int x.1)] → W p l e (xRm 2 0 0) s m args below meth c H locs 0 0 (xQf below args s 0 0 κ none mo) (F0 m 2 ls [])) (Kp := (fun o => o = mo)) ?_ xFU (v1, M) x h hK H locs ls O hl
  intro y x h hK H locs ls O hl
  exact F_X12_isAgain_2_bok X hr hlk v0 y.1 (fun _ _ hw => hw) y.2 x h hK H locs ls O hl
set_option maxRecDepth 100000 in
set_option maxHeartbeats 4000000 in
theorem T_X12_isAgain (l : Launch) (κ : xQ) (a0 : Nat) (M : xM) (mo : xM) (h : F_X12_isAgain a0 M = some mo) : xC l yX12_isAgain cX12_isAgain 2 none 2 0 0 κ [.ref (κ.1 + a0)] M none mo := by
  refine xC_of rfl (Nat.le_of_ble_eq_true rfl) fun p e s m args below meth c X hr hlk hnm H locs ls O hl => ?_
  have X : xX p s m args c cX12_isAgain 2 RX12 κ := X
  have hl : lv_has ls 2 [(0, .ref (κ.1 + a0))] := hl
  have hx := X.1
  have hb := X.2.1
  obtain ⟨x, hx0⟩ : ∃ x, mo = x := ⟨_, rfl⟩
  rw [hx0] at h
  have hK : x = mo := hx0.symm
  unfold F_X12_isAgain at h
  refine lv_iconst (v := (0 : Int32)) hx hb dX12_isAgain_0 (by decide) ?_
  refine lv_istore_n (lv' := [(1, .int (0 : Int32)), (0, .ref (κ.1 + a0))]) hx hb dX12_isAgain_1 rfl hl (by decide) rfl (fun ls hl => ?_)
  exact F_X12_isAgain_2_ok X hr hlk a0 (0 : Int32) M _ h hK H locs ls O (lv_sub hl [1, 0] rfl)
def F_X12_notes_97 (v0 : Nat) (M : xM) : Option (xM) :=
(xgP M v0 12 1).bind fun t16 =>
(xaI M 20 t16 (108 : Int32)).bind fun t17 =>
(xsI M t16 (108 : Int32) (t17 + (1 : Int32))).bind fun t18 =>
some t18
def F_X12_notes_59b (v0 : Nat) : (Int32 × xM) → Option ((Int32 × xM) ⊕ (xM)) := fun ⟨v1, M⟩ =>
if (41 : Int32) ≤ v1 then (
(F_X12_notes_97 v0 M).map Sum.inr)
else (
(xgP M v0 12 1).bind fun t10 =>
(xgP M v0 12 1).bind fun t11 =>
(xaI M 20 t11 (108 : Int32)).bind fun t12 =>
(xgP M v0 12 22).bind fun t13 =>
(xaI M 20 t13 v1).bind fun t14 =>
(xsI M t10 (((109 : Int32) + ((41 : Int32) * t12)) + v1) t14).bind fun t15 =>
some (.inl ((v1 + 1), t15)))
def F_X12_notes_59 (v0 : Nat) (v1 : Int32) (M : xM) : Option (xM) := xit (F_X12_notes_59b v0) xFU (v1, M)
def F_X12_notes_57 (v0 : Nat) (M : xM) : Option (xM) :=
F_X12_notes_59 v0 (0 : Int32) M
def F_X12_notes_46 (v0 : Nat) (M : xM) : Option (xM) :=
(xgP M v0 12 1).bind fun t7 =>
(xaI M 20 t7 (108 : Int32)).bind fun t8 =>
(xsI M t7 (108 : Int32) (t8 - (1 : Int32))).bind fun t9 =>
F_X12_notes_57 v0 t9
def F_X12_notes_14b (v0 : Nat) : (Int32 × xM) → Option ((Int32 × xM) ⊕ (xM)) := fun ⟨v1, M⟩ =>
if (369 : Int32) ≤ v1 then (
(F_X12_notes_46 v0 M).map Sum.inr)
else (
(xgP M v0 12 1).bind fun t3 =>
(xgP M v0 12 1).bind fun t4 =>
(xaI M 20 t4 ((150 : Int32) + v1)).bind fun t5 =>
(xsI M t3 ((109 : Int32) + v1) t5).bind fun t6 =>
some (.inl ((v1 + 1), t6)))
def F_X12_notes_14 (v0 : Nat) (v1 : Int32) (M : xM) : Option (xM) := xit (F_X12_notes_14b v0) xFU (v1, M)
def F_X12_notes (a0 : Nat) (M : xM) : Option (xM) :=
(xgP M a0 12 1).bind fun t1 =>
(xaI M 20 t1 (108 : Int32)).bind fun t2 =>
if t2 = (10 : Int32) then (
F_X12_notes_14 a0 (0 : Int32) M)
else (
F_X12_notes_57 a0 M)
set_option maxRecDepth 100000 in
set_option maxHeartbeats 4000000 in
theorem F_X12_notes_97_ok (X : xX p s m args c cX12_notes 2 RX12 κ) (hr : meth.sig.returnType = none) (hlk : meth.locks = false) {mo : xM} (v0 : Nat) (M : xM) (x : xM) (h : F_X12_notes_97 v0 M = some x) (hK : (fun o => o = mo) x) (H : Heap) (locs : List Loc) (ls : Array Slot) (O : xO κ s M H locs) (hl : lv_has ls 2 [(0, .ref (κ.1 + v0))]) : W p l e (xRm 2 0 0) s m args below meth c H locs 0 0 (xQf below args s 0 0 κ none mo) (F0 m 97 ls []) := by
  unfold F_X12_notes_97 at h
  have hx := X.1
  have hb := X.2.1
  refine lv_aload_n hx hb dX12_notes_97 rfl (lv_at hl 0 rfl) ?_
  obtain ⟨t16, ht16, h⟩ := Option.bind_eq_some_iff.mp h
  refine xr_getP X O ht16 fl_X12_13 dX12_notes_98 ?_
  refine lv_bipush (v := (108 : Int32)) hx hb dX12_notes_101 (by decide) ?_
  refine lv_dup2_11 hx hb dX12_notes_103 rfl rfl ?_
  obtain ⟨t17, ht17, h⟩ := Option.bind_eq_some_iff.mp h
  refine xr_aldI X O ht17 dX12_notes_104 ?_
  refine lv_iconst (v := (1 : Int32)) hx hb dX12_notes_105 (by decide) ?_
  refine lv_iadd hx hb dX12_notes_106 ?_
  obtain ⟨t18, ht18, h⟩ := Option.bind_eq_some_iff.mp h
  refine xr_stI X O ht18 dX12_notes_107 (fun H locs O => ?_)
  rw [← Option.some.inj h] at hK
  have hK : t18 = mo := hK
  rw [hK] at O
  exact xr_vret X hr hlk O dX12_notes_108
set_option maxRecDepth 100000 in
set_option maxHeartbeats 4000000 in
theorem F_X12_notes_59_bok (X : xX p s m args c cX12_notes 2 RX12 κ) (hr : meth.sig.returnType = none) (hlk : meth.locks = false) {mo : xM} (v0 : Nat) (v1 : Int32) {W59 : Int32 × xM → Prop} (hW59 : ∀ (v1 : Int32) (M : xM), W59 (v1, M) → ∀ (H : Heap) (locs : List Loc) (ls : Array Slot), xO κ s M H locs → lv_has ls 2 [(0, .ref (κ.1 + v0)), (1, .int v1)] → W p l e (xRm 2 0 0) s m args below meth c H locs 0 0 (xQf below args s 0 0 κ none mo) (F0 m 59 ls [])) (M : xM) (x : (Int32 × xM) ⊕ (xM)) (h : F_X12_notes_59b v0 (v1, M) = some x) (hK : (xKl W59 (fun o => o = mo)) x) (H : Heap) (locs : List Loc) (ls : Array Slot) (O : xO κ s M H locs) (hl : lv_has ls 2 [(0, .ref (κ.1 + v0)), (1, .int v1)]) : W p l e (xRm 2 0 0) s m args below meth c H locs 0 0 (xQf below args s 0 0 κ none mo) (F0 m 59 ls []) := by
  unfold F_X12_notes_59b at h
  dsimp only at h
  have hx := X.1
  have hb := X.2.1
  refine lv_iload_n hx hb dX12_notes_59 rfl (lv_at hl 1 rfl) ?_
  refine lv_bipush (v := (41 : Int32)) hx hb dX12_notes_60 (by decide) ?_
  refine lv_icmp_ge (tgt := 97) hx hb dX12_notes_62 (by decide) (fun hc62 => ?_) (fun hc62 => ?_)
  · rw [if_pos hc62] at h
    obtain ⟨_, hw0, ew0⟩ := Option.map_eq_some_iff.mp h
    rw [← ew0] at hK
    have h := hw0
    exact F_X12_notes_97_ok X hr hlk v0 M _ h hK H locs ls O (lv_sub hl [0] rfl)
  rw [if_neg hc62] at h
  refine lv_aload_n hx hb dX12_notes_65 rfl (lv_at hl 0 rfl) ?_
  obtain ⟨t10, ht10, h⟩ := Option.bind_eq_some_iff.mp h
  refine xr_getP X O ht10 fl_X12_13 dX12_notes_66 ?_
  refine lv_bipush (v := (109 : Int32)) hx hb dX12_notes_69 (by decide) ?_
  refine lv_bipush (v := (41 : Int32)) hx hb dX12_notes_71 (by decide) ?_
  refine lv_aload_n hx hb dX12_notes_73 rfl (lv_at hl 0 rfl) ?_
  obtain ⟨t11, ht11, h⟩ := Option.bind_eq_some_iff.mp h
  refine xr_getP X O ht11 fl_X12_13 dX12_notes_74 ?_
  refine lv_bipush (v := (108 : Int32)) hx hb dX12_notes_77 (by decide) ?_
  obtain ⟨t12, ht12, h⟩ := Option.bind_eq_some_iff.mp h
  refine xr_aldI X O ht12 dX12_notes_79 ?_
  refine lv_imul hx hb dX12_notes_80 ?_
  refine lv_iadd hx hb dX12_notes_81 ?_
  refine lv_iload_n hx hb dX12_notes_82 rfl (lv_at hl 1 rfl) ?_
  refine lv_iadd hx hb dX12_notes_83 ?_
  refine lv_aload_n hx hb dX12_notes_84 rfl (lv_at hl 0 rfl) ?_
  obtain ⟨t13, ht13, h⟩ := Option.bind_eq_some_iff.mp h
  refine xr_getP X O ht13 fl_X12_42 dX12_notes_85 ?_
  refine lv_iload_n hx hb dX12_notes_88 rfl (lv_at hl 1 rfl) ?_
  obtain ⟨t14, ht14, h⟩ := Option.bind_eq_some_iff.mp h
  refine xr_aldI X O ht14 dX12_notes_89 ?_
  obtain ⟨t15, ht15, h⟩ := Option.bind_eq_some_iff.mp h
  refine xr_stI X O ht15 dX12_notes_90 (fun H locs O => ?_)
  refine lv_iinc (v := (v1 + 1)) (lv' := [(1, .int (v1 + 1)), (0, .ref (κ.1 + v0))]) hx hb dX12_notes_91 hl (k := 1) rfl rfl (by decide) rfl (fun ls hl => ?_)
  refine lv_goto (tgt := 59) hx hb dX12_notes_94 (by decide) ?_
  rw [← Option.some.inj h] at hK
  exact hW59 (v1 + 1) t15 hK H locs ls O (lv_sub hl [1, 0] rfl)
set_option maxRecDepth 100000 in
set_option maxHeartbeats 4000000 in
theorem F_X12_notes_59_ok (X : xX p s m args c cX12_notes 2 RX12 κ) (hr : meth.sig.returnType = none) (hlk : meth.locks = false) {mo : xM} (v0 : Nat) (v1 : Int32) (M : xM) (x : xM) (h : F_X12_notes_59 v0 v1 M = some x) (hK : (fun o => o = mo) x) (H : Heap) (locs : List Loc) (ls : Array Slot) (O : xO κ s M H locs) (hl : lv_has ls 2 [(0, .ref (κ.1 + v0)), (1, .int v1)]) : W p l e (xRm 2 0 0) s m args below meth c H locs 0 0 (xQf below args s 0 0 κ none mo) (F0 m 59 ls []) := by
  refine xit_K (Wh := fun x => ∀ (H : Heap) (locs : List Loc) (ls : Array Slot), xO κ s x.2 H locs → lv_has ls 2 [(0, .ref (κ.1 + v0)), (1, .int x.1)] → W p l e (xRm 2 0 0) s m args below meth c H locs 0 0 (xQf below args s 0 0 κ none mo) (F0 m 59 ls [])) (Kp := (fun o => o = mo)) ?_ xFU (v1, M) x h hK H locs ls O hl
  intro y x h hK H locs ls O hl
  exact F_X12_notes_59_bok X hr hlk v0 y.1 (fun _ _ hw => hw) y.2 x h hK H locs ls O hl
set_option maxRecDepth 100000 in
set_option maxHeartbeats 4000000 in
theorem F_X12_notes_57_ok (X : xX p s m args c cX12_notes 2 RX12 κ) (hr : meth.sig.returnType = none) (hlk : meth.locks = false) {mo : xM} (v0 : Nat) (M : xM) (x : xM) (h : F_X12_notes_57 v0 M = some x) (hK : (fun o => o = mo) x) (H : Heap) (locs : List Loc) (ls : Array Slot) (O : xO κ s M H locs) (hl : lv_has ls 2 [(0, .ref (κ.1 + v0))]) : W p l e (xRm 2 0 0) s m args below meth c H locs 0 0 (xQf below args s 0 0 κ none mo) (F0 m 57 ls []) := by
  unfold F_X12_notes_57 at h
  have hx := X.1
  have hb := X.2.1
  refine lv_iconst (v := (0 : Int32)) hx hb dX12_notes_57 (by decide) ?_
  refine lv_istore_n (lv' := [(1, .int (0 : Int32)), (0, .ref (κ.1 + v0))]) hx hb dX12_notes_58 rfl hl (by decide) rfl (fun ls hl => ?_)
  exact F_X12_notes_59_ok X hr hlk v0 (0 : Int32) M _ h hK H locs ls O (lv_sub hl [1, 0] rfl)
set_option maxRecDepth 100000 in
set_option maxHeartbeats 4000000 in
theorem F_X12_notes_46_ok (X : xX p s m args c cX12_notes 2 RX12 κ) (hr : meth.sig.returnType = none) (hlk : meth.locks = false) {mo : xM} (v0 : Nat) (M : xM) (x : xM) (h : F_X12_notes_46 v0 M = some x) (hK : (fun o => o = mo) x) (H : Heap) (locs : List Loc) (ls : Array Slot) (O : xO κ s M H locs) (hl : lv_has ls 2 [(0, .ref (κ.1 + v0))]) : W p l e (xRm 2 0 0) s m args below meth c H locs 0 0 (xQf below args s 0 0 κ none mo) (F0 m 46 ls []) := by
  unfold F_X12_notes_46 at h
  have hx := X.1
  have hb := X.2.1
  refine lv_aload_n hx hb dX12_notes_46 rfl (lv_at hl 0 rfl) ?_
  obtain ⟨t7, ht7, h⟩ := Option.bind_eq_some_iff.mp h
  refine xr_getP X O ht7 fl_X12_13 dX12_notes_47 ?_
  refine lv_bipush (v := (108 : Int32)) hx hb dX12_notes_50 (by decide) ?_
  refine lv_dup2_11 hx hb dX12_notes_52 rfl rfl ?_
  obtain ⟨t8, ht8, h⟩ := Option.bind_eq_some_iff.mp h
  refine xr_aldI X O ht8 dX12_notes_53 ?_
  refine lv_iconst (v := (1 : Int32)) hx hb dX12_notes_54 (by decide) ?_
  refine lv_isub hx hb dX12_notes_55 ?_
  obtain ⟨t9, ht9, h⟩ := Option.bind_eq_some_iff.mp h
  refine xr_stI X O ht9 dX12_notes_56 (fun H locs O => ?_)
  exact F_X12_notes_57_ok X hr hlk v0 t9 _ h hK H locs ls O (lv_sub hl [0] rfl)
set_option maxRecDepth 100000 in
set_option maxHeartbeats 4000000 in
theorem F_X12_notes_14_bok (X : xX p s m args c cX12_notes 2 RX12 κ) (hr : meth.sig.returnType = none) (hlk : meth.locks = false) {mo : xM} (v0 : Nat) (v1 : Int32) {W14 : Int32 × xM → Prop} (hW14 : ∀ (v1 : Int32) (M : xM), W14 (v1, M) → ∀ (H : Heap) (locs : List Loc) (ls : Array Slot), xO κ s M H locs → lv_has ls 2 [(0, .ref (κ.1 + v0)), (1, .int v1)] → W p l e (xRm 2 0 0) s m args below meth c H locs 0 0 (xQf below args s 0 0 κ none mo) (F0 m 14 ls [])) (M : xM) (x : (Int32 × xM) ⊕ (xM)) (h : F_X12_notes_14b v0 (v1, M) = some x) (hK : (xKl W14 (fun o => o = mo)) x) (H : Heap) (locs : List Loc) (ls : Array Slot) (O : xO κ s M H locs) (hl : lv_has ls 2 [(0, .ref (κ.1 + v0)), (1, .int v1)]) : W p l e (xRm 2 0 0) s m args below meth c H locs 0 0 (xQf below args s 0 0 κ none mo) (F0 m 14 ls []) := by
  unfold F_X12_notes_14b at h
  dsimp only at h
  have hx := X.1
  have hb := X.2.1
  refine lv_iload_n hx hb dX12_notes_14 rfl (lv_at hl 1 rfl) ?_
  refine lv_sipush (v := (369 : Int32)) hx hb dX12_notes_15 (by decide) ?_
  refine lv_icmp_ge (tgt := 46) hx hb dX12_notes_18 (by decide) (fun hc18 => ?_) (fun hc18 => ?_)
  · rw [if_pos hc18] at h
    obtain ⟨_, hw0, ew0⟩ := Option.map_eq_some_iff.mp h
    rw [← ew0] at hK
    have h := hw0
    exact F_X12_notes_46_ok X hr hlk v0 M _ h hK H locs ls O (lv_sub hl [0] rfl)
  rw [if_neg hc18] at h
  refine lv_aload_n hx hb dX12_notes_21 rfl (lv_at hl 0 rfl) ?_
  obtain ⟨t3, ht3, h⟩ := Option.bind_eq_some_iff.mp h
  refine xr_getP X O ht3 fl_X12_13 dX12_notes_22 ?_
  refine lv_bipush (v := (109 : Int32)) hx hb dX12_notes_25 (by decide) ?_
  refine lv_iload_n hx hb dX12_notes_27 rfl (lv_at hl 1 rfl) ?_
  refine lv_iadd hx hb dX12_notes_28 ?_
  refine lv_aload_n hx hb dX12_notes_29 rfl (lv_at hl 0 rfl) ?_
  obtain ⟨t4, ht4, h⟩ := Option.bind_eq_some_iff.mp h
  refine xr_getP X O ht4 fl_X12_13 dX12_notes_30 ?_
  refine lv_sipush (v := (150 : Int32)) hx hb dX12_notes_33 (by decide) ?_
  refine lv_iload_n hx hb dX12_notes_36 rfl (lv_at hl 1 rfl) ?_
  refine lv_iadd hx hb dX12_notes_37 ?_
  obtain ⟨t5, ht5, h⟩ := Option.bind_eq_some_iff.mp h
  refine xr_aldI X O ht5 dX12_notes_38 ?_
  obtain ⟨t6, ht6, h⟩ := Option.bind_eq_some_iff.mp h
  refine xr_stI X O ht6 dX12_notes_39 (fun H locs O => ?_)
  refine lv_iinc (v := (v1 + 1)) (lv' := [(1, .int (v1 + 1)), (0, .ref (κ.1 + v0))]) hx hb dX12_notes_40 hl (k := 1) rfl rfl (by decide) rfl (fun ls hl => ?_)
  refine lv_goto (tgt := 14) hx hb dX12_notes_43 (by decide) ?_
  rw [← Option.some.inj h] at hK
  exact hW14 (v1 + 1) t6 hK H locs ls O (lv_sub hl [1, 0] rfl)
set_option maxRecDepth 100000 in
set_option maxHeartbeats 4000000 in
theorem F_X12_notes_14_ok (X : xX p s m args c cX12_notes 2 RX12 κ) (hr : meth.sig.returnType = none) (hlk : meth.locks = false) {mo : xM} (v0 : Nat) (v1 : Int32) (M : xM) (x : xM) (h : F_X12_notes_14 v0 v1 M = some x) (hK : (fun o => o = mo) x) (H : Heap) (locs : List Loc) (ls : Array Slot) (O : xO κ s M H locs) (hl : lv_has ls 2 [(0, .ref (κ.1 + v0)), (1, .int v1)]) : W p l e (xRm 2 0 0) s m args below meth c H locs 0 0 (xQf below args s 0 0 κ none mo) (F0 m 14 ls []) := by
  refine xit_K (Wh := fun x => ∀ (H : Heap) (locs : List Loc) (ls : Array Slot), xO κ s x.2 H locs → lv_has ls 2 [(0, .ref (κ.1 + v0)), (1, .int x.1)] → W p l e (xRm 2 0 0) s m args below meth c H locs 0 0 (xQf below args s 0 0 κ none mo) (F0 m 14 ls [])) (Kp := (fun o => o = mo)) ?_ xFU (v1, M) x h hK H locs ls O hl
  intro y x h hK H locs ls O hl
  exact F_X12_notes_14_bok X hr hlk v0 y.1 (fun _ _ hw => hw) y.2 x h hK H locs ls O hl
set_option maxRecDepth 100000 in
set_option maxHeartbeats 4000000 in
theorem T_X12_notes (l : Launch) (κ : xQ) (a0 : Nat) (M : xM) (mo : xM) (h : F_X12_notes a0 M = some mo) : xC l yX12_notes cX12_notes 2 none 2 0 0 κ [.ref (κ.1 + a0)] M none mo := by
  refine xC_of rfl (Nat.le_of_ble_eq_true rfl) fun p e s m args below meth c X hr hlk hnm H locs ls O hl => ?_
  have X : xX p s m args c cX12_notes 2 RX12 κ := X
  have hl : lv_has ls 2 [(0, .ref (κ.1 + a0))] := hl
  have hx := X.1
  have hb := X.2.1
  obtain ⟨x, hx0⟩ : ∃ x, mo = x := ⟨_, rfl⟩
  rw [hx0] at h
  have hK : x = mo := hx0.symm
  unfold F_X12_notes at h
  refine lv_aload_n hx hb dX12_notes_0 rfl (lv_at hl 0 rfl) ?_
  obtain ⟨t1, ht1, h⟩ := Option.bind_eq_some_iff.mp h
  refine xr_getP X O ht1 fl_X12_13 dX12_notes_1 ?_
  refine lv_bipush (v := (108 : Int32)) hx hb dX12_notes_4 (by decide) ?_
  obtain ⟨t2, ht2, h⟩ := Option.bind_eq_some_iff.mp h
  refine xr_aldI X O ht2 dX12_notes_6 ?_
  refine lv_bipush (v := (10 : Int32)) hx hb dX12_notes_7 (by decide) ?_
  refine lv_icmp_ne (tgt := 57) hx hb dX12_notes_9 (by decide) (fun hc9 => ?_) (fun hc9 => ?_)
  · rw [if_neg hc9] at h
    exact F_X12_notes_57_ok X hr hlk a0 M _ h hK H locs ls O (lv_sub hl [0] rfl)
  rw [if_pos hc9] at h
  refine lv_iconst (v := (0 : Int32)) hx hb dX12_notes_12 (by decide) ?_
  refine lv_istore_n (lv' := [(1, .int (0 : Int32)), (0, .ref (κ.1 + a0))]) hx hb dX12_notes_13 rfl hl (by decide) rfl (fun ls hl => ?_)
  exact F_X12_notes_14_ok X hr hlk a0 (0 : Int32) M _ h hK H locs ls O (lv_sub hl [1, 0] rfl)
def F_X12_goesMinutes_34 (v0 : Nat) (M : xM) : Option (xM) :=
(xgP M v0 12 1).bind fun t7 =>
(xgI M v0 12 20).bind fun t8 =>
(xsI M t7 (105 : Int32) t8).bind fun t9 =>
(xgP t9 v0 12 1).bind fun t10 =>
(xgI t9 v0 12 21).bind fun t11 =>
(xsI t9 t10 (107 : Int32) t11).bind fun t12 =>
some t12
def F_X12_goesMinutes_7b (v0 : Nat) : (Int32 × xM) → Option ((Int32 × xM) ⊕ (xM)) := fun ⟨v2, M⟩ =>
if (25 : Int32) ≤ v2 then (
(F_X12_goesMinutes_34 v0 M).map Sum.inr)
else (
(xgP M v0 12 1).bind fun t3 =>
(xgP M v0 12 18).bind fun t4 =>
(xaI M 20 t4 v2).bind fun t5 =>
(xsI M t3 ((67 : Int32) + v2) t5).bind fun t6 =>
some (.inl ((v2 + 1), t6)))
def F_X12_goesMinutes_7 (v0 : Nat) (v2 : Int32) (M : xM) : Option (xM) := xit (F_X12_goesMinutes_7b v0) xFU (v2, M)
def F_X12_goesMinutes (a0 : Nat) (a1 : Int32) (M : xM) : Option (xM) :=
(xck M a0 12).bind fun _ =>
(F_X12_goesOnFor a0 a1 M).bind fun t2 =>
F_X12_goesMinutes_7 a0 (0 : Int32) t2
set_option maxRecDepth 100000 in
set_option maxHeartbeats 4000000 in
theorem F_X12_goesMinutes_34_ok (X : xX p s m args c cX12_goesMinutes 3 RX12 κ) (hr : meth.sig.returnType = none) (hlk : meth.locks = false) {mo : xM} (v0 : Nat) (M : xM) (x : xM) (h : F_X12_goesMinutes_34 v0 M = some x) (hK : (fun o => o = mo) x) (H : Heap) (locs : List Loc) (ls : Array Slot) (O : xO κ s M H locs) (hl : lv_has ls 3 [(0, .ref (κ.1 + v0))]) : W p l e (xRm 8 0 0) s m args below meth c H locs 0 0 (xQf below args s 0 0 κ none mo) (F0 m 34 ls []) := by
  unfold F_X12_goesMinutes_34 at h
  have hx := X.1
  have hb := X.2.1
  refine lv_aload_n hx hb dX12_goesMinutes_34 rfl (lv_at hl 0 rfl) ?_
  obtain ⟨t7, ht7, h⟩ := Option.bind_eq_some_iff.mp h
  refine xr_getP X O ht7 fl_X12_13 dX12_goesMinutes_35 ?_
  refine lv_bipush (v := (105 : Int32)) hx hb dX12_goesMinutes_38 (by decide) ?_
  refine lv_aload_n hx hb dX12_goesMinutes_40 rfl (lv_at hl 0 rfl) ?_
  obtain ⟨t8, ht8, h⟩ := Option.bind_eq_some_iff.mp h
  refine xr_getI X O ht8 fl_X12_247 (Or.inl rfl) dX12_goesMinutes_41 ?_
  obtain ⟨t9, ht9, h⟩ := Option.bind_eq_some_iff.mp h
  refine xr_stI X O ht9 dX12_goesMinutes_44 (fun H locs O => ?_)
  refine lv_aload_n hx hb dX12_goesMinutes_45 rfl (lv_at hl 0 rfl) ?_
  obtain ⟨t10, ht10, h⟩ := Option.bind_eq_some_iff.mp h
  refine xr_getP X O ht10 fl_X12_13 dX12_goesMinutes_46 ?_
  refine lv_bipush (v := (107 : Int32)) hx hb dX12_goesMinutes_49 (by decide) ?_
  refine lv_aload_n hx hb dX12_goesMinutes_51 rfl (lv_at hl 0 rfl) ?_
  obtain ⟨t11, ht11, h⟩ := Option.bind_eq_some_iff.mp h
  refine xr_getI X O ht11 fl_X12_250 (Or.inl rfl) dX12_goesMinutes_52 ?_
  obtain ⟨t12, ht12, h⟩ := Option.bind_eq_some_iff.mp h
  refine xr_stI X O ht12 dX12_goesMinutes_55 (fun H locs O => ?_)
  rw [← Option.some.inj h] at hK
  have hK : t12 = mo := hK
  rw [hK] at O
  exact xr_vret X hr hlk O dX12_goesMinutes_56
set_option maxRecDepth 100000 in
set_option maxHeartbeats 4000000 in
theorem F_X12_goesMinutes_7_bok (X : xX p s m args c cX12_goesMinutes 3 RX12 κ) (hr : meth.sig.returnType = none) (hlk : meth.locks = false) {mo : xM} (v0 : Nat) (v2 : Int32) {W7 : Int32 × xM → Prop} (hW7 : ∀ (v2 : Int32) (M : xM), W7 (v2, M) → ∀ (H : Heap) (locs : List Loc) (ls : Array Slot), xO κ s M H locs → lv_has ls 3 [(0, .ref (κ.1 + v0)), (2, .int v2)] → W p l e (xRm 8 0 0) s m args below meth c H locs 0 0 (xQf below args s 0 0 κ none mo) (F0 m 7 ls [])) (M : xM) (x : (Int32 × xM) ⊕ (xM)) (h : F_X12_goesMinutes_7b v0 (v2, M) = some x) (hK : (xKl W7 (fun o => o = mo)) x) (H : Heap) (locs : List Loc) (ls : Array Slot) (O : xO κ s M H locs) (hl : lv_has ls 3 [(0, .ref (κ.1 + v0)), (2, .int v2)]) : W p l e (xRm 8 0 0) s m args below meth c H locs 0 0 (xQf below args s 0 0 κ none mo) (F0 m 7 ls []) := by
  unfold F_X12_goesMinutes_7b at h
  dsimp only at h
  have hx := X.1
  have hb := X.2.1
  refine lv_iload_n hx hb dX12_goesMinutes_7 rfl (lv_at hl 1 rfl) ?_
  refine lv_bipush (v := (25 : Int32)) hx hb dX12_goesMinutes_8 (by decide) ?_
  refine lv_icmp_ge (tgt := 34) hx hb dX12_goesMinutes_10 (by decide) (fun hc10 => ?_) (fun hc10 => ?_)
  · rw [if_pos hc10] at h
    obtain ⟨_, hw0, ew0⟩ := Option.map_eq_some_iff.mp h
    rw [← ew0] at hK
    have h := hw0
    exact F_X12_goesMinutes_34_ok X hr hlk v0 M _ h hK H locs ls O (lv_sub hl [0] rfl)
  rw [if_neg hc10] at h
  refine lv_aload_n hx hb dX12_goesMinutes_13 rfl (lv_at hl 0 rfl) ?_
  obtain ⟨t3, ht3, h⟩ := Option.bind_eq_some_iff.mp h
  refine xr_getP X O ht3 fl_X12_13 dX12_goesMinutes_14 ?_
  refine lv_bipush (v := (67 : Int32)) hx hb dX12_goesMinutes_17 (by decide) ?_
  refine lv_iload_n hx hb dX12_goesMinutes_19 rfl (lv_at hl 1 rfl) ?_
  refine lv_iadd hx hb dX12_goesMinutes_20 ?_
  refine lv_aload_n hx hb dX12_goesMinutes_21 rfl (lv_at hl 0 rfl) ?_
  obtain ⟨t4, ht4, h⟩ := Option.bind_eq_some_iff.mp h
  refine xr_getP X O ht4 fl_X12_36 dX12_goesMinutes_22 ?_
  refine lv_iload_n hx hb dX12_goesMinutes_25 rfl (lv_at hl 1 rfl) ?_
  obtain ⟨t5, ht5, h⟩ := Option.bind_eq_some_iff.mp h
  refine xr_aldI X O ht5 dX12_goesMinutes_26 ?_
  obtain ⟨t6, ht6, h⟩ := Option.bind_eq_some_iff.mp h
  refine xr_stI X O ht6 dX12_goesMinutes_27 (fun H locs O => ?_)
  refine lv_iinc (v := (v2 + 1)) (lv' := [(2, .int (v2 + 1)), (0, .ref (κ.1 + v0))]) hx hb dX12_goesMinutes_28 hl (k := 1) rfl rfl (by decide) rfl (fun ls hl => ?_)
  refine lv_goto (tgt := 7) hx hb dX12_goesMinutes_31 (by decide) ?_
  rw [← Option.some.inj h] at hK
  exact hW7 (v2 + 1) t6 hK H locs ls O (lv_sub hl [1, 0] rfl)
set_option maxRecDepth 100000 in
set_option maxHeartbeats 4000000 in
theorem F_X12_goesMinutes_7_ok (X : xX p s m args c cX12_goesMinutes 3 RX12 κ) (hr : meth.sig.returnType = none) (hlk : meth.locks = false) {mo : xM} (v0 : Nat) (v2 : Int32) (M : xM) (x : xM) (h : F_X12_goesMinutes_7 v0 v2 M = some x) (hK : (fun o => o = mo) x) (H : Heap) (locs : List Loc) (ls : Array Slot) (O : xO κ s M H locs) (hl : lv_has ls 3 [(0, .ref (κ.1 + v0)), (2, .int v2)]) : W p l e (xRm 8 0 0) s m args below meth c H locs 0 0 (xQf below args s 0 0 κ none mo) (F0 m 7 ls []) := by
  refine xit_K (Wh := fun x => ∀ (H : Heap) (locs : List Loc) (ls : Array Slot), xO κ s x.2 H locs → lv_has ls 3 [(0, .ref (κ.1 + v0)), (2, .int x.1)] → W p l e (xRm 8 0 0) s m args below meth c H locs 0 0 (xQf below args s 0 0 κ none mo) (F0 m 7 ls [])) (Kp := (fun o => o = mo)) ?_ xFU (v2, M) x h hK H locs ls O hl
  intro y x h hK H locs ls O hl
  exact F_X12_goesMinutes_7_bok X hr hlk v0 y.1 (fun _ _ hw => hw) y.2 x h hK H locs ls O hl
set_option maxRecDepth 100000 in
set_option maxHeartbeats 4000000 in
theorem T_X12_goesMinutes (l : Launch) (κ : xQ) (a0 : Nat) (a1 : Int32) (M : xM) (mo : xM) (h : F_X12_goesMinutes a0 a1 M = some mo) : xC l yX12_goesMinutes cX12_goesMinutes 3 none 8 0 0 κ [.ref (κ.1 + a0), .int a1] M none mo := by
  refine xC_of rfl (Nat.le_of_ble_eq_true rfl) fun p e s m args below meth c X hr hlk hnm H locs ls O hl => ?_
  have X : xX p s m args c cX12_goesMinutes 3 RX12 κ := X
  have hl : lv_has ls 3 [(0, .ref (κ.1 + a0)), (1, .int a1)] := hl
  have hx := X.1
  have hb := X.2.1
  obtain ⟨x, hx0⟩ : ∃ x, mo = x := ⟨_, rfl⟩
  rw [hx0] at h
  have hK : x = mo := hx0.symm
  unfold F_X12_goesMinutes at h
  refine lv_aload_n hx hb dX12_goesMinutes_0 rfl (lv_at hl 0 rfl) ?_
  refine lv_iload_n hx hb dX12_goesMinutes_1 rfl (lv_at hl 1 rfl) ?_
  obtain ⟨_, hut1, h⟩ := Option.bind_eq_some_iff.mp h
  obtain ⟨t2, ht2, h⟩ := Option.bind_eq_some_iff.mp h
  refine xr_callV (rest := []) X O (T_X12_goesOnFor l κ a0 a1 M _ ht2) lk_X12_287 hut1 (Nat.le_of_ble_eq_true rfl) rfl hl.1 rfl (Nat.le_of_ble_eq_true rfl) dX12_goesMinutes_2 ⟨Nat.le_of_ble_eq_true rfl, Nat.le_of_ble_eq_true rfl⟩ (fun H locs O => ?_)
  refine W.eq (g2 := F0 m 5 ls []) rfl ?_
  refine lv_iconst (v := (0 : Int32)) hx hb dX12_goesMinutes_5 (by decide) ?_
  refine lv_istore_n (lv' := [(2, .int (0 : Int32)), (0, .ref (κ.1 + a0)), (1, .int a1)]) hx hb dX12_goesMinutes_6 rfl hl (by decide) rfl (fun ls hl => ?_)
  exact F_X12_goesMinutes_7_ok X hr hlk a0 (0 : Int32) t2 _ h hK H locs ls O (lv_sub hl [1, 0] rfl)
def F_X12_minutes (a0 : Nat) (a1 : Int32) (M : xM) : Option (Int32 × xM) :=
(xpI M a0 12 0 (0 : Int32)).bind fun t1 =>
(F_X12_within a1.toInt64 (1 : Int64) (99 : Int64) t1).bind fun t2 =>
if t2.1 = 0 then (
some ((-3 : Int32), t2.2))
else (
(xck t2.2 a0 12).bind fun _ =>
(F_X12_stores a0 t2.2).bind fun t4 =>
(xck t4 a0 12).bind fun _ =>
(F_X12_goesMinutes a0 a1 t4).bind fun t6 =>
(xck t6 a0 12).bind fun _ =>
(F_X12_notes a0 t6).bind fun t8 =>
(xck t8 a0 12).bind fun _ =>
(F_X12_standing a0 t8).bind fun t10 =>
(F_X12_bitsOf t10.1 t10.2).bind fun t11 =>
some (t11.1, t11.2))
set_option maxRecDepth 100000 in
set_option maxHeartbeats 4000000 in
theorem T_X12_minutes (l : Launch) (κ : xQ) (a0 : Nat) (a1 : Int32) (M : xM) (ro : Int32) (mo : xM) (h : F_X12_minutes a0 a1 M = some (ro, mo)) : xC l yX12_minutes cX12_minutes 2 (some .int) 9 0 0 κ [.ref (κ.1 + a0), .int a1] M (some (.int ro)) mo := by
  refine xC_of rfl (Nat.le_of_ble_eq_true rfl) fun p e s m args below meth c X hr hlk hnm H locs ls O hl => ?_
  have X : xX p s m args c cX12_minutes 2 RX12 κ := X
  have hl : lv_has ls 2 [(0, .ref (κ.1 + a0)), (1, .int a1)] := hl
  have hx := X.1
  have hb := X.2.1
  obtain ⟨x, hx0⟩ : ∃ x, (ro, mo) = x := ⟨_, rfl⟩
  rw [hx0] at h
  have hK : x = (ro, mo) := hx0.symm
  unfold F_X12_minutes at h
  refine lv_aload_n hx hb dX12_minutes_0 rfl (lv_at hl 0 rfl) ?_
  refine lv_iconst (v := (0 : Int32)) hx hb dX12_minutes_1 (by decide) ?_
  obtain ⟨t1, ht1, h⟩ := Option.bind_eq_some_iff.mp h
  refine xr_putI X O ht1 fl_X12_1 dX12_minutes_2 (fun H locs O => ?_)
  refine lv_iload_n hx hb dX12_minutes_5 rfl (lv_at hl 1 rfl) ?_
  refine lv_i2l (v := a1.toInt64) hx hb dX12_minutes_6 rfl ?_
  refine lv_lconst (v := (1 : Int64)) hx hb dX12_minutes_7 (by decide) ?_
  refine lv_ldc2 (v := (99 : Int64)) hx hb X.2.2.2.1 (X.2.2.2.2.1 _ ct_X12_290) dX12_minutes_8 ?_
  obtain ⟨t2, ht2, h⟩ := Option.bind_eq_some_iff.mp h
  refine xr_callS (rest := []) X O (T_X12_within l κ a1.toInt64 (1 : Int64) (99 : Int64) t1 _ _ ht2) lk_X12_145 (Nat.le_of_ble_eq_true rfl) rfl hl.1 rfl (Nat.le_of_ble_eq_true rfl) dX12_minutes_11 ⟨Nat.le_of_ble_eq_true rfl, Nat.le_of_ble_eq_true rfl⟩ (fun H locs O => ?_)
  refine W.eq (g2 := F0 m 14 ls [.int t2.1]) rfl ?_
  refine lv_if_ne (tgt := 20) hx hb dX12_minutes_14 (by decide) (fun hc14 => ?_) (fun hc14 => ?_)
  · rw [if_neg hc14] at h
    refine lv_aload_n hx hb dX12_minutes_20 rfl (lv_at hl 0 rfl) ?_
    obtain ⟨_, hut3, h⟩ := Option.bind_eq_some_iff.mp h
    obtain ⟨t4, ht4, h⟩ := Option.bind_eq_some_iff.mp h
    refine xr_callV (rest := []) X O (T_X12_stores l κ a0 t2.2 _ ht4) lk_X12_292 hut3 (Nat.le_of_ble_eq_true rfl) rfl hl.1 rfl (Nat.le_of_ble_eq_true rfl) dX12_minutes_21 ⟨Nat.le_of_ble_eq_true rfl, Nat.le_of_ble_eq_true rfl⟩ (fun H locs O => ?_)
    refine W.eq (g2 := F0 m 24 ls []) rfl ?_
    refine lv_aload_n hx hb dX12_minutes_24 rfl (lv_at hl 0 rfl) ?_
    refine lv_iload_n hx hb dX12_minutes_25 rfl (lv_at hl 1 rfl) ?_
    obtain ⟨_, hut5, h⟩ := Option.bind_eq_some_iff.mp h
    obtain ⟨t6, ht6, h⟩ := Option.bind_eq_some_iff.mp h
    refine xr_callV (rest := []) X O (T_X12_goesMinutes l κ a0 a1 t4 _ ht6) lk_X12_295 hut5 (Nat.le_of_ble_eq_true rfl) rfl hl.1 rfl (Nat.le_of_ble_eq_true rfl) dX12_minutes_26 ⟨Nat.le_of_ble_eq_true rfl, Nat.le_of_ble_eq_true rfl⟩ (fun H locs O => ?_)
    refine W.eq (g2 := F0 m 29 ls []) rfl ?_
    refine lv_aload_n hx hb dX12_minutes_29 rfl (lv_at hl 0 rfl) ?_
    obtain ⟨_, hut7, h⟩ := Option.bind_eq_some_iff.mp h
    obtain ⟨t8, ht8, h⟩ := Option.bind_eq_some_iff.mp h
    refine xr_callV (rest := []) X O (T_X12_notes l κ a0 t6 _ ht8) lk_X12_298 hut7 (Nat.le_of_ble_eq_true rfl) rfl hl.1 rfl (Nat.le_of_ble_eq_true rfl) dX12_minutes_30 ⟨Nat.le_of_ble_eq_true rfl, Nat.le_of_ble_eq_true rfl⟩ (fun H locs O => ?_)
    refine W.eq (g2 := F0 m 33 ls []) rfl ?_
    refine lv_aload_n hx hb dX12_minutes_33 rfl (lv_at hl 0 rfl) ?_
    obtain ⟨_, hut9, h⟩ := Option.bind_eq_some_iff.mp h
    obtain ⟨t10, ht10, h⟩ := Option.bind_eq_some_iff.mp h
    refine xr_callV (rest := []) X O (T_X12_standing l κ a0 t8 _ _ ht10) lk_X12_301 hut9 (Nat.le_of_ble_eq_true rfl) rfl hl.1 rfl (Nat.le_of_ble_eq_true rfl) dX12_minutes_34 ⟨Nat.le_of_ble_eq_true rfl, Nat.le_of_ble_eq_true rfl⟩ (fun H locs O => ?_)
    refine W.eq (g2 := F0 m 37 ls [.int t10.1]) rfl ?_
    obtain ⟨t11, ht11, h⟩ := Option.bind_eq_some_iff.mp h
    refine xr_callS (rest := []) X O (T_X12_bitsOf l κ t10.1 t10.2 _ _ ht11) lk_X12_260 (Nat.le_of_ble_eq_true rfl) rfl hl.1 rfl (Nat.le_of_ble_eq_true rfl) dX12_minutes_37 ⟨Nat.le_of_ble_eq_true rfl, Nat.le_of_ble_eq_true rfl⟩ (fun H locs O => ?_)
    refine W.eq (g2 := F0 m 40 ls [.int t11.1]) rfl ?_
    rw [← Option.some.inj h] at hK
    have hK : (t11.1, t11.2) = (ro, mo) := hK
    obtain ⟨hK1, hK2⟩ := Prod.mk.inj hK
    rw [hK2] at O
    refine xr_top (w := .int ro) (by rw [hK1]) ?_
    exact xr_iret X hr hlk O dX12_minutes_40
  rw [if_pos hc14] at h
  refine lv_bipush (v := (-3 : Int32)) hx hb dX12_minutes_17 (by decide) ?_
  rw [← Option.some.inj h] at hK
  have hK : ((-3 : Int32), t2.2) = (ro, mo) := hK
  obtain ⟨hK1, hK2⟩ := Prod.mk.inj hK
  rw [hK2] at O
  refine xr_top (w := .int ro) (by rw [hK1]) ?_
  exact xr_iret X hr hlk O dX12_minutes_19
def F_X12_whySand_30 (s0 : Int32) (s1 : Int32) (M : xM) : Option (Int32 × xM) :=
if s1 = s0 then (
some ((2 : Int32), M))
else (
some ((0 : Int32), M))
def F_X12_whySand (a0 : Nat) (a1 : Int64) (a2 : Int32) (M : xM) : Option (Int32 × xM) :=
(xck M a0 12).bind fun _ =>
(F_X12_isCell a0 a1 M).bind fun t2 =>
if t2.1 = 0 then (
some ((1 : Int32), t2.2))
else (
(xgP t2.2 a0 12 1).bind fun t3 =>
(xaI t2.2 20 t3 ((67 : Int32) + a1.toInt32)).bind fun t4 =>
if a2 ≤ 0 then (
F_X12_whySand_30 (0 : Int32) t4 t2.2)
else (
F_X12_whySand_30 (9 : Int32) t4 t2.2))
set_option maxRecDepth 100000 in
set_option maxHeartbeats 4000000 in
theorem F_X12_whySand_30_ok (X : xX p s m args c cX12_whySand 4 RX12 κ) (hr : meth.sig.returnType = (some .int)) (hlk : meth.locks = false) {ro : Int32} {mo : xM} (s0 : Int32) (s1 : Int32) (M : xM) (x : Int32 × xM) (h : F_X12_whySand_30 s0 s1 M = some x) (hK : (fun o => o = (ro, mo)) x) (H : Heap) (locs : List Loc) (ls : Array Slot) (O : xO κ s M H locs) (hl : lv_has ls 4 []) : W p l e (xRm 4 0 0) s m args below meth c H locs 0 0 (xQf below args s 0 0 κ (some (.int ro)) mo) (F0 m 30 ls [.int s0, .int s1]) := by
  unfold F_X12_whySand_30 at h
  have hx := X.1
  have hb := X.2.1
  refine lv_icmp_ne (tgt := 37) hx hb dX12_whySand_30 (by decide) (fun hc30 => ?_) (fun hc30 => ?_)
  · rw [if_neg hc30] at h
    refine lv_iconst (v := (0 : Int32)) hx hb dX12_whySand_37 (by decide) ?_
    rw [← Option.some.inj h] at hK
    have hK : ((0 : Int32), M) = (ro, mo) := hK
    obtain ⟨hK1, hK2⟩ := Prod.mk.inj hK
    rw [hK2] at O
    refine xr_top (w := .int ro) (by rw [hK1]) ?_
    exact xr_iret X hr hlk O dX12_whySand_38
  rw [if_pos hc30] at h
  refine lv_iconst (v := (2 : Int32)) hx hb dX12_whySand_33 (by decide) ?_
  refine lv_goto (tgt := 38) hx hb dX12_whySand_34 (by decide) ?_
  rw [← Option.some.inj h] at hK
  have hK : ((2 : Int32), M) = (ro, mo) := hK
  obtain ⟨hK1, hK2⟩ := Prod.mk.inj hK
  rw [hK2] at O
  refine xr_top (w := .int ro) (by rw [hK1]) ?_
  exact xr_iret X hr hlk O dX12_whySand_38
set_option maxRecDepth 100000 in
set_option maxHeartbeats 4000000 in
theorem T_X12_whySand (l : Launch) (κ : xQ) (a0 : Nat) (a1 : Int64) (a2 : Int32) (M : xM) (ro : Int32) (mo : xM) (h : F_X12_whySand a0 a1 a2 M = some (ro, mo)) : xC l yX12_whySand cX12_whySand 4 (some .int) 4 0 0 κ [.ref (κ.1 + a0), .long a1, .int a2] M (some (.int ro)) mo := by
  refine xC_of rfl (Nat.le_of_ble_eq_true rfl) fun p e s m args below meth c X hr hlk hnm H locs ls O hl => ?_
  have X : xX p s m args c cX12_whySand 4 RX12 κ := X
  have hl : lv_has ls 4 [(0, .ref (κ.1 + a0)), (1, .long a1), (3, .int a2)] := hl
  have hx := X.1
  have hb := X.2.1
  obtain ⟨x, hx0⟩ : ∃ x, (ro, mo) = x := ⟨_, rfl⟩
  rw [hx0] at h
  have hK : x = (ro, mo) := hx0.symm
  unfold F_X12_whySand at h
  refine lv_aload_n hx hb dX12_whySand_0 rfl (lv_at hl 0 rfl) ?_
  refine lv_lload_n hx hb dX12_whySand_1 rfl (lv_at hl 1 rfl) ?_
  obtain ⟨_, hut1, h⟩ := Option.bind_eq_some_iff.mp h
  obtain ⟨t2, ht2, h⟩ := Option.bind_eq_some_iff.mp h
  refine xr_callV (rest := []) X O (T_X12_isCell l κ a0 a1 M _ _ ht2) lk_X12_230 hut1 (Nat.le_of_ble_eq_true rfl) rfl hl.1 rfl (Nat.le_of_ble_eq_true rfl) dX12_whySand_2 ⟨Nat.le_of_ble_eq_true rfl, Nat.le_of_ble_eq_true rfl⟩ (fun H locs O => ?_)
  refine W.eq (g2 := F0 m 5 ls [.int t2.1]) rfl ?_
  refine lv_if_ne (tgt := 10) hx hb dX12_whySand_5 (by decide) (fun hc5 => ?_) (fun hc5 => ?_)
  · rw [if_neg hc5] at h
    refine lv_aload_n hx hb dX12_whySand_10 rfl (lv_at hl 0 rfl) ?_
    obtain ⟨t3, ht3, h⟩ := Option.bind_eq_some_iff.mp h
    refine xr_getP X O ht3 fl_X12_13 dX12_whySand_11 ?_
    refine lv_bipush (v := (67 : Int32)) hx hb dX12_whySand_14 (by decide) ?_
    refine lv_lload_n hx hb dX12_whySand_16 rfl (lv_at hl 1 rfl) ?_
    refine lv_l2i (v := a1.toInt32) hx hb dX12_whySand_17 rfl ?_
    refine lv_iadd hx hb dX12_whySand_18 ?_
    obtain ⟨t4, ht4, h⟩ := Option.bind_eq_some_iff.mp h
    refine xr_aldI X O ht4 dX12_whySand_19 ?_
    refine lv_iload_n hx hb dX12_whySand_20 rfl (lv_at hl 2 rfl) ?_
    refine lv_if_le (tgt := 29) hx hb dX12_whySand_21 (by decide) (fun hc21 => ?_) (fun hc21 => ?_)
    · rw [if_pos hc21] at h
      refine lv_iconst (v := (0 : Int32)) hx hb dX12_whySand_29 (by decide) ?_
      exact F_X12_whySand_30_ok X hr hlk (0 : Int32) t4 t2.2 _ h hK H locs ls O (lv_sub hl [] rfl)
    rw [if_neg hc21] at h
    refine lv_bipush (v := (9 : Int32)) hx hb dX12_whySand_24 (by decide) ?_
    refine lv_goto (tgt := 30) hx hb dX12_whySand_26 (by decide) ?_
    exact F_X12_whySand_30_ok X hr hlk (9 : Int32) t4 t2.2 _ h hK H locs ls O (lv_sub hl [] rfl)
  rw [if_pos hc5] at h
  refine lv_iconst (v := (1 : Int32)) hx hb dX12_whySand_8 (by decide) ?_
  rw [← Option.some.inj h] at hK
  have hK : ((1 : Int32), t2.2) = (ro, mo) := hK
  obtain ⟨hK1, hK2⟩ := Prod.mk.inj hK
  rw [hK2] at O
  refine xr_top (w := .int ro) (by rw [hK1]) ?_
  exact xr_iret X hr hlk O dX12_whySand_9
def F_X12_heaps (a0 : Nat) (a1 : Int32) (a2 : Int32) (M : xM) : Option (Int32 × xM) :=
(xck M a0 12).bind fun _ =>
(F_X12_whySand a0 a1.toInt64 a2 M).bind fun t2 =>
if t2.1 = 0 then (
(xck t2.2 a0 12).bind fun _ =>
(F_X12_stores a0 t2.2).bind fun t4 =>
(xgP t4 a0 12 1).bind fun t5 =>
(xaI t4 20 t5 ((67 : Int32) + a1)).bind fun t6 =>
(xsI t4 t5 ((67 : Int32) + a1) (t6 + a2)).bind fun t7 =>
(xck t7 a0 12).bind fun _ =>
(F_X12_notes a0 t7).bind fun t9 =>
(xgP t9 a0 12 1).bind fun t10 =>
(xaI t9 20 t10 ((67 : Int32) + a1)).bind fun t11 =>
some (t11, t9))
else (
some (((-10 : Int32) - t2.1), t2.2))
set_option maxRecDepth 100000 in
set_option maxHeartbeats 4000000 in
theorem T_X12_heaps (l : Launch) (κ : xQ) (a0 : Nat) (a1 : Int32) (a2 : Int32) (M : xM) (ro : Int32) (mo : xM) (h : F_X12_heaps a0 a1 a2 M = some (ro, mo)) : xC l yX12_heaps cX12_heaps 4 (some .int) 5 0 0 κ [.ref (κ.1 + a0), .int a1, .int a2] M (some (.int ro)) mo := by
  refine xC_of rfl (Nat.le_of_ble_eq_true rfl) fun p e s m args below meth c X hr hlk hnm H locs ls O hl => ?_
  have X : xX p s m args c cX12_heaps 4 RX12 κ := X
  have hl : lv_has ls 4 [(0, .ref (κ.1 + a0)), (1, .int a1), (2, .int a2)] := hl
  have hx := X.1
  have hb := X.2.1
  obtain ⟨x, hx0⟩ : ∃ x, (ro, mo) = x := ⟨_, rfl⟩
  rw [hx0] at h
  have hK : x = (ro, mo) := hx0.symm
  unfold F_X12_heaps at h
  refine lv_aload_n hx hb dX12_heaps_0 rfl (lv_at hl 0 rfl) ?_
  refine lv_iload_n hx hb dX12_heaps_1 rfl (lv_at hl 1 rfl) ?_
  refine lv_i2l (v := a1.toInt64) hx hb dX12_heaps_2 rfl ?_
  refine lv_iload_n hx hb dX12_heaps_3 rfl (lv_at hl 2 rfl) ?_
  obtain ⟨_, hut1, h⟩ := Option.bind_eq_some_iff.mp h
  obtain ⟨t2, ht2, h⟩ := Option.bind_eq_some_iff.mp h
  refine xr_callV (rest := []) X O (T_X12_whySand l κ a0 a1.toInt64 a2 M _ _ ht2) lk_X12_304 hut1 (Nat.le_of_ble_eq_true rfl) rfl hl.1 rfl (Nat.le_of_ble_eq_true rfl) dX12_heaps_4 ⟨Nat.le_of_ble_eq_true rfl, Nat.le_of_ble_eq_true rfl⟩ (fun H locs O => ?_)
  refine W.eq (g2 := F0 m 7 ls [.int t2.1]) rfl ?_
  refine lv_istore_n (lv' := [(3, .int t2.1), (0, .ref (κ.1 + a0)), (1, .int a1), (2, .int a2)]) hx hb dX12_heaps_7 rfl hl (by decide) rfl (fun ls hl => ?_)
  refine lv_iload_n hx hb dX12_heaps_8 rfl (lv_at hl 0 rfl) ?_
  refine lv_if_eq (tgt := 17) hx hb dX12_heaps_9 (by decide) (fun hc9 => ?_) (fun hc9 => ?_)
  · rw [if_pos hc9] at h
    refine lv_aload_n hx hb dX12_heaps_17 rfl (lv_at hl 1 rfl) ?_
    obtain ⟨_, hut3, h⟩ := Option.bind_eq_some_iff.mp h
    obtain ⟨t4, ht4, h⟩ := Option.bind_eq_some_iff.mp h
    refine xr_callV (rest := []) X O (T_X12_stores l κ a0 t2.2 _ ht4) lk_X12_292 hut3 (Nat.le_of_ble_eq_true rfl) rfl hl.1 rfl (Nat.le_of_ble_eq_true rfl) dX12_heaps_18 ⟨Nat.le_of_ble_eq_true rfl, Nat.le_of_ble_eq_true rfl⟩ (fun H locs O => ?_)
    refine W.eq (g2 := F0 m 21 ls []) rfl ?_
    refine lv_aload_n hx hb dX12_heaps_21 rfl (lv_at hl 1 rfl) ?_
    obtain ⟨t5, ht5, h⟩ := Option.bind_eq_some_iff.mp h
    refine xr_getP X O ht5 fl_X12_13 dX12_heaps_22 ?_
    refine lv_bipush (v := (67 : Int32)) hx hb dX12_heaps_25 (by decide) ?_
    refine lv_iload_n hx hb dX12_heaps_27 rfl (lv_at hl 2 rfl) ?_
    refine lv_iadd hx hb dX12_heaps_28 ?_
    refine lv_dup2_11 hx hb dX12_heaps_29 rfl rfl ?_
    obtain ⟨t6, ht6, h⟩ := Option.bind_eq_some_iff.mp h
    refine xr_aldI X O ht6 dX12_heaps_30 ?_
    refine lv_iload_n hx hb dX12_heaps_31 rfl (lv_at hl 3 rfl) ?_
    refine lv_iadd hx hb dX12_heaps_32 ?_
    obtain ⟨t7, ht7, h⟩ := Option.bind_eq_some_iff.mp h
    refine xr_stI X O ht7 dX12_heaps_33 (fun H locs O => ?_)
    refine lv_aload_n hx hb dX12_heaps_34 rfl (lv_at hl 1 rfl) ?_
    obtain ⟨_, hut8, h⟩ := Option.bind_eq_some_iff.mp h
    obtain ⟨t9, ht9, h⟩ := Option.bind_eq_some_iff.mp h
    refine xr_callV (rest := []) X O (T_X12_notes l κ a0 t7 _ ht9) lk_X12_298 hut8 (Nat.le_of_ble_eq_true rfl) rfl hl.1 rfl (Nat.le_of_ble_eq_true rfl) dX12_heaps_35 ⟨Nat.le_of_ble_eq_true rfl, Nat.le_of_ble_eq_true rfl⟩ (fun H locs O => ?_)
    refine W.eq (g2 := F0 m 38 ls []) rfl ?_
    refine lv_aload_n hx hb dX12_heaps_38 rfl (lv_at hl 1 rfl) ?_
    obtain ⟨t10, ht10, h⟩ := Option.bind_eq_some_iff.mp h
    refine xr_getP X O ht10 fl_X12_13 dX12_heaps_39 ?_
    refine lv_bipush (v := (67 : Int32)) hx hb dX12_heaps_42 (by decide) ?_
    refine lv_iload_n hx hb dX12_heaps_44 rfl (lv_at hl 2 rfl) ?_
    refine lv_iadd hx hb dX12_heaps_45 ?_
    obtain ⟨t11, ht11, h⟩ := Option.bind_eq_some_iff.mp h
    refine xr_aldI X O ht11 dX12_heaps_46 ?_
    rw [← Option.some.inj h] at hK
    have hK : (t11, t9) = (ro, mo) := hK
    obtain ⟨hK1, hK2⟩ := Prod.mk.inj hK
    rw [hK2] at O
    refine xr_top (w := .int ro) (by rw [hK1]) ?_
    exact xr_iret X hr hlk O dX12_heaps_47
  rw [if_neg hc9] at h
  refine lv_bipush (v := (-10 : Int32)) hx hb dX12_heaps_12 (by decide) ?_
  refine lv_iload_n hx hb dX12_heaps_14 rfl (lv_at hl 0 rfl) ?_
  refine lv_isub hx hb dX12_heaps_15 ?_
  rw [← Option.some.inj h] at hK
  have hK : (((-10 : Int32) - t2.1), t2.2) = (ro, mo) := hK
  obtain ⟨hK1, hK2⟩ := Prod.mk.inj hK
  rw [hK2] at O
  refine xr_top (w := .int ro) (by rw [hK1]) ?_
  exact xr_iret X hr hlk O dX12_heaps_16
def F_X12_raise (a0 : Nat) (a1 : Int32) (M : xM) : Option (Int32 × xM) :=
(xpI M a0 12 0 (0 : Int32)).bind fun t1 =>
(xck t1 a0 12).bind fun _ =>
(F_X12_heaps a0 a1 (1 : Int32) t1).bind fun t3 =>
some (t3.1, t3.2)
set_option maxRecDepth 100000 in
set_option maxHeartbeats 4000000 in
theorem T_X12_raise (l : Launch) (κ : xQ) (a0 : Nat) (a1 : Int32) (M : xM) (ro : Int32) (mo : xM) (h : F_X12_raise a0 a1 M = some (ro, mo)) : xC l yX12_raise cX12_raise 2 (some .int) 6 0 0 κ [.ref (κ.1 + a0), .int a1] M (some (.int ro)) mo := by
  refine xC_of rfl (Nat.le_of_ble_eq_true rfl) fun p e s m args below meth c X hr hlk hnm H locs ls O hl => ?_
  have X : xX p s m args c cX12_raise 2 RX12 κ := X
  have hl : lv_has ls 2 [(0, .ref (κ.1 + a0)), (1, .int a1)] := hl
  have hx := X.1
  have hb := X.2.1
  obtain ⟨x, hx0⟩ : ∃ x, (ro, mo) = x := ⟨_, rfl⟩
  rw [hx0] at h
  have hK : x = (ro, mo) := hx0.symm
  unfold F_X12_raise at h
  refine lv_aload_n hx hb dX12_raise_0 rfl (lv_at hl 0 rfl) ?_
  refine lv_iconst (v := (0 : Int32)) hx hb dX12_raise_1 (by decide) ?_
  obtain ⟨t1, ht1, h⟩ := Option.bind_eq_some_iff.mp h
  refine xr_putI X O ht1 fl_X12_1 dX12_raise_2 (fun H locs O => ?_)
  refine lv_aload_n hx hb dX12_raise_5 rfl (lv_at hl 0 rfl) ?_
  refine lv_iload_n hx hb dX12_raise_6 rfl (lv_at hl 1 rfl) ?_
  refine lv_iconst (v := (1 : Int32)) hx hb dX12_raise_7 (by decide) ?_
  obtain ⟨_, hut2, h⟩ := Option.bind_eq_some_iff.mp h
  obtain ⟨t3, ht3, h⟩ := Option.bind_eq_some_iff.mp h
  refine xr_callV (rest := []) X O (T_X12_heaps l κ a0 a1 (1 : Int32) t1 _ _ ht3) lk_X12_308 hut2 (Nat.le_of_ble_eq_true rfl) rfl hl.1 rfl (Nat.le_of_ble_eq_true rfl) dX12_raise_8 ⟨Nat.le_of_ble_eq_true rfl, Nat.le_of_ble_eq_true rfl⟩ (fun H locs O => ?_)
  refine W.eq (g2 := F0 m 11 ls [.int t3.1]) rfl ?_
  rw [← Option.some.inj h] at hK
  have hK : (t3.1, t3.2) = (ro, mo) := hK
  obtain ⟨hK1, hK2⟩ := Prod.mk.inj hK
  rw [hK2] at O
  refine xr_top (w := .int ro) (by rw [hK1]) ?_
  exact xr_iret X hr hlk O dX12_raise_11
def F_X12_dig (a0 : Nat) (a1 : Int32) (M : xM) : Option (Int32 × xM) :=
(xpI M a0 12 0 (0 : Int32)).bind fun t1 =>
(xck t1 a0 12).bind fun _ =>
(F_X12_heaps a0 a1 (-1 : Int32) t1).bind fun t3 =>
some (t3.1, t3.2)
set_option maxRecDepth 100000 in
set_option maxHeartbeats 4000000 in
theorem T_X12_dig (l : Launch) (κ : xQ) (a0 : Nat) (a1 : Int32) (M : xM) (ro : Int32) (mo : xM) (h : F_X12_dig a0 a1 M = some (ro, mo)) : xC l yX12_dig cX12_dig 2 (some .int) 6 0 0 κ [.ref (κ.1 + a0), .int a1] M (some (.int ro)) mo := by
  refine xC_of rfl (Nat.le_of_ble_eq_true rfl) fun p e s m args below meth c X hr hlk hnm H locs ls O hl => ?_
  have X : xX p s m args c cX12_dig 2 RX12 κ := X
  have hl : lv_has ls 2 [(0, .ref (κ.1 + a0)), (1, .int a1)] := hl
  have hx := X.1
  have hb := X.2.1
  obtain ⟨x, hx0⟩ : ∃ x, (ro, mo) = x := ⟨_, rfl⟩
  rw [hx0] at h
  have hK : x = (ro, mo) := hx0.symm
  unfold F_X12_dig at h
  refine lv_aload_n hx hb dX12_dig_0 rfl (lv_at hl 0 rfl) ?_
  refine lv_iconst (v := (0 : Int32)) hx hb dX12_dig_1 (by decide) ?_
  obtain ⟨t1, ht1, h⟩ := Option.bind_eq_some_iff.mp h
  refine xr_putI X O ht1 fl_X12_1 dX12_dig_2 (fun H locs O => ?_)
  refine lv_aload_n hx hb dX12_dig_5 rfl (lv_at hl 0 rfl) ?_
  refine lv_iload_n hx hb dX12_dig_6 rfl (lv_at hl 1 rfl) ?_
  refine lv_iconst (v := (-1 : Int32)) hx hb dX12_dig_7 (by decide) ?_
  obtain ⟨_, hut2, h⟩ := Option.bind_eq_some_iff.mp h
  obtain ⟨t3, ht3, h⟩ := Option.bind_eq_some_iff.mp h
  refine xr_callV (rest := []) X O (T_X12_heaps l κ a0 a1 (-1 : Int32) t1 _ _ ht3) lk_X12_308 hut2 (Nat.le_of_ble_eq_true rfl) rfl hl.1 rfl (Nat.le_of_ble_eq_true rfl) dX12_dig_8 ⟨Nat.le_of_ble_eq_true rfl, Nat.le_of_ble_eq_true rfl⟩ (fun H locs O => ?_)
  refine W.eq (g2 := F0 m 11 ls [.int t3.1]) rfl ?_
  rw [← Option.some.inj h] at hK
  have hK : (t3.1, t3.2) = (ro, mo) := hK
  obtain ⟨hK1, hK2⟩ := Prod.mk.inj hK
  rw [hK2] at O
  refine xr_top (w := .int ro) (by rw [hK1]) ?_
  exact xr_iret X hr hlk O dX12_dig_11
def F_X12_isHeld_43 (M : xM) : Option (Int32 × xM) :=
(xz (1 : Int32)).bind fun t9 =>
some (t9, M)
def F_X12_isHeld_45 (v0 : Nat) (v1 : Int32) (v2 : Int32) (M : xM) : Option ((Int32 × xM) ⊕ (Int32 × xM)) :=
some (.inl ((v2 + 1), M))
def F_X12_isHeld_51 (M : xM) : Option (Int32 × xM) :=
(xz (0 : Int32)).bind fun t8 =>
some (t8, M)
def F_X12_isHeld_2b (v0 : Nat) (v1 : Int32) : (Int32 × xM) → Option ((Int32 × xM) ⊕ (Int32 × xM)) := fun ⟨v2, M⟩ =>
(xgP M v0 12 1).bind fun t1 =>
(xaI M 20 t1 (92 : Int32)).bind fun t2 =>
if t2 ≤ v2 then (
(F_X12_isHeld_51 M).map Sum.inr)
else (
(xgP M v0 12 1).bind fun t3 =>
(xaI M 20 t3 ((93 : Int32) + ((2 : Int32) * v2))).bind fun t4 =>
if t4 = v1 then (
(xgP M v0 12 1).bind fun t5 =>
(xaI M 20 t5 (105 : Int32)).bind fun t6 =>
(F_X12_isIn t6.toInt64 v2 M).bind fun t7 =>
if t7.1 = 0 then (
(F_X12_isHeld_43 t7.2).map Sum.inr)
else (
F_X12_isHeld_45 v0 v1 v2 t7.2))
else (
F_X12_isHeld_45 v0 v1 v2 M))
def F_X12_isHeld_2 (v0 : Nat) (v1 : Int32) (v2 : Int32) (M : xM) : Option (Int32 × xM) := xit (F_X12_isHeld_2b v0 v1) xFU (v2, M)
def F_X12_isHeld (a0 : Nat) (a1 : Int32) (M : xM) : Option (Int32 × xM) :=
F_X12_isHeld_2 a0 a1 (0 : Int32) M
set_option maxRecDepth 100000 in
set_option maxHeartbeats 4000000 in
theorem F_X12_isHeld_43_ok (X : xX p s m args c cX12_isHeld 3 RX12 κ) (hr : meth.sig.returnType = (some .boolean)) (hlk : meth.locks = false) {ro : Int32} {mo : xM} (M : xM) (x : Int32 × xM) (h : F_X12_isHeld_43 M = some x) (hK : (fun o => o = (ro, mo)) x) (H : Heap) (locs : List Loc) (ls : Array Slot) (O : xO κ s M H locs) (hl : lv_has ls 3 []) : W p l e (xRm 3 0 0) s m args below meth c H locs 0 0 (xQf below args s 0 0 κ (some (.int ro)) mo) (F0 m 43 ls []) := by
  unfold F_X12_isHeld_43 at h
  have hx := X.1
  have hb := X.2.1
  refine lv_iconst (v := (1 : Int32)) hx hb dX12_isHeld_43 (by decide) ?_
  obtain ⟨t9, ht9, h⟩ := Option.bind_eq_some_iff.mp h
  rw [← Option.some.inj h] at hK
  have hK : (t9, M) = (ro, mo) := hK
  obtain ⟨hK1, hK2⟩ := Prod.mk.inj hK
  rw [hK1] at ht9
  rw [hK2] at O
  exact xr_zret X hr hlk O ht9 dX12_isHeld_44
set_option maxRecDepth 100000 in
set_option maxHeartbeats 4000000 in
theorem F_X12_isHeld_45_ok (X : xX p s m args c cX12_isHeld 3 RX12 κ) (hr : meth.sig.returnType = (some .boolean)) (hlk : meth.locks = false) {ro : Int32} {mo : xM} (v0 : Nat) (v1 : Int32) (v2 : Int32) {W2 : Int32 × xM → Prop} (hW2 : ∀ (v2 : Int32) (M : xM), W2 (v2, M) → ∀ (H : Heap) (locs : List Loc) (ls : Array Slot), xO κ s M H locs → lv_has ls 3 [(0, .ref (κ.1 + v0)), (1, .int v1), (2, .int v2)] → W p l e (xRm 3 0 0) s m args below meth c H locs 0 0 (xQf below args s 0 0 κ (some (.int ro)) mo) (F0 m 2 ls [])) (M : xM) (x : (Int32 × xM) ⊕ (Int32 × xM)) (h : F_X12_isHeld_45 v0 v1 v2 M = some x) (hK : (xKl W2 (fun o => o = (ro, mo))) x) (H : Heap) (locs : List Loc) (ls : Array Slot) (O : xO κ s M H locs) (hl : lv_has ls 3 [(0, .ref (κ.1 + v0)), (1, .int v1), (2, .int v2)]) : W p l e (xRm 3 0 0) s m args below meth c H locs 0 0 (xQf below args s 0 0 κ (some (.int ro)) mo) (F0 m 45 ls []) := by
  unfold F_X12_isHeld_45 at h
  have hx := X.1
  have hb := X.2.1
  refine lv_iinc (v := (v2 + 1)) (lv' := [(2, .int (v2 + 1)), (0, .ref (κ.1 + v0)), (1, .int v1)]) hx hb dX12_isHeld_45 hl (k := 2) rfl rfl (by decide) rfl (fun ls hl => ?_)
  refine lv_goto (tgt := 2) hx hb dX12_isHeld_48 (by decide) ?_
  rw [← Option.some.inj h] at hK
  exact hW2 (v2 + 1) M hK H locs ls O (lv_sub hl [1, 2, 0] rfl)
set_option maxRecDepth 100000 in
set_option maxHeartbeats 4000000 in
theorem F_X12_isHeld_51_ok (X : xX p s m args c cX12_isHeld 3 RX12 κ) (hr : meth.sig.returnType = (some .boolean)) (hlk : meth.locks = false) {ro : Int32} {mo : xM} (M : xM) (x : Int32 × xM) (h : F_X12_isHeld_51 M = some x) (hK : (fun o => o = (ro, mo)) x) (H : Heap) (locs : List Loc) (ls : Array Slot) (O : xO κ s M H locs) (hl : lv_has ls 3 []) : W p l e (xRm 3 0 0) s m args below meth c H locs 0 0 (xQf below args s 0 0 κ (some (.int ro)) mo) (F0 m 51 ls []) := by
  unfold F_X12_isHeld_51 at h
  have hx := X.1
  have hb := X.2.1
  refine lv_iconst (v := (0 : Int32)) hx hb dX12_isHeld_51 (by decide) ?_
  obtain ⟨t8, ht8, h⟩ := Option.bind_eq_some_iff.mp h
  rw [← Option.some.inj h] at hK
  have hK : (t8, M) = (ro, mo) := hK
  obtain ⟨hK1, hK2⟩ := Prod.mk.inj hK
  rw [hK1] at ht8
  rw [hK2] at O
  exact xr_zret X hr hlk O ht8 dX12_isHeld_52
set_option maxRecDepth 100000 in
set_option maxHeartbeats 4000000 in
theorem F_X12_isHeld_2_bok (X : xX p s m args c cX12_isHeld 3 RX12 κ) (hr : meth.sig.returnType = (some .boolean)) (hlk : meth.locks = false) {ro : Int32} {mo : xM} (v0 : Nat) (v1 : Int32) (v2 : Int32) {W2 : Int32 × xM → Prop} (hW2 : ∀ (v2 : Int32) (M : xM), W2 (v2, M) → ∀ (H : Heap) (locs : List Loc) (ls : Array Slot), xO κ s M H locs → lv_has ls 3 [(0, .ref (κ.1 + v0)), (1, .int v1), (2, .int v2)] → W p l e (xRm 3 0 0) s m args below meth c H locs 0 0 (xQf below args s 0 0 κ (some (.int ro)) mo) (F0 m 2 ls [])) (M : xM) (x : (Int32 × xM) ⊕ (Int32 × xM)) (h : F_X12_isHeld_2b v0 v1 (v2, M) = some x) (hK : (xKl W2 (fun o => o = (ro, mo))) x) (H : Heap) (locs : List Loc) (ls : Array Slot) (O : xO κ s M H locs) (hl : lv_has ls 3 [(0, .ref (κ.1 + v0)), (1, .int v1), (2, .int v2)]) : W p l e (xRm 3 0 0) s m args below meth c H locs 0 0 (xQf below args s 0 0 κ (some (.int ro)) mo) (F0 m 2 ls []) := by
  unfold F_X12_isHeld_2b at h
  dsimp only at h
  have hx := X.1
  have hb := X.2.1
  refine lv_iload_n hx hb dX12_isHeld_2 rfl (lv_at hl 2 rfl) ?_
  refine lv_aload_n hx hb dX12_isHeld_3 rfl (lv_at hl 0 rfl) ?_
  obtain ⟨t1, ht1, h⟩ := Option.bind_eq_some_iff.mp h
  refine xr_getP X O ht1 fl_X12_13 dX12_isHeld_4 ?_
  refine lv_bipush (v := (92 : Int32)) hx hb dX12_isHeld_7 (by decide) ?_
  obtain ⟨t2, ht2, h⟩ := Option.bind_eq_some_iff.mp h
  refine xr_aldI X O ht2 dX12_isHeld_9 ?_
  refine lv_icmp_ge (tgt := 51) hx hb dX12_isHeld_10 (by decide) (fun hc10 => ?_) (fun hc10 => ?_)
  · rw [if_pos hc10] at h
    obtain ⟨_, hw0, ew0⟩ := Option.map_eq_some_iff.mp h
    rw [← ew0] at hK
    have h := hw0
    exact F_X12_isHeld_51_ok X hr hlk  M _ h hK H locs ls O (lv_sub hl [] rfl)
  rw [if_neg hc10] at h
  refine lv_aload_n hx hb dX12_isHeld_13 rfl (lv_at hl 0 rfl) ?_
  obtain ⟨t3, ht3, h⟩ := Option.bind_eq_some_iff.mp h
  refine xr_getP X O ht3 fl_X12_13 dX12_isHeld_14 ?_
  refine lv_bipush (v := (93 : Int32)) hx hb dX12_isHeld_17 (by decide) ?_
  refine lv_iconst (v := (2 : Int32)) hx hb dX12_isHeld_19 (by decide) ?_
  refine lv_iload_n hx hb dX12_isHeld_20 rfl (lv_at hl 2 rfl) ?_
  refine lv_imul hx hb dX12_isHeld_21 ?_
  refine lv_iadd hx hb dX12_isHeld_22 ?_
  obtain ⟨t4, ht4, h⟩ := Option.bind_eq_some_iff.mp h
  refine xr_aldI X O ht4 dX12_isHeld_23 ?_
  refine lv_iload_n hx hb dX12_isHeld_24 rfl (lv_at hl 1 rfl) ?_
  refine lv_icmp_ne (tgt := 45) hx hb dX12_isHeld_25 (by decide) (fun hc25 => ?_) (fun hc25 => ?_)
  · rw [if_neg hc25] at h
    exact F_X12_isHeld_45_ok X hr hlk v0 v1 v2 hW2 M _ h hK H locs ls O (lv_sub hl [0, 1, 2] rfl)
  rw [if_pos hc25] at h
  refine lv_aload_n hx hb dX12_isHeld_28 rfl (lv_at hl 0 rfl) ?_
  obtain ⟨t5, ht5, h⟩ := Option.bind_eq_some_iff.mp h
  refine xr_getP X O ht5 fl_X12_13 dX12_isHeld_29 ?_
  refine lv_bipush (v := (105 : Int32)) hx hb dX12_isHeld_32 (by decide) ?_
  obtain ⟨t6, ht6, h⟩ := Option.bind_eq_some_iff.mp h
  refine xr_aldI X O ht6 dX12_isHeld_34 ?_
  refine lv_i2l (v := t6.toInt64) hx hb dX12_isHeld_35 rfl ?_
  refine lv_iload_n hx hb dX12_isHeld_36 rfl (lv_at hl 2 rfl) ?_
  obtain ⟨t7, ht7, h⟩ := Option.bind_eq_some_iff.mp h
  refine xr_callS (rest := []) X O (T_X12_isIn l κ t6.toInt64 v2 M _ _ ht7) lk_X12_253 (Nat.le_of_ble_eq_true rfl) rfl hl.1 rfl (Nat.le_of_ble_eq_true rfl) dX12_isHeld_37 ⟨Nat.le_of_ble_eq_true rfl, Nat.le_of_ble_eq_true rfl⟩ (fun H locs O => ?_)
  refine W.eq (g2 := F0 m 40 ls [.int t7.1]) rfl ?_
  refine lv_if_ne (tgt := 45) hx hb dX12_isHeld_40 (by decide) (fun hc40 => ?_) (fun hc40 => ?_)
  · rw [if_neg hc40] at h
    exact F_X12_isHeld_45_ok X hr hlk v0 v1 v2 hW2 t7.2 _ h hK H locs ls O (lv_sub hl [0, 1, 2] rfl)
  rw [if_pos hc40] at h
  obtain ⟨_, hw0, ew0⟩ := Option.map_eq_some_iff.mp h
  rw [← ew0] at hK
  have h := hw0
  exact F_X12_isHeld_43_ok X hr hlk  t7.2 _ h hK H locs ls O (lv_sub hl [] rfl)
set_option maxRecDepth 100000 in
set_option maxHeartbeats 4000000 in
theorem F_X12_isHeld_2_ok (X : xX p s m args c cX12_isHeld 3 RX12 κ) (hr : meth.sig.returnType = (some .boolean)) (hlk : meth.locks = false) {ro : Int32} {mo : xM} (v0 : Nat) (v1 : Int32) (v2 : Int32) (M : xM) (x : Int32 × xM) (h : F_X12_isHeld_2 v0 v1 v2 M = some x) (hK : (fun o => o = (ro, mo)) x) (H : Heap) (locs : List Loc) (ls : Array Slot) (O : xO κ s M H locs) (hl : lv_has ls 3 [(0, .ref (κ.1 + v0)), (1, .int v1), (2, .int v2)]) : W p l e (xRm 3 0 0) s m args below meth c H locs 0 0 (xQf below args s 0 0 κ (some (.int ro)) mo) (F0 m 2 ls []) := by
  refine xit_K (Wh := fun x => ∀ (H : Heap) (locs : List Loc) (ls : Array Slot), xO κ s x.2 H locs → lv_has ls 3 [(0, .ref (κ.1 + v0)), (1, .int v1), (2, .int x.1)] → W p l e (xRm 3 0 0) s m args below meth c H locs 0 0 (xQf below args s 0 0 κ (some (.int ro)) mo) (F0 m 2 ls [])) (Kp := (fun o => o = (ro, mo))) ?_ xFU (v2, M) x h hK H locs ls O hl
  intro y x h hK H locs ls O hl
  exact F_X12_isHeld_2_bok X hr hlk v0 v1 y.1 (fun _ _ hw => hw) y.2 x h hK H locs ls O hl
set_option maxRecDepth 100000 in
set_option maxHeartbeats 4000000 in
theorem T_X12_isHeld (l : Launch) (κ : xQ) (a0 : Nat) (a1 : Int32) (M : xM) (ro : Int32) (mo : xM) (h : F_X12_isHeld a0 a1 M = some (ro, mo)) : xC l yX12_isHeld cX12_isHeld 3 (some .boolean) 3 0 0 κ [.ref (κ.1 + a0), .int a1] M (some (.int ro)) mo := by
  refine xC_of rfl (Nat.le_of_ble_eq_true rfl) fun p e s m args below meth c X hr hlk hnm H locs ls O hl => ?_
  have X : xX p s m args c cX12_isHeld 3 RX12 κ := X
  have hl : lv_has ls 3 [(0, .ref (κ.1 + a0)), (1, .int a1)] := hl
  have hx := X.1
  have hb := X.2.1
  obtain ⟨x, hx0⟩ : ∃ x, (ro, mo) = x := ⟨_, rfl⟩
  rw [hx0] at h
  have hK : x = (ro, mo) := hx0.symm
  unfold F_X12_isHeld at h
  refine lv_iconst (v := (0 : Int32)) hx hb dX12_isHeld_0 (by decide) ?_
  refine lv_istore_n (lv' := [(2, .int (0 : Int32)), (0, .ref (κ.1 + a0)), (1, .int a1)]) hx hb dX12_isHeld_1 rfl hl (by decide) rfl (fun ls hl => ?_)
  exact F_X12_isHeld_2_ok X hr hlk a0 a1 (0 : Int32) M _ h hK H locs ls O (lv_sub hl [1, 2, 0] rfl)
def F_X12_whyBuild (a0 : Nat) (a1 : Int64) (a2 : Int64) (M : xM) : Option (Int32 × xM) :=
(xck M a0 12).bind fun _ =>
(F_X12_isCell a0 a1 M).bind fun t2 =>
if t2.1 = 0 then (
some ((1 : Int32), t2.2))
else (
(F_X12_within a2 (0 : Int64) (4 : Int64) t2.2).bind fun t3 =>
if t3.1 = 0 then (
some ((1 : Int32), t3.2))
else (
(xgP t3.2 a0 12 1).bind fun t4 =>
(xaI t3.2 20 t4 (92 : Int32)).bind fun t5 =>
if t5 = (6 : Int32) then (
some ((2 : Int32), t3.2))
else (
(xck t3.2 a0 12).bind fun _ =>
(F_X12_isHeld a0 a1.toInt32 t3.2).bind fun t7 =>
if t7.1 = 0 then (
some ((0 : Int32), t7.2))
else (
some ((3 : Int32), t7.2)))))
set_option maxRecDepth 100000 in
set_option maxHeartbeats 4000000 in
theorem T_X12_whyBuild (l : Launch) (κ : xQ) (a0 : Nat) (a1 : Int64) (a2 : Int64) (M : xM) (ro : Int32) (mo : xM) (h : F_X12_whyBuild a0 a1 a2 M = some (ro, mo)) : xC l yX12_whyBuild cX12_whyBuild 5 (some .int) 4 0 0 κ [.ref (κ.1 + a0), .long a1, .long a2] M (some (.int ro)) mo := by
  refine xC_of rfl (Nat.le_of_ble_eq_true rfl) fun p e s m args below meth c X hr hlk hnm H locs ls O hl => ?_
  have X : xX p s m args c cX12_whyBuild 5 RX12 κ := X
  have hl : lv_has ls 5 [(0, .ref (κ.1 + a0)), (1, .long a1), (3, .long a2)] := hl
  have hx := X.1
  have hb := X.2.1
  obtain ⟨x, hx0⟩ : ∃ x, (ro, mo) = x := ⟨_, rfl⟩
  rw [hx0] at h
  have hK : x = (ro, mo) := hx0.symm
  unfold F_X12_whyBuild at h
  refine lv_aload_n hx hb dX12_whyBuild_0 rfl (lv_at hl 0 rfl) ?_
  refine lv_lload_n hx hb dX12_whyBuild_1 rfl (lv_at hl 1 rfl) ?_
  obtain ⟨_, hut1, h⟩ := Option.bind_eq_some_iff.mp h
  obtain ⟨t2, ht2, h⟩ := Option.bind_eq_some_iff.mp h
  refine xr_callV (rest := []) X O (T_X12_isCell l κ a0 a1 M _ _ ht2) lk_X12_230 hut1 (Nat.le_of_ble_eq_true rfl) rfl hl.1 rfl (Nat.le_of_ble_eq_true rfl) dX12_whyBuild_2 ⟨Nat.le_of_ble_eq_true rfl, Nat.le_of_ble_eq_true rfl⟩ (fun H locs O => ?_)
  refine W.eq (g2 := F0 m 5 ls [.int t2.1]) rfl ?_
  refine lv_if_eq (tgt := 19) hx hb dX12_whyBuild_5 (by decide) (fun hc5 => ?_) (fun hc5 => ?_)
  · rw [if_pos hc5] at h
    refine lv_iconst (v := (1 : Int32)) hx hb dX12_whyBuild_19 (by decide) ?_
    rw [← Option.some.inj h] at hK
    have hK : ((1 : Int32), t2.2) = (ro, mo) := hK
    obtain ⟨hK1, hK2⟩ := Prod.mk.inj hK
    rw [hK2] at O
    refine xr_top (w := .int ro) (by rw [hK1]) ?_
    exact xr_iret X hr hlk O dX12_whyBuild_20
  rw [if_neg hc5] at h
  refine lv_lload_n hx hb dX12_whyBuild_8 rfl (lv_at hl 2 rfl) ?_
  refine lv_lconst (v := (0 : Int64)) hx hb dX12_whyBuild_9 (by decide) ?_
  refine lv_ldc2 (v := (4 : Int64)) hx hb X.2.2.2.1 (X.2.2.2.2.1 _ ct_X12_311) dX12_whyBuild_10 ?_
  obtain ⟨t3, ht3, h⟩ := Option.bind_eq_some_iff.mp h
  refine xr_callS (rest := []) X O (T_X12_within l κ a2 (0 : Int64) (4 : Int64) t2.2 _ _ ht3) lk_X12_145 (Nat.le_of_ble_eq_true rfl) rfl hl.1 rfl (Nat.le_of_ble_eq_true rfl) dX12_whyBuild_13 ⟨Nat.le_of_ble_eq_true rfl, Nat.le_of_ble_eq_true rfl⟩ (fun H locs O => ?_)
  refine W.eq (g2 := F0 m 16 ls [.int t3.1]) rfl ?_
  refine lv_if_ne (tgt := 21) hx hb dX12_whyBuild_16 (by decide) (fun hc16 => ?_) (fun hc16 => ?_)
  · rw [if_neg hc16] at h
    refine lv_aload_n hx hb dX12_whyBuild_21 rfl (lv_at hl 0 rfl) ?_
    obtain ⟨t4, ht4, h⟩ := Option.bind_eq_some_iff.mp h
    refine xr_getP X O ht4 fl_X12_13 dX12_whyBuild_22 ?_
    refine lv_bipush (v := (92 : Int32)) hx hb dX12_whyBuild_25 (by decide) ?_
    obtain ⟨t5, ht5, h⟩ := Option.bind_eq_some_iff.mp h
    refine xr_aldI X O ht5 dX12_whyBuild_27 ?_
    refine lv_bipush (v := (6 : Int32)) hx hb dX12_whyBuild_28 (by decide) ?_
    refine lv_icmp_ne (tgt := 37) hx hb dX12_whyBuild_30 (by decide) (fun hc30 => ?_) (fun hc30 => ?_)
    · rw [if_neg hc30] at h
      refine lv_aload_n hx hb dX12_whyBuild_37 rfl (lv_at hl 0 rfl) ?_
      refine lv_lload_n hx hb dX12_whyBuild_38 rfl (lv_at hl 1 rfl) ?_
      refine lv_l2i (v := a1.toInt32) hx hb dX12_whyBuild_39 rfl ?_
      obtain ⟨_, hut6, h⟩ := Option.bind_eq_some_iff.mp h
      obtain ⟨t7, ht7, h⟩ := Option.bind_eq_some_iff.mp h
      refine xr_callV (rest := []) X O (T_X12_isHeld l κ a0 a1.toInt32 t3.2 _ _ ht7) lk_X12_313 hut6 (Nat.le_of_ble_eq_true rfl) rfl hl.1 rfl (Nat.le_of_ble_eq_true rfl) dX12_whyBuild_40 ⟨Nat.le_of_ble_eq_true rfl, Nat.le_of_ble_eq_true rfl⟩ (fun H locs O => ?_)
      refine W.eq (g2 := F0 m 43 ls [.int t7.1]) rfl ?_
      refine lv_if_eq (tgt := 50) hx hb dX12_whyBuild_43 (by decide) (fun hc43 => ?_) (fun hc43 => ?_)
      · rw [if_pos hc43] at h
        refine lv_iconst (v := (0 : Int32)) hx hb dX12_whyBuild_50 (by decide) ?_
        rw [← Option.some.inj h] at hK
        have hK : ((0 : Int32), t7.2) = (ro, mo) := hK
        obtain ⟨hK1, hK2⟩ := Prod.mk.inj hK
        rw [hK2] at O
        refine xr_top (w := .int ro) (by rw [hK1]) ?_
        exact xr_iret X hr hlk O dX12_whyBuild_51
      rw [if_neg hc43] at h
      refine lv_iconst (v := (3 : Int32)) hx hb dX12_whyBuild_46 (by decide) ?_
      refine lv_goto (tgt := 51) hx hb dX12_whyBuild_47 (by decide) ?_
      rw [← Option.some.inj h] at hK
      have hK : ((3 : Int32), t7.2) = (ro, mo) := hK
      obtain ⟨hK1, hK2⟩ := Prod.mk.inj hK
      rw [hK2] at O
      refine xr_top (w := .int ro) (by rw [hK1]) ?_
      exact xr_iret X hr hlk O dX12_whyBuild_51
    rw [if_pos hc30] at h
    refine lv_iconst (v := (2 : Int32)) hx hb dX12_whyBuild_33 (by decide) ?_
    refine lv_goto (tgt := 51) hx hb dX12_whyBuild_34 (by decide) ?_
    rw [← Option.some.inj h] at hK
    have hK : ((2 : Int32), t3.2) = (ro, mo) := hK
    obtain ⟨hK1, hK2⟩ := Prod.mk.inj hK
    rw [hK2] at O
    refine xr_top (w := .int ro) (by rw [hK1]) ?_
    exact xr_iret X hr hlk O dX12_whyBuild_51
  rw [if_pos hc16] at h
  refine lv_iconst (v := (1 : Int32)) hx hb dX12_whyBuild_19 (by decide) ?_
  rw [← Option.some.inj h] at hK
  have hK : ((1 : Int32), t3.2) = (ro, mo) := hK
  obtain ⟨hK1, hK2⟩ := Prod.mk.inj hK
  rw [hK2] at O
  refine xr_top (w := .int ro) (by rw [hK1]) ?_
  exact xr_iret X hr hlk O dX12_whyBuild_20
def F_X12_builds (a0 : Nat) (a1 : Int32) (a2 : Int32) (M : xM) : Option (xM) :=
(xgP M a0 12 1).bind fun t1 =>
(xaI M 20 t1 (92 : Int32)).bind fun t2 =>
(xgP M a0 12 1).bind fun t3 =>
(xsI M t3 ((93 : Int32) + ((2 : Int32) * t2)) a1).bind fun t4 =>
(xgP t4 a0 12 1).bind fun t5 =>
(xsI t4 t5 (((93 : Int32) + ((2 : Int32) * t2)) + (1 : Int32)) a2).bind fun t6 =>
(xgP t6 a0 12 1).bind fun t7 =>
(xaI t6 20 t7 (105 : Int32)).bind fun t8 =>
(xsI t6 t7 (105 : Int32) (t8 &&& (((1 : Int32) <<< (t2 &&& 31)) ^^^ (-1 : Int32)))).bind fun t9 =>
(xgP t9 a0 12 1).bind fun t10 =>
(xaI t9 20 t10 (92 : Int32)).bind fun t11 =>
(xsI t9 t10 (92 : Int32) (t11 + (1 : Int32))).bind fun t12 =>
some t12
set_option maxRecDepth 100000 in
set_option maxHeartbeats 4000000 in
theorem T_X12_builds (l : Launch) (κ : xQ) (a0 : Nat) (a1 : Int32) (a2 : Int32) (M : xM) (mo : xM) (h : F_X12_builds a0 a1 a2 M = some mo) : xC l yX12_builds cX12_builds 4 none 2 0 0 κ [.ref (κ.1 + a0), .int a1, .int a2] M none mo := by
  refine xC_of rfl (Nat.le_of_ble_eq_true rfl) fun p e s m args below meth c X hr hlk hnm H locs ls O hl => ?_
  have X : xX p s m args c cX12_builds 4 RX12 κ := X
  have hl : lv_has ls 4 [(0, .ref (κ.1 + a0)), (1, .int a1), (2, .int a2)] := hl
  have hx := X.1
  have hb := X.2.1
  obtain ⟨x, hx0⟩ : ∃ x, mo = x := ⟨_, rfl⟩
  rw [hx0] at h
  have hK : x = mo := hx0.symm
  unfold F_X12_builds at h
  refine lv_aload_n hx hb dX12_builds_0 rfl (lv_at hl 0 rfl) ?_
  obtain ⟨t1, ht1, h⟩ := Option.bind_eq_some_iff.mp h
  refine xr_getP X O ht1 fl_X12_13 dX12_builds_1 ?_
  refine lv_bipush (v := (92 : Int32)) hx hb dX12_builds_4 (by decide) ?_
  obtain ⟨t2, ht2, h⟩ := Option.bind_eq_some_iff.mp h
  refine xr_aldI X O ht2 dX12_builds_6 ?_
  refine lv_istore_n (lv' := [(3, .int t2), (0, .ref (κ.1 + a0)), (1, .int a1), (2, .int a2)]) hx hb dX12_builds_7 rfl hl (by decide) rfl (fun ls hl => ?_)
  refine lv_aload_n hx hb dX12_builds_8 rfl (lv_at hl 1 rfl) ?_
  obtain ⟨t3, ht3, h⟩ := Option.bind_eq_some_iff.mp h
  refine xr_getP X O ht3 fl_X12_13 dX12_builds_9 ?_
  refine lv_bipush (v := (93 : Int32)) hx hb dX12_builds_12 (by decide) ?_
  refine lv_iconst (v := (2 : Int32)) hx hb dX12_builds_14 (by decide) ?_
  refine lv_iload_n hx hb dX12_builds_15 rfl (lv_at hl 0 rfl) ?_
  refine lv_imul hx hb dX12_builds_16 ?_
  refine lv_iadd hx hb dX12_builds_17 ?_
  refine lv_iload_n hx hb dX12_builds_18 rfl (lv_at hl 2 rfl) ?_
  obtain ⟨t4, ht4, h⟩ := Option.bind_eq_some_iff.mp h
  refine xr_stI X O ht4 dX12_builds_19 (fun H locs O => ?_)
  refine lv_aload_n hx hb dX12_builds_20 rfl (lv_at hl 1 rfl) ?_
  obtain ⟨t5, ht5, h⟩ := Option.bind_eq_some_iff.mp h
  refine xr_getP X O ht5 fl_X12_13 dX12_builds_21 ?_
  refine lv_bipush (v := (93 : Int32)) hx hb dX12_builds_24 (by decide) ?_
  refine lv_iconst (v := (2 : Int32)) hx hb dX12_builds_26 (by decide) ?_
  refine lv_iload_n hx hb dX12_builds_27 rfl (lv_at hl 0 rfl) ?_
  refine lv_imul hx hb dX12_builds_28 ?_
  refine lv_iadd hx hb dX12_builds_29 ?_
  refine lv_iconst (v := (1 : Int32)) hx hb dX12_builds_30 (by decide) ?_
  refine lv_iadd hx hb dX12_builds_31 ?_
  refine lv_iload_n hx hb dX12_builds_32 rfl (lv_at hl 3 rfl) ?_
  obtain ⟨t6, ht6, h⟩ := Option.bind_eq_some_iff.mp h
  refine xr_stI X O ht6 dX12_builds_33 (fun H locs O => ?_)
  refine lv_aload_n hx hb dX12_builds_34 rfl (lv_at hl 1 rfl) ?_
  obtain ⟨t7, ht7, h⟩ := Option.bind_eq_some_iff.mp h
  refine xr_getP X O ht7 fl_X12_13 dX12_builds_35 ?_
  refine lv_bipush (v := (105 : Int32)) hx hb dX12_builds_38 (by decide) ?_
  refine lv_dup2_11 hx hb dX12_builds_40 rfl rfl ?_
  obtain ⟨t8, ht8, h⟩ := Option.bind_eq_some_iff.mp h
  refine xr_aldI X O ht8 dX12_builds_41 ?_
  refine lv_iconst (v := (1 : Int32)) hx hb dX12_builds_42 (by decide) ?_
  refine lv_iload_n hx hb dX12_builds_43 rfl (lv_at hl 0 rfl) ?_
  refine lv_ishl hx hb dX12_builds_44 ?_
  refine lv_iconst (v := (-1 : Int32)) hx hb dX12_builds_45 (by decide) ?_
  refine lv_ixor hx hb dX12_builds_46 ?_
  refine lv_iand hx hb dX12_builds_47 ?_
  obtain ⟨t9, ht9, h⟩ := Option.bind_eq_some_iff.mp h
  refine xr_stI X O ht9 dX12_builds_48 (fun H locs O => ?_)
  refine lv_aload_n hx hb dX12_builds_49 rfl (lv_at hl 1 rfl) ?_
  obtain ⟨t10, ht10, h⟩ := Option.bind_eq_some_iff.mp h
  refine xr_getP X O ht10 fl_X12_13 dX12_builds_50 ?_
  refine lv_bipush (v := (92 : Int32)) hx hb dX12_builds_53 (by decide) ?_
  refine lv_dup2_11 hx hb dX12_builds_55 rfl rfl ?_
  obtain ⟨t11, ht11, h⟩ := Option.bind_eq_some_iff.mp h
  refine xr_aldI X O ht11 dX12_builds_56 ?_
  refine lv_iconst (v := (1 : Int32)) hx hb dX12_builds_57 (by decide) ?_
  refine lv_iadd hx hb dX12_builds_58 ?_
  obtain ⟨t12, ht12, h⟩ := Option.bind_eq_some_iff.mp h
  refine xr_stI X O ht12 dX12_builds_59 (fun H locs O => ?_)
  rw [← Option.some.inj h] at hK
  have hK : t12 = mo := hK
  rw [hK] at O
  exact xr_vret X hr hlk O dX12_builds_60
def F_X12_build (a0 : Nat) (a1 : Int32) (a2 : Int32) (M : xM) : Option (Int32 × xM) :=
(xpI M a0 12 0 (0 : Int32)).bind fun t1 =>
(xck t1 a0 12).bind fun _ =>
(F_X12_whyBuild a0 a1.toInt64 a2.toInt64 t1).bind fun t3 =>
if t3.1 = 0 then (
(xck t3.2 a0 12).bind fun _ =>
(F_X12_stores a0 t3.2).bind fun t5 =>
(xck t5 a0 12).bind fun _ =>
(F_X12_builds a0 a1 a2 t5).bind fun t7 =>
(xck t7 a0 12).bind fun _ =>
(F_X12_notes a0 t7).bind fun t9 =>
(xgP t9 a0 12 1).bind fun t10 =>
(xaI t9 20 t10 (92 : Int32)).bind fun t11 =>
some ((t11 - (1 : Int32)), t9))
else (
some (((-10 : Int32) - t3.1), t3.2))
set_option maxRecDepth 100000 in
set_option maxHeartbeats 4000000 in
theorem T_X12_build (l : Launch) (κ : xQ) (a0 : Nat) (a1 : Int32) (a2 : Int32) (M : xM) (ro : Int32) (mo : xM) (h : F_X12_build a0 a1 a2 M = some (ro, mo)) : xC l yX12_build cX12_build 4 (some .int) 5 0 0 κ [.ref (κ.1 + a0), .int a1, .int a2] M (some (.int ro)) mo := by
  refine xC_of rfl (Nat.le_of_ble_eq_true rfl) fun p e s m args below meth c X hr hlk hnm H locs ls O hl => ?_
  have X : xX p s m args c cX12_build 4 RX12 κ := X
  have hl : lv_has ls 4 [(0, .ref (κ.1 + a0)), (1, .int a1), (2, .int a2)] := hl
  have hx := X.1
  have hb := X.2.1
  obtain ⟨x, hx0⟩ : ∃ x, (ro, mo) = x := ⟨_, rfl⟩
  rw [hx0] at h
  have hK : x = (ro, mo) := hx0.symm
  unfold F_X12_build at h
  refine lv_aload_n hx hb dX12_build_0 rfl (lv_at hl 0 rfl) ?_
  refine lv_iconst (v := (0 : Int32)) hx hb dX12_build_1 (by decide) ?_
  obtain ⟨t1, ht1, h⟩ := Option.bind_eq_some_iff.mp h
  refine xr_putI X O ht1 fl_X12_1 dX12_build_2 (fun H locs O => ?_)
  refine lv_aload_n hx hb dX12_build_5 rfl (lv_at hl 0 rfl) ?_
  refine lv_iload_n hx hb dX12_build_6 rfl (lv_at hl 1 rfl) ?_
  refine lv_i2l (v := a1.toInt64) hx hb dX12_build_7 rfl ?_
  refine lv_iload_n hx hb dX12_build_8 rfl (lv_at hl 2 rfl) ?_
  refine lv_i2l (v := a2.toInt64) hx hb dX12_build_9 rfl ?_
  obtain ⟨_, hut2, h⟩ := Option.bind_eq_some_iff.mp h
  obtain ⟨t3, ht3, h⟩ := Option.bind_eq_some_iff.mp h
  refine xr_callV (rest := []) X O (T_X12_whyBuild l κ a0 a1.toInt64 a2.toInt64 t1 _ _ ht3) lk_X12_316 hut2 (Nat.le_of_ble_eq_true rfl) rfl hl.1 rfl (Nat.le_of_ble_eq_true rfl) dX12_build_10 ⟨Nat.le_of_ble_eq_true rfl, Nat.le_of_ble_eq_true rfl⟩ (fun H locs O => ?_)
  refine W.eq (g2 := F0 m 13 ls [.int t3.1]) rfl ?_
  refine lv_istore_n (lv' := [(3, .int t3.1), (0, .ref (κ.1 + a0)), (1, .int a1), (2, .int a2)]) hx hb dX12_build_13 rfl hl (by decide) rfl (fun ls hl => ?_)
  refine lv_iload_n hx hb dX12_build_14 rfl (lv_at hl 0 rfl) ?_
  refine lv_if_eq (tgt := 23) hx hb dX12_build_15 (by decide) (fun hc15 => ?_) (fun hc15 => ?_)
  · rw [if_pos hc15] at h
    refine lv_aload_n hx hb dX12_build_23 rfl (lv_at hl 1 rfl) ?_
    obtain ⟨_, hut4, h⟩ := Option.bind_eq_some_iff.mp h
    obtain ⟨t5, ht5, h⟩ := Option.bind_eq_some_iff.mp h
    refine xr_callV (rest := []) X O (T_X12_stores l κ a0 t3.2 _ ht5) lk_X12_292 hut4 (Nat.le_of_ble_eq_true rfl) rfl hl.1 rfl (Nat.le_of_ble_eq_true rfl) dX12_build_24 ⟨Nat.le_of_ble_eq_true rfl, Nat.le_of_ble_eq_true rfl⟩ (fun H locs O => ?_)
    refine W.eq (g2 := F0 m 27 ls []) rfl ?_
    refine lv_aload_n hx hb dX12_build_27 rfl (lv_at hl 1 rfl) ?_
    refine lv_iload_n hx hb dX12_build_28 rfl (lv_at hl 2 rfl) ?_
    refine lv_iload_n hx hb dX12_build_29 rfl (lv_at hl 3 rfl) ?_
    obtain ⟨_, hut6, h⟩ := Option.bind_eq_some_iff.mp h
    obtain ⟨t7, ht7, h⟩ := Option.bind_eq_some_iff.mp h
    refine xr_callV (rest := []) X O (T_X12_builds l κ a0 a1 a2 t5 _ ht7) lk_X12_320 hut6 (Nat.le_of_ble_eq_true rfl) rfl hl.1 rfl (Nat.le_of_ble_eq_true rfl) dX12_build_30 ⟨Nat.le_of_ble_eq_true rfl, Nat.le_of_ble_eq_true rfl⟩ (fun H locs O => ?_)
    refine W.eq (g2 := F0 m 33 ls []) rfl ?_
    refine lv_aload_n hx hb dX12_build_33 rfl (lv_at hl 1 rfl) ?_
    obtain ⟨_, hut8, h⟩ := Option.bind_eq_some_iff.mp h
    obtain ⟨t9, ht9, h⟩ := Option.bind_eq_some_iff.mp h
    refine xr_callV (rest := []) X O (T_X12_notes l κ a0 t7 _ ht9) lk_X12_298 hut8 (Nat.le_of_ble_eq_true rfl) rfl hl.1 rfl (Nat.le_of_ble_eq_true rfl) dX12_build_34 ⟨Nat.le_of_ble_eq_true rfl, Nat.le_of_ble_eq_true rfl⟩ (fun H locs O => ?_)
    refine W.eq (g2 := F0 m 37 ls []) rfl ?_
    refine lv_aload_n hx hb dX12_build_37 rfl (lv_at hl 1 rfl) ?_
    obtain ⟨t10, ht10, h⟩ := Option.bind_eq_some_iff.mp h
    refine xr_getP X O ht10 fl_X12_13 dX12_build_38 ?_
    refine lv_bipush (v := (92 : Int32)) hx hb dX12_build_41 (by decide) ?_
    obtain ⟨t11, ht11, h⟩ := Option.bind_eq_some_iff.mp h
    refine xr_aldI X O ht11 dX12_build_43 ?_
    refine lv_iconst (v := (1 : Int32)) hx hb dX12_build_44 (by decide) ?_
    refine lv_isub hx hb dX12_build_45 ?_
    rw [← Option.some.inj h] at hK
    have hK : ((t11 - (1 : Int32)), t9) = (ro, mo) := hK
    obtain ⟨hK1, hK2⟩ := Prod.mk.inj hK
    rw [hK2] at O
    refine xr_top (w := .int ro) (by rw [hK1]) ?_
    exact xr_iret X hr hlk O dX12_build_46
  rw [if_neg hc15] at h
  refine lv_bipush (v := (-10 : Int32)) hx hb dX12_build_18 (by decide) ?_
  refine lv_iload_n hx hb dX12_build_20 rfl (lv_at hl 0 rfl) ?_
  refine lv_isub hx hb dX12_build_21 ?_
  rw [← Option.some.inj h] at hK
  have hK : (((-10 : Int32) - t3.1), t3.2) = (ro, mo) := hK
  obtain ⟨hK1, hK2⟩ := Prod.mk.inj hK
  rw [hK2] at O
  refine xr_top (w := .int ro) (by rw [hK1]) ?_
  exact xr_iret X hr hlk O dX12_build_22
def F_X12_moon (a0 : Nat) (a1 : Int32) (M : xM) : Option (Int32 × xM) :=
(xpI M a0 12 0 (0 : Int32)).bind fun t1 =>
(F_X12_within a1.toInt64 (0 : Int64) (9 : Int64) t1).bind fun t2 =>
if t2.1 = 0 then (
some ((-11 : Int32), t2.2))
else (
(xck t2.2 a0 12).bind fun _ =>
(F_X12_stores a0 t2.2).bind fun t4 =>
(xgP t4 a0 12 1).bind fun t5 =>
(xsI t4 t5 (106 : Int32) a1).bind fun t6 =>
(xck t6 a0 12).bind fun _ =>
(F_X12_notes a0 t6).bind fun t8 =>
(xgP t8 a0 12 22).bind fun t9 =>
(xaI t8 20 t9 (39 : Int32)).bind fun t10 =>
some (t10, t8))
set_option maxRecDepth 100000 in
set_option maxHeartbeats 4000000 in
theorem T_X12_moon (l : Launch) (κ : xQ) (a0 : Nat) (a1 : Int32) (M : xM) (ro : Int32) (mo : xM) (h : F_X12_moon a0 a1 M = some (ro, mo)) : xC l yX12_moon cX12_moon 2 (some .int) 3 0 0 κ [.ref (κ.1 + a0), .int a1] M (some (.int ro)) mo := by
  refine xC_of rfl (Nat.le_of_ble_eq_true rfl) fun p e s m args below meth c X hr hlk hnm H locs ls O hl => ?_
  have X : xX p s m args c cX12_moon 2 RX12 κ := X
  have hl : lv_has ls 2 [(0, .ref (κ.1 + a0)), (1, .int a1)] := hl
  have hx := X.1
  have hb := X.2.1
  obtain ⟨x, hx0⟩ : ∃ x, (ro, mo) = x := ⟨_, rfl⟩
  rw [hx0] at h
  have hK : x = (ro, mo) := hx0.symm
  unfold F_X12_moon at h
  refine lv_aload_n hx hb dX12_moon_0 rfl (lv_at hl 0 rfl) ?_
  refine lv_iconst (v := (0 : Int32)) hx hb dX12_moon_1 (by decide) ?_
  obtain ⟨t1, ht1, h⟩ := Option.bind_eq_some_iff.mp h
  refine xr_putI X O ht1 fl_X12_1 dX12_moon_2 (fun H locs O => ?_)
  refine lv_iload_n hx hb dX12_moon_5 rfl (lv_at hl 1 rfl) ?_
  refine lv_i2l (v := a1.toInt64) hx hb dX12_moon_6 rfl ?_
  refine lv_lconst (v := (0 : Int64)) hx hb dX12_moon_7 (by decide) ?_
  refine lv_ldc2 (v := (9 : Int64)) hx hb X.2.2.2.1 (X.2.2.2.2.1 _ ct_X12_324) dX12_moon_8 ?_
  obtain ⟨t2, ht2, h⟩ := Option.bind_eq_some_iff.mp h
  refine xr_callS (rest := []) X O (T_X12_within l κ a1.toInt64 (0 : Int64) (9 : Int64) t1 _ _ ht2) lk_X12_145 (Nat.le_of_ble_eq_true rfl) rfl hl.1 rfl (Nat.le_of_ble_eq_true rfl) dX12_moon_11 ⟨Nat.le_of_ble_eq_true rfl, Nat.le_of_ble_eq_true rfl⟩ (fun H locs O => ?_)
  refine W.eq (g2 := F0 m 14 ls [.int t2.1]) rfl ?_
  refine lv_if_ne (tgt := 20) hx hb dX12_moon_14 (by decide) (fun hc14 => ?_) (fun hc14 => ?_)
  · rw [if_neg hc14] at h
    refine lv_aload_n hx hb dX12_moon_20 rfl (lv_at hl 0 rfl) ?_
    obtain ⟨_, hut3, h⟩ := Option.bind_eq_some_iff.mp h
    obtain ⟨t4, ht4, h⟩ := Option.bind_eq_some_iff.mp h
    refine xr_callV (rest := []) X O (T_X12_stores l κ a0 t2.2 _ ht4) lk_X12_292 hut3 (Nat.le_of_ble_eq_true rfl) rfl hl.1 rfl (Nat.le_of_ble_eq_true rfl) dX12_moon_21 ⟨Nat.le_of_ble_eq_true rfl, Nat.le_of_ble_eq_true rfl⟩ (fun H locs O => ?_)
    refine W.eq (g2 := F0 m 24 ls []) rfl ?_
    refine lv_aload_n hx hb dX12_moon_24 rfl (lv_at hl 0 rfl) ?_
    obtain ⟨t5, ht5, h⟩ := Option.bind_eq_some_iff.mp h
    refine xr_getP X O ht5 fl_X12_13 dX12_moon_25 ?_
    refine lv_bipush (v := (106 : Int32)) hx hb dX12_moon_28 (by decide) ?_
    refine lv_iload_n hx hb dX12_moon_30 rfl (lv_at hl 1 rfl) ?_
    obtain ⟨t6, ht6, h⟩ := Option.bind_eq_some_iff.mp h
    refine xr_stI X O ht6 dX12_moon_31 (fun H locs O => ?_)
    refine lv_aload_n hx hb dX12_moon_32 rfl (lv_at hl 0 rfl) ?_
    obtain ⟨_, hut7, h⟩ := Option.bind_eq_some_iff.mp h
    obtain ⟨t8, ht8, h⟩ := Option.bind_eq_some_iff.mp h
    refine xr_callV (rest := []) X O (T_X12_notes l κ a0 t6 _ ht8) lk_X12_298 hut7 (Nat.le_of_ble_eq_true rfl) rfl hl.1 rfl (Nat.le_of_ble_eq_true rfl) dX12_moon_33 ⟨Nat.le_of_ble_eq_true rfl, Nat.le_of_ble_eq_true rfl⟩ (fun H locs O => ?_)
    refine W.eq (g2 := F0 m 36 ls []) rfl ?_
    refine lv_aload_n hx hb dX12_moon_36 rfl (lv_at hl 0 rfl) ?_
    obtain ⟨t9, ht9, h⟩ := Option.bind_eq_some_iff.mp h
    refine xr_getP X O ht9 fl_X12_42 dX12_moon_37 ?_
    refine lv_bipush (v := (39 : Int32)) hx hb dX12_moon_40 (by decide) ?_
    obtain ⟨t10, ht10, h⟩ := Option.bind_eq_some_iff.mp h
    refine xr_aldI X O ht10 dX12_moon_42 ?_
    rw [← Option.some.inj h] at hK
    have hK : (t10, t8) = (ro, mo) := hK
    obtain ⟨hK1, hK2⟩ := Prod.mk.inj hK
    rw [hK2] at O
    refine xr_top (w := .int ro) (by rw [hK1]) ?_
    exact xr_iret X hr hlk O dX12_moon_43
  rw [if_pos hc14] at h
  refine lv_bipush (v := (-11 : Int32)) hx hb dX12_moon_17 (by decide) ?_
  rw [← Option.some.inj h] at hK
  have hK : ((-11 : Int32), t2.2) = (ro, mo) := hK
  obtain ⟨hK1, hK2⟩ := Prod.mk.inj hK
  rw [hK2] at O
  refine xr_top (w := .int ro) (by rw [hK1]) ?_
  exact xr_iret X hr hlk O dX12_moon_19
def F_X12_undo_85 (v0 : Nat) (M : xM) : Option (Int32 × xM) :=
(xgP M v0 12 1).bind fun t14 =>
(xaI M 20 t14 (108 : Int32)).bind fun t15 =>
some (t15, M)
def F_X12_undo_44b (v0 : Nat) : (Int32 × xM) → Option ((Int32 × xM) ⊕ (Int32 × xM)) := fun ⟨v2, M⟩ =>
if (41 : Int32) ≤ v2 then (
(F_X12_undo_85 v0 M).map Sum.inr)
else (
(xgP M v0 12 1).bind fun t8 =>
(xgP M v0 12 1).bind fun t9 =>
(xgP M v0 12 1).bind fun t10 =>
(xaI M 20 t10 (108 : Int32)).bind fun t11 =>
(xaI M 20 t9 (((109 : Int32) + ((41 : Int32) * t11)) + v2)).bind fun t12 =>
(xsI M t8 ((67 : Int32) + v2) t12).bind fun t13 =>
some (.inl ((v2 + 1), t13)))
def F_X12_undo_44 (v0 : Nat) (v2 : Int32) (M : xM) : Option (Int32 × xM) := xit (F_X12_undo_44b v0) xFU (v2, M)
def F_X12_undo (a0 : Nat) (a1 : Int32) (M : xM) : Option (Int32 × xM) :=
(xpI M a0 12 0 (0 : Int32)).bind fun t1 =>
(F_X12_within a1.toInt64 (1 : Int64) (10 : Int64) t1).bind fun t2 =>
if t2.1 = 0 then (
some ((-3 : Int32), t2.2))
else (
(xgP t2.2 a0 12 1).bind fun t3 =>
(xaI t2.2 20 t3 (108 : Int32)).bind fun t4 =>
if a1 ≤ t4 then (
(xgP t2.2 a0 12 1).bind fun t5 =>
(xaI t2.2 20 t5 (108 : Int32)).bind fun t6 =>
(xsI t2.2 t5 (108 : Int32) (t6 - a1)).bind fun t7 =>
F_X12_undo_44 a0 (0 : Int32) t7)
else (
some ((-3 : Int32), t2.2)))
set_option maxRecDepth 100000 in
set_option maxHeartbeats 4000000 in
theorem F_X12_undo_85_ok (X : xX p s m args c cX12_undo 3 RX12 κ) (hr : meth.sig.returnType = (some .int)) (hlk : meth.locks = false) {ro : Int32} {mo : xM} (v0 : Nat) (M : xM) (x : Int32 × xM) (h : F_X12_undo_85 v0 M = some x) (hK : (fun o => o = (ro, mo)) x) (H : Heap) (locs : List Loc) (ls : Array Slot) (O : xO κ s M H locs) (hl : lv_has ls 3 [(0, .ref (κ.1 + v0))]) : W p l e (xRm 3 0 0) s m args below meth c H locs 0 0 (xQf below args s 0 0 κ (some (.int ro)) mo) (F0 m 85 ls []) := by
  unfold F_X12_undo_85 at h
  have hx := X.1
  have hb := X.2.1
  refine lv_aload_n hx hb dX12_undo_85 rfl (lv_at hl 0 rfl) ?_
  obtain ⟨t14, ht14, h⟩ := Option.bind_eq_some_iff.mp h
  refine xr_getP X O ht14 fl_X12_13 dX12_undo_86 ?_
  refine lv_bipush (v := (108 : Int32)) hx hb dX12_undo_89 (by decide) ?_
  obtain ⟨t15, ht15, h⟩ := Option.bind_eq_some_iff.mp h
  refine xr_aldI X O ht15 dX12_undo_91 ?_
  rw [← Option.some.inj h] at hK
  have hK : (t15, M) = (ro, mo) := hK
  obtain ⟨hK1, hK2⟩ := Prod.mk.inj hK
  rw [hK2] at O
  refine xr_top (w := .int ro) (by rw [hK1]) ?_
  exact xr_iret X hr hlk O dX12_undo_92
set_option maxRecDepth 100000 in
set_option maxHeartbeats 4000000 in
theorem F_X12_undo_44_bok (X : xX p s m args c cX12_undo 3 RX12 κ) (hr : meth.sig.returnType = (some .int)) (hlk : meth.locks = false) {ro : Int32} {mo : xM} (v0 : Nat) (v2 : Int32) {W44 : Int32 × xM → Prop} (hW44 : ∀ (v2 : Int32) (M : xM), W44 (v2, M) → ∀ (H : Heap) (locs : List Loc) (ls : Array Slot), xO κ s M H locs → lv_has ls 3 [(0, .ref (κ.1 + v0)), (2, .int v2)] → W p l e (xRm 3 0 0) s m args below meth c H locs 0 0 (xQf below args s 0 0 κ (some (.int ro)) mo) (F0 m 44 ls [])) (M : xM) (x : (Int32 × xM) ⊕ (Int32 × xM)) (h : F_X12_undo_44b v0 (v2, M) = some x) (hK : (xKl W44 (fun o => o = (ro, mo))) x) (H : Heap) (locs : List Loc) (ls : Array Slot) (O : xO κ s M H locs) (hl : lv_has ls 3 [(0, .ref (κ.1 + v0)), (2, .int v2)]) : W p l e (xRm 3 0 0) s m args below meth c H locs 0 0 (xQf below args s 0 0 κ (some (.int ro)) mo) (F0 m 44 ls []) := by
  unfold F_X12_undo_44b at h
  dsimp only at h
  have hx := X.1
  have hb := X.2.1
  refine lv_iload_n hx hb dX12_undo_44 rfl (lv_at hl 1 rfl) ?_
  refine lv_bipush (v := (41 : Int32)) hx hb dX12_undo_45 (by decide) ?_
  refine lv_icmp_ge (tgt := 85) hx hb dX12_undo_47 (by decide) (fun hc47 => ?_) (fun hc47 => ?_)
  · rw [if_pos hc47] at h
    obtain ⟨_, hw0, ew0⟩ := Option.map_eq_some_iff.mp h
    rw [← ew0] at hK
    have h := hw0
    exact F_X12_undo_85_ok X hr hlk v0 M _ h hK H locs ls O (lv_sub hl [0] rfl)
  rw [if_neg hc47] at h
  refine lv_aload_n hx hb dX12_undo_50 rfl (lv_at hl 0 rfl) ?_
  obtain ⟨t8, ht8, h⟩ := Option.bind_eq_some_iff.mp h
  refine xr_getP X O ht8 fl_X12_13 dX12_undo_51 ?_
  refine lv_bipush (v := (67 : Int32)) hx hb dX12_undo_54 (by decide) ?_
  refine lv_iload_n hx hb dX12_undo_56 rfl (lv_at hl 1 rfl) ?_
  refine lv_iadd hx hb dX12_undo_57 ?_
  refine lv_aload_n hx hb dX12_undo_58 rfl (lv_at hl 0 rfl) ?_
  obtain ⟨t9, ht9, h⟩ := Option.bind_eq_some_iff.mp h
  refine xr_getP X O ht9 fl_X12_13 dX12_undo_59 ?_
  refine lv_bipush (v := (109 : Int32)) hx hb dX12_undo_62 (by decide) ?_
  refine lv_bipush (v := (41 : Int32)) hx hb dX12_undo_64 (by decide) ?_
  refine lv_aload_n hx hb dX12_undo_66 rfl (lv_at hl 0 rfl) ?_
  obtain ⟨t10, ht10, h⟩ := Option.bind_eq_some_iff.mp h
  refine xr_getP X O ht10 fl_X12_13 dX12_undo_67 ?_
  refine lv_bipush (v := (108 : Int32)) hx hb dX12_undo_70 (by decide) ?_
  obtain ⟨t11, ht11, h⟩ := Option.bind_eq_some_iff.mp h
  refine xr_aldI X O ht11 dX12_undo_72 ?_
  refine lv_imul hx hb dX12_undo_73 ?_
  refine lv_iadd hx hb dX12_undo_74 ?_
  refine lv_iload_n hx hb dX12_undo_75 rfl (lv_at hl 1 rfl) ?_
  refine lv_iadd hx hb dX12_undo_76 ?_
  obtain ⟨t12, ht12, h⟩ := Option.bind_eq_some_iff.mp h
  refine xr_aldI X O ht12 dX12_undo_77 ?_
  obtain ⟨t13, ht13, h⟩ := Option.bind_eq_some_iff.mp h
  refine xr_stI X O ht13 dX12_undo_78 (fun H locs O => ?_)
  refine lv_iinc (v := (v2 + 1)) (lv' := [(2, .int (v2 + 1)), (0, .ref (κ.1 + v0))]) hx hb dX12_undo_79 hl (k := 1) rfl rfl (by decide) rfl (fun ls hl => ?_)
  refine lv_goto (tgt := 44) hx hb dX12_undo_82 (by decide) ?_
  rw [← Option.some.inj h] at hK
  exact hW44 (v2 + 1) t13 hK H locs ls O (lv_sub hl [1, 0] rfl)
set_option maxRecDepth 100000 in
set_option maxHeartbeats 4000000 in
theorem F_X12_undo_44_ok (X : xX p s m args c cX12_undo 3 RX12 κ) (hr : meth.sig.returnType = (some .int)) (hlk : meth.locks = false) {ro : Int32} {mo : xM} (v0 : Nat) (v2 : Int32) (M : xM) (x : Int32 × xM) (h : F_X12_undo_44 v0 v2 M = some x) (hK : (fun o => o = (ro, mo)) x) (H : Heap) (locs : List Loc) (ls : Array Slot) (O : xO κ s M H locs) (hl : lv_has ls 3 [(0, .ref (κ.1 + v0)), (2, .int v2)]) : W p l e (xRm 3 0 0) s m args below meth c H locs 0 0 (xQf below args s 0 0 κ (some (.int ro)) mo) (F0 m 44 ls []) := by
  refine xit_K (Wh := fun x => ∀ (H : Heap) (locs : List Loc) (ls : Array Slot), xO κ s x.2 H locs → lv_has ls 3 [(0, .ref (κ.1 + v0)), (2, .int x.1)] → W p l e (xRm 3 0 0) s m args below meth c H locs 0 0 (xQf below args s 0 0 κ (some (.int ro)) mo) (F0 m 44 ls [])) (Kp := (fun o => o = (ro, mo))) ?_ xFU (v2, M) x h hK H locs ls O hl
  intro y x h hK H locs ls O hl
  exact F_X12_undo_44_bok X hr hlk v0 y.1 (fun _ _ hw => hw) y.2 x h hK H locs ls O hl
set_option maxRecDepth 100000 in
set_option maxHeartbeats 4000000 in
theorem T_X12_undo (l : Launch) (κ : xQ) (a0 : Nat) (a1 : Int32) (M : xM) (ro : Int32) (mo : xM) (h : F_X12_undo a0 a1 M = some (ro, mo)) : xC l yX12_undo cX12_undo 3 (some .int) 3 0 0 κ [.ref (κ.1 + a0), .int a1] M (some (.int ro)) mo := by
  refine xC_of rfl (Nat.le_of_ble_eq_true rfl) fun p e s m args below meth c X hr hlk hnm H locs ls O hl => ?_
  have X : xX p s m args c cX12_undo 3 RX12 κ := X
  have hl : lv_has ls 3 [(0, .ref (κ.1 + a0)), (1, .int a1)] := hl
  have hx := X.1
  have hb := X.2.1
  obtain ⟨x, hx0⟩ : ∃ x, (ro, mo) = x := ⟨_, rfl⟩
  rw [hx0] at h
  have hK : x = (ro, mo) := hx0.symm
  unfold F_X12_undo at h
  refine lv_aload_n hx hb dX12_undo_0 rfl (lv_at hl 0 rfl) ?_
  refine lv_iconst (v := (0 : Int32)) hx hb dX12_undo_1 (by decide) ?_
  obtain ⟨t1, ht1, h⟩ := Option.bind_eq_some_iff.mp h
  refine xr_putI X O ht1 fl_X12_1 dX12_undo_2 (fun H locs O => ?_)
  refine lv_iload_n hx hb dX12_undo_5 rfl (lv_at hl 1 rfl) ?_
  refine lv_i2l (v := a1.toInt64) hx hb dX12_undo_6 rfl ?_
  refine lv_lconst (v := (1 : Int64)) hx hb dX12_undo_7 (by decide) ?_
  refine lv_ldc2 (v := (10 : Int64)) hx hb X.2.2.2.1 (X.2.2.2.2.1 _ ct_X12_285) dX12_undo_8 ?_
  obtain ⟨t2, ht2, h⟩ := Option.bind_eq_some_iff.mp h
  refine xr_callS (rest := []) X O (T_X12_within l κ a1.toInt64 (1 : Int64) (10 : Int64) t1 _ _ ht2) lk_X12_145 (Nat.le_of_ble_eq_true rfl) rfl hl.1 rfl (Nat.le_of_ble_eq_true rfl) dX12_undo_11 ⟨Nat.le_of_ble_eq_true rfl, Nat.le_of_ble_eq_true rfl⟩ (fun H locs O => ?_)
  refine W.eq (g2 := F0 m 14 ls [.int t2.1]) rfl ?_
  refine lv_if_eq (tgt := 28) hx hb dX12_undo_14 (by decide) (fun hc14 => ?_) (fun hc14 => ?_)
  · rw [if_pos hc14] at h
    refine lv_bipush (v := (-3 : Int32)) hx hb dX12_undo_28 (by decide) ?_
    rw [← Option.some.inj h] at hK
    have hK : ((-3 : Int32), t2.2) = (ro, mo) := hK
    obtain ⟨hK1, hK2⟩ := Prod.mk.inj hK
    rw [hK2] at O
    refine xr_top (w := .int ro) (by rw [hK1]) ?_
    exact xr_iret X hr hlk O dX12_undo_30
  rw [if_neg hc14] at h
  refine lv_iload_n hx hb dX12_undo_17 rfl (lv_at hl 1 rfl) ?_
  refine lv_aload_n hx hb dX12_undo_18 rfl (lv_at hl 0 rfl) ?_
  obtain ⟨t3, ht3, h⟩ := Option.bind_eq_some_iff.mp h
  refine xr_getP X O ht3 fl_X12_13 dX12_undo_19 ?_
  refine lv_bipush (v := (108 : Int32)) hx hb dX12_undo_22 (by decide) ?_
  obtain ⟨t4, ht4, h⟩ := Option.bind_eq_some_iff.mp h
  refine xr_aldI X O ht4 dX12_undo_24 ?_
  refine lv_icmp_le (tgt := 31) hx hb dX12_undo_25 (by decide) (fun hc25 => ?_) (fun hc25 => ?_)
  · rw [if_pos hc25] at h
    refine lv_aload_n hx hb dX12_undo_31 rfl (lv_at hl 0 rfl) ?_
    obtain ⟨t5, ht5, h⟩ := Option.bind_eq_some_iff.mp h
    refine xr_getP X O ht5 fl_X12_13 dX12_undo_32 ?_
    refine lv_bipush (v := (108 : Int32)) hx hb dX12_undo_35 (by decide) ?_
    refine lv_dup2_11 hx hb dX12_undo_37 rfl rfl ?_
    obtain ⟨t6, ht6, h⟩ := Option.bind_eq_some_iff.mp h
    refine xr_aldI X O ht6 dX12_undo_38 ?_
    refine lv_iload_n hx hb dX12_undo_39 rfl (lv_at hl 1 rfl) ?_
    refine lv_isub hx hb dX12_undo_40 ?_
    obtain ⟨t7, ht7, h⟩ := Option.bind_eq_some_iff.mp h
    refine xr_stI X O ht7 dX12_undo_41 (fun H locs O => ?_)
    refine lv_iconst (v := (0 : Int32)) hx hb dX12_undo_42 (by decide) ?_
    refine lv_istore_n (lv' := [(2, .int (0 : Int32)), (0, .ref (κ.1 + a0)), (1, .int a1)]) hx hb dX12_undo_43 rfl hl (by decide) rfl (fun ls hl => ?_)
    exact F_X12_undo_44_ok X hr hlk a0 (0 : Int32) t7 _ h hK H locs ls O (lv_sub hl [1, 0] rfl)
  rw [if_neg hc25] at h
  refine lv_bipush (v := (-3 : Int32)) hx hb dX12_undo_28 (by decide) ?_
  rw [← Option.some.inj h] at hK
  have hK : ((-3 : Int32), t2.2) = (ro, mo) := hK
  obtain ⟨hK1, hK2⟩ := Prod.mk.inj hK
  rw [hK2] at O
  refine xr_top (w := .int ro) (by rw [hK1]) ?_
  exact xr_iret X hr hlk O dX12_undo_30
def F_X12_whyNot_53 (s0 : Int32) (s1 : Int64) (s2 : Nat) (M : xM) : Option (Int32 × xM) :=
(xck M s2 12).bind fun _ =>
(F_X12_whySand s2 s1 s0 M).bind fun t7 =>
some (t7.1, t7.2)
def F_X12_whyNot (a0 : Nat) (a1 : Int64) (M : xM) : Option (Int32 × xM) :=
if (lg_cmp a1 (0 : Int64)) = 0 then (
some ((0 : Int32), M))
else (
(F_X12_within a1 (10 : Int64) (19 : Int64) M).bind fun t1 =>
if t1.1 = 0 then (
(F_X12_within a1 (100 : Int64) (299 : Int64) t1.2).bind fun t2 =>
if t2.1 = 0 then (
(F_X12_within a1 (1000 : Int64) (1999 : Int64) t2.2).bind fun t3 =>
if t3.1 = 0 then (
some ((1 : Int32), t3.2))
else (
(xck t3.2 a0 12).bind fun _ =>
(F_X12_whyBuild a0 ((a1 - (1000 : Int64)) / (10 : Int64)) (a1 - a1 / (10 : Int64) * (10 : Int64)) t3.2).bind fun t5 =>
some (t5.1, t5.2)))
else (
if 0 ≤ (lg_cmp a1 (200 : Int64)) then (
F_X12_whyNot_53 (-1 : Int32) (a1 - a1 / (100 : Int64) * (100 : Int64)) a0 t2.2)
else (
F_X12_whyNot_53 (1 : Int32) (a1 - a1 / (100 : Int64) * (100 : Int64)) a0 t2.2)))
else (
some ((0 : Int32), t1.2)))
set_option maxRecDepth 100000 in
set_option maxHeartbeats 4000000 in
theorem F_X12_whyNot_53_ok (X : xX p s m args c cX12_whyNot 3 RX12 κ) (hr : meth.sig.returnType = (some .int)) (hlk : meth.locks = false) {ro : Int32} {mo : xM} (s0 : Int32) (s1 : Int64) (s2 : Nat) (M : xM) (x : Int32 × xM) (h : F_X12_whyNot_53 s0 s1 s2 M = some x) (hK : (fun o => o = (ro, mo)) x) (H : Heap) (locs : List Loc) (ls : Array Slot) (O : xO κ s M H locs) (hl : lv_has ls 3 []) : W p l e (xRm 5 0 0) s m args below meth c H locs 0 0 (xQf below args s 0 0 κ (some (.int ro)) mo) (F0 m 53 ls [.int s0, .long s1, .ref (κ.1 + s2)]) := by
  unfold F_X12_whyNot_53 at h
  have hx := X.1
  have hb := X.2.1
  obtain ⟨_, hut6, h⟩ := Option.bind_eq_some_iff.mp h
  obtain ⟨t7, ht7, h⟩ := Option.bind_eq_some_iff.mp h
  refine xr_callV (rest := []) X O (T_X12_whySand l κ s2 s1 s0 M _ _ ht7) lk_X12_304 hut6 (Nat.le_of_ble_eq_true rfl) rfl hl.1 rfl (Nat.le_of_ble_eq_true rfl) dX12_whyNot_53 ⟨Nat.le_of_ble_eq_true rfl, Nat.le_of_ble_eq_true rfl⟩ (fun H locs O => ?_)
  refine W.eq (g2 := F0 m 56 ls [.int t7.1]) rfl ?_
  rw [← Option.some.inj h] at hK
  have hK : (t7.1, t7.2) = (ro, mo) := hK
  obtain ⟨hK1, hK2⟩ := Prod.mk.inj hK
  rw [hK2] at O
  refine xr_top (w := .int ro) (by rw [hK1]) ?_
  exact xr_iret X hr hlk O dX12_whyNot_56
set_option maxRecDepth 100000 in
set_option maxHeartbeats 4000000 in
theorem T_X12_whyNot (l : Launch) (κ : xQ) (a0 : Nat) (a1 : Int64) (M : xM) (ro : Int32) (mo : xM) (h : F_X12_whyNot a0 a1 M = some (ro, mo)) : xC l yX12_whyNot cX12_whyNot 3 (some .int) 5 0 0 κ [.ref (κ.1 + a0), .long a1] M (some (.int ro)) mo := by
  refine xC_of rfl (Nat.le_of_ble_eq_true rfl) fun p e s m args below meth c X hr hlk hnm H locs ls O hl => ?_
  have X : xX p s m args c cX12_whyNot 3 RX12 κ := X
  have hl : lv_has ls 3 [(0, .ref (κ.1 + a0)), (1, .long a1)] := hl
  have hx := X.1
  have hb := X.2.1
  obtain ⟨x, hx0⟩ : ∃ x, (ro, mo) = x := ⟨_, rfl⟩
  rw [hx0] at h
  have hK : x = (ro, mo) := hx0.symm
  unfold F_X12_whyNot at h
  refine lv_lload_n hx hb dX12_whyNot_0 rfl (lv_at hl 1 rfl) ?_
  refine lv_lconst (v := (0 : Int64)) hx hb dX12_whyNot_1 (by decide) ?_
  refine W.lcmp hx hb dX12_whyNot_2 ?_
  refine lv_if_eq (tgt := 19) hx hb dX12_whyNot_3 (by decide) (fun hc3 => ?_) (fun hc3 => ?_)
  · rw [if_pos hc3] at h
    refine lv_iconst (v := (0 : Int32)) hx hb dX12_whyNot_19 (by decide) ?_
    rw [← Option.some.inj h] at hK
    have hK : ((0 : Int32), M) = (ro, mo) := hK
    obtain ⟨hK1, hK2⟩ := Prod.mk.inj hK
    rw [hK2] at O
    refine xr_top (w := .int ro) (by rw [hK1]) ?_
    exact xr_iret X hr hlk O dX12_whyNot_20
  rw [if_neg hc3] at h
  refine lv_lload_n hx hb dX12_whyNot_6 rfl (lv_at hl 1 rfl) ?_
  refine lv_ldc2 (v := (10 : Int64)) hx hb X.2.2.2.1 (X.2.2.2.2.1 _ ct_X12_285) dX12_whyNot_7 ?_
  refine lv_ldc2 (v := (19 : Int64)) hx hb X.2.2.2.1 (X.2.2.2.2.1 _ ct_X12_326) dX12_whyNot_10 ?_
  obtain ⟨t1, ht1, h⟩ := Option.bind_eq_some_iff.mp h
  refine xr_callS (rest := []) X O (T_X12_within l κ a1 (10 : Int64) (19 : Int64) M _ _ ht1) lk_X12_145 (Nat.le_of_ble_eq_true rfl) rfl hl.1 rfl (Nat.le_of_ble_eq_true rfl) dX12_whyNot_13 ⟨Nat.le_of_ble_eq_true rfl, Nat.le_of_ble_eq_true rfl⟩ (fun H locs O => ?_)
  refine W.eq (g2 := F0 m 16 ls [.int t1.1]) rfl ?_
  refine lv_if_eq (tgt := 21) hx hb dX12_whyNot_16 (by decide) (fun hc16 => ?_) (fun hc16 => ?_)
  · rw [if_pos hc16] at h
    refine lv_lload_n hx hb dX12_whyNot_21 rfl (lv_at hl 1 rfl) ?_
    refine lv_ldc2 (v := (100 : Int64)) hx hb X.2.2.2.1 (X.2.2.2.2.1 _ ct_X12_328) dX12_whyNot_22 ?_
    refine lv_ldc2 (v := (299 : Int64)) hx hb X.2.2.2.1 (X.2.2.2.2.1 _ ct_X12_330) dX12_whyNot_25 ?_
    obtain ⟨t2, ht2, h⟩ := Option.bind_eq_some_iff.mp h
    refine xr_callS (rest := []) X O (T_X12_within l κ a1 (100 : Int64) (299 : Int64) t1.2 _ _ ht2) lk_X12_145 (Nat.le_of_ble_eq_true rfl) rfl hl.1 rfl (Nat.le_of_ble_eq_true rfl) dX12_whyNot_28 ⟨Nat.le_of_ble_eq_true rfl, Nat.le_of_ble_eq_true rfl⟩ (fun H locs O => ?_)
    refine W.eq (g2 := F0 m 31 ls [.int t2.1]) rfl ?_
    refine lv_if_eq (tgt := 57) hx hb dX12_whyNot_31 (by decide) (fun hc31 => ?_) (fun hc31 => ?_)
    · rw [if_pos hc31] at h
      refine lv_lload_n hx hb dX12_whyNot_57 rfl (lv_at hl 1 rfl) ?_
      refine lv_ldc2 (v := (1000 : Int64)) hx hb X.2.2.2.1 (X.2.2.2.2.1 _ ct_X12_334) dX12_whyNot_58 ?_
      refine lv_ldc2 (v := (1999 : Int64)) hx hb X.2.2.2.1 (X.2.2.2.2.1 _ ct_X12_336) dX12_whyNot_61 ?_
      obtain ⟨t3, ht3, h⟩ := Option.bind_eq_some_iff.mp h
      refine xr_callS (rest := []) X O (T_X12_within l κ a1 (1000 : Int64) (1999 : Int64) t2.2 _ _ ht3) lk_X12_145 (Nat.le_of_ble_eq_true rfl) rfl hl.1 rfl (Nat.le_of_ble_eq_true rfl) dX12_whyNot_64 ⟨Nat.le_of_ble_eq_true rfl, Nat.le_of_ble_eq_true rfl⟩ (fun H locs O => ?_)
      refine W.eq (g2 := F0 m 67 ls [.int t3.1]) rfl ?_
      refine lv_if_eq (tgt := 91) hx hb dX12_whyNot_67 (by decide) (fun hc67 => ?_) (fun hc67 => ?_)
      · rw [if_pos hc67] at h
        refine lv_iconst (v := (1 : Int32)) hx hb dX12_whyNot_91 (by decide) ?_
        rw [← Option.some.inj h] at hK
        have hK : ((1 : Int32), t3.2) = (ro, mo) := hK
        obtain ⟨hK1, hK2⟩ := Prod.mk.inj hK
        rw [hK2] at O
        refine xr_top (w := .int ro) (by rw [hK1]) ?_
        exact xr_iret X hr hlk O dX12_whyNot_92
      rw [if_neg hc67] at h
      refine lv_aload_n hx hb dX12_whyNot_70 rfl (lv_at hl 0 rfl) ?_
      refine lv_lload_n hx hb dX12_whyNot_71 rfl (lv_at hl 1 rfl) ?_
      refine lv_ldc2 (v := (1000 : Int64)) hx hb X.2.2.2.1 (X.2.2.2.2.1 _ ct_X12_334) dX12_whyNot_72 ?_
      refine lv_lsub hx hb dX12_whyNot_75 ?_
      refine lv_ldc2 (v := (10 : Int64)) hx hb X.2.2.2.1 (X.2.2.2.2.1 _ ct_X12_285) dX12_whyNot_76 ?_
      refine lv_ldiv hx hb dX12_whyNot_79 (by decide) ?_
      refine lv_lload_n hx hb dX12_whyNot_80 rfl (lv_at hl 1 rfl) ?_
      refine lv_ldc2 (v := (10 : Int64)) hx hb X.2.2.2.1 (X.2.2.2.2.1 _ ct_X12_285) dX12_whyNot_81 ?_
      refine lv_lrem hx hb dX12_whyNot_84 (by decide) ?_
      obtain ⟨_, hut4, h⟩ := Option.bind_eq_some_iff.mp h
      obtain ⟨t5, ht5, h⟩ := Option.bind_eq_some_iff.mp h
      refine xr_callV (rest := []) X O (T_X12_whyBuild l κ a0 ((a1 - (1000 : Int64)) / (10 : Int64)) (a1 - a1 / (10 : Int64) * (10 : Int64)) t3.2 _ _ ht5) lk_X12_316 hut4 (Nat.le_of_ble_eq_true rfl) rfl hl.1 rfl (Nat.le_of_ble_eq_true rfl) dX12_whyNot_85 ⟨Nat.le_of_ble_eq_true rfl, Nat.le_of_ble_eq_true rfl⟩ (fun H locs O => ?_)
      refine W.eq (g2 := F0 m 88 ls [.int t5.1]) rfl ?_
      refine lv_goto (tgt := 92) hx hb dX12_whyNot_88 (by decide) ?_
      rw [← Option.some.inj h] at hK
      have hK : (t5.1, t5.2) = (ro, mo) := hK
      obtain ⟨hK1, hK2⟩ := Prod.mk.inj hK
      rw [hK2] at O
      refine xr_top (w := .int ro) (by rw [hK1]) ?_
      exact xr_iret X hr hlk O dX12_whyNot_92
    rw [if_neg hc31] at h
    refine lv_aload_n hx hb dX12_whyNot_34 rfl (lv_at hl 0 rfl) ?_
    refine lv_lload_n hx hb dX12_whyNot_35 rfl (lv_at hl 1 rfl) ?_
    refine lv_ldc2 (v := (100 : Int64)) hx hb X.2.2.2.1 (X.2.2.2.2.1 _ ct_X12_328) dX12_whyNot_36 ?_
    refine lv_lrem hx hb dX12_whyNot_39 (by decide) ?_
    refine lv_lload_n hx hb dX12_whyNot_40 rfl (lv_at hl 1 rfl) ?_
    refine lv_ldc2 (v := (200 : Int64)) hx hb X.2.2.2.1 (X.2.2.2.2.1 _ ct_X12_332) dX12_whyNot_41 ?_
    refine W.lcmp hx hb dX12_whyNot_44 ?_
    refine lv_if_ge (tgt := 52) hx hb dX12_whyNot_45 (by decide) (fun hc45 => ?_) (fun hc45 => ?_)
    · rw [if_pos hc45] at h
      refine lv_iconst (v := (-1 : Int32)) hx hb dX12_whyNot_52 (by decide) ?_
      exact F_X12_whyNot_53_ok X hr hlk (-1 : Int32) (a1 - a1 / (100 : Int64) * (100 : Int64)) a0 t2.2 _ h hK H locs ls O (lv_sub hl [] rfl)
    rw [if_neg hc45] at h
    refine lv_iconst (v := (1 : Int32)) hx hb dX12_whyNot_48 (by decide) ?_
    refine lv_goto (tgt := 53) hx hb dX12_whyNot_49 (by decide) ?_
    exact F_X12_whyNot_53_ok X hr hlk (1 : Int32) (a1 - a1 / (100 : Int64) * (100 : Int64)) a0 t2.2 _ h hK H locs ls O (lv_sub hl [] rfl)
  rw [if_neg hc16] at h
  refine lv_iconst (v := (0 : Int32)) hx hb dX12_whyNot_19 (by decide) ?_
  rw [← Option.some.inj h] at hK
  have hK : ((0 : Int32), t1.2) = (ro, mo) := hK
  obtain ⟨hK1, hK2⟩ := Prod.mk.inj hK
  rw [hK2] at O
  refine xr_top (w := .int ro) (by rw [hK1]) ?_
  exact xr_iret X hr hlk O dX12_whyNot_20
def F_X12_does_64 (s0 : Int32) (s1 : Int32) (s2 : Int32) (s3 : Nat) (M : xM) : Option (xM) :=
(xsI M s3 s2 (s1 + s0)).bind fun t9 =>
some t9
def F_X12_does (a0 : Nat) (a1 : Int32) (M : xM) : Option (xM) :=
if a1 = 0 then (
(xck M a0 12).bind fun _ =>
(F_X12_goesMinutes a0 (1 : Int32) M).bind fun t8 =>
some t8)
else (
if (20 : Int32) ≤ a1 then (
if (300 : Int32) ≤ a1 then (
(xck M a0 12).bind fun _ =>
(F_X12_builds a0 ((a1 - (1000 : Int32)) / (10 : Int32)) (a1 - a1 / (10 : Int32) * (10 : Int32)) M).bind fun t2 =>
some t2)
else (
(xgP M a0 12 1).bind fun t3 =>
(xaI M 20 t3 ((67 : Int32) + (a1 - a1 / (100 : Int32) * (100 : Int32)))).bind fun t4 =>
if (200 : Int32) ≤ a1 then (
F_X12_does_64 (-1 : Int32) t4 ((67 : Int32) + (a1 - a1 / (100 : Int32) * (100 : Int32))) t3 M)
else (
F_X12_does_64 (1 : Int32) t4 ((67 : Int32) + (a1 - a1 / (100 : Int32) * (100 : Int32))) t3 M)))
else (
(xgP M a0 12 1).bind fun t5 =>
(xsI M t5 (106 : Int32) (a1 - (10 : Int32))).bind fun t6 =>
some t6))
set_option maxRecDepth 100000 in
set_option maxHeartbeats 4000000 in
theorem F_X12_does_64_ok (X : xX p s m args c cX12_does 2 RX12 κ) (hr : meth.sig.returnType = none) (hlk : meth.locks = false) {mo : xM} (s0 : Int32) (s1 : Int32) (s2 : Int32) (s3 : Nat) (M : xM) (x : xM) (h : F_X12_does_64 s0 s1 s2 s3 M = some x) (hK : (fun o => o = mo) x) (H : Heap) (locs : List Loc) (ls : Array Slot) (O : xO κ s M H locs) (hl : lv_has ls 2 []) : W p l e (xRm 9 0 0) s m args below meth c H locs 0 0 (xQf below args s 0 0 κ none mo) (F0 m 64 ls [.int s0, .int s1, .int s2, .ref (κ.1 + s3)]) := by
  unfold F_X12_does_64 at h
  have hx := X.1
  have hb := X.2.1
  refine lv_iadd hx hb dX12_does_64 ?_
  obtain ⟨t9, ht9, h⟩ := Option.bind_eq_some_iff.mp h
  refine xr_stI X O ht9 dX12_does_65 (fun H locs O => ?_)
  refine lv_goto (tgt := 85) hx hb dX12_does_66 (by decide) ?_
  rw [← Option.some.inj h] at hK
  have hK : t9 = mo := hK
  rw [hK] at O
  exact xr_vret X hr hlk O dX12_does_85
set_option maxRecDepth 100000 in
set_option maxHeartbeats 4000000 in
theorem T_X12_does (l : Launch) (κ : xQ) (a0 : Nat) (a1 : Int32) (M : xM) (mo : xM) (h : F_X12_does a0 a1 M = some mo) : xC l yX12_does cX12_does 2 none 9 0 0 κ [.ref (κ.1 + a0), .int a1] M none mo := by
  refine xC_of rfl (Nat.le_of_ble_eq_true rfl) fun p e s m args below meth c X hr hlk hnm H locs ls O hl => ?_
  have X : xX p s m args c cX12_does 2 RX12 κ := X
  have hl : lv_has ls 2 [(0, .ref (κ.1 + a0)), (1, .int a1)] := hl
  have hx := X.1
  have hb := X.2.1
  obtain ⟨x, hx0⟩ : ∃ x, mo = x := ⟨_, rfl⟩
  rw [hx0] at h
  have hK : x = mo := hx0.symm
  unfold F_X12_does at h
  refine lv_iload_n hx hb dX12_does_0 rfl (lv_at hl 1 rfl) ?_
  refine lv_if_ne (tgt := 12) hx hb dX12_does_1 (by decide) (fun hc1 => ?_) (fun hc1 => ?_)
  · rw [if_neg hc1] at h
    refine lv_iload_n hx hb dX12_does_12 rfl (lv_at hl 1 rfl) ?_
    refine lv_bipush (v := (20 : Int32)) hx hb dX12_does_13 (by decide) ?_
    refine lv_icmp_ge (tgt := 32) hx hb dX12_does_15 (by decide) (fun hc15 => ?_) (fun hc15 => ?_)
    · rw [if_pos hc15] at h
      refine lv_iload_n hx hb dX12_does_32 rfl (lv_at hl 1 rfl) ?_
      refine lv_sipush (v := (300 : Int32)) hx hb dX12_does_33 (by decide) ?_
      refine lv_icmp_ge (tgt := 69) hx hb dX12_does_36 (by decide) (fun hc36 => ?_) (fun hc36 => ?_)
      · rw [if_pos hc36] at h
        refine lv_aload_n hx hb dX12_does_69 rfl (lv_at hl 0 rfl) ?_
        refine lv_iload_n hx hb dX12_does_70 rfl (lv_at hl 1 rfl) ?_
        refine lv_sipush (v := (1000 : Int32)) hx hb dX12_does_71 (by decide) ?_
        refine lv_isub hx hb dX12_does_74 ?_
        refine lv_bipush (v := (10 : Int32)) hx hb dX12_does_75 (by decide) ?_
        refine lv_idiv hx hb dX12_does_77 (by decide) ?_
        refine lv_iload_n hx hb dX12_does_78 rfl (lv_at hl 1 rfl) ?_
        refine lv_bipush (v := (10 : Int32)) hx hb dX12_does_79 (by decide) ?_
        refine lv_irem hx hb dX12_does_81 (by decide) ?_
        obtain ⟨_, hut1, h⟩ := Option.bind_eq_some_iff.mp h
        obtain ⟨t2, ht2, h⟩ := Option.bind_eq_some_iff.mp h
        refine xr_callV (rest := []) X O (T_X12_builds l κ a0 ((a1 - (1000 : Int32)) / (10 : Int32)) (a1 - a1 / (10 : Int32) * (10 : Int32)) M _ ht2) lk_X12_320 hut1 (Nat.le_of_ble_eq_true rfl) rfl hl.1 rfl (Nat.le_of_ble_eq_true rfl) dX12_does_82 ⟨Nat.le_of_ble_eq_true rfl, Nat.le_of_ble_eq_true rfl⟩ (fun H locs O => ?_)
        refine W.eq (g2 := F0 m 85 ls []) rfl ?_
        rw [← Option.some.inj h] at hK
        have hK : t2 = mo := hK
        rw [hK] at O
        exact xr_vret X hr hlk O dX12_does_85
      rw [if_neg hc36] at h
      refine lv_aload_n hx hb dX12_does_39 rfl (lv_at hl 0 rfl) ?_
      obtain ⟨t3, ht3, h⟩ := Option.bind_eq_some_iff.mp h
      refine xr_getP X O ht3 fl_X12_13 dX12_does_40 ?_
      refine lv_bipush (v := (67 : Int32)) hx hb dX12_does_43 (by decide) ?_
      refine lv_iload_n hx hb dX12_does_45 rfl (lv_at hl 1 rfl) ?_
      refine lv_bipush (v := (100 : Int32)) hx hb dX12_does_46 (by decide) ?_
      refine lv_irem hx hb dX12_does_48 (by decide) ?_
      refine lv_iadd hx hb dX12_does_49 ?_
      refine lv_dup2_11 hx hb dX12_does_50 rfl rfl ?_
      obtain ⟨t4, ht4, h⟩ := Option.bind_eq_some_iff.mp h
      refine xr_aldI X O ht4 dX12_does_51 ?_
      refine lv_iload_n hx hb dX12_does_52 rfl (lv_at hl 1 rfl) ?_
      refine lv_sipush (v := (200 : Int32)) hx hb dX12_does_53 (by decide) ?_
      refine lv_icmp_ge (tgt := 63) hx hb dX12_does_56 (by decide) (fun hc56 => ?_) (fun hc56 => ?_)
      · rw [if_pos hc56] at h
        refine lv_iconst (v := (-1 : Int32)) hx hb dX12_does_63 (by decide) ?_
        exact F_X12_does_64_ok X hr hlk (-1 : Int32) t4 ((67 : Int32) + (a1 - a1 / (100 : Int32) * (100 : Int32))) t3 M _ h hK H locs ls O (lv_sub hl [] rfl)
      rw [if_neg hc56] at h
      refine lv_iconst (v := (1 : Int32)) hx hb dX12_does_59 (by decide) ?_
      refine lv_goto (tgt := 64) hx hb dX12_does_60 (by decide) ?_
      exact F_X12_does_64_ok X hr hlk (1 : Int32) t4 ((67 : Int32) + (a1 - a1 / (100 : Int32) * (100 : Int32))) t3 M _ h hK H locs ls O (lv_sub hl [] rfl)
    rw [if_neg hc15] at h
    refine lv_aload_n hx hb dX12_does_18 rfl (lv_at hl 0 rfl) ?_
    obtain ⟨t5, ht5, h⟩ := Option.bind_eq_some_iff.mp h
    refine xr_getP X O ht5 fl_X12_13 dX12_does_19 ?_
    refine lv_bipush (v := (106 : Int32)) hx hb dX12_does_22 (by decide) ?_
    refine lv_iload_n hx hb dX12_does_24 rfl (lv_at hl 1 rfl) ?_
    refine lv_bipush (v := (10 : Int32)) hx hb dX12_does_25 (by decide) ?_
    refine lv_isub hx hb dX12_does_27 ?_
    obtain ⟨t6, ht6, h⟩ := Option.bind_eq_some_iff.mp h
    refine xr_stI X O ht6 dX12_does_28 (fun H locs O => ?_)
    refine lv_goto (tgt := 85) hx hb dX12_does_29 (by decide) ?_
    rw [← Option.some.inj h] at hK
    have hK : t6 = mo := hK
    rw [hK] at O
    exact xr_vret X hr hlk O dX12_does_85
  rw [if_pos hc1] at h
  refine lv_aload_n hx hb dX12_does_4 rfl (lv_at hl 0 rfl) ?_
  refine lv_iconst (v := (1 : Int32)) hx hb dX12_does_5 (by decide) ?_
  obtain ⟨_, hut7, h⟩ := Option.bind_eq_some_iff.mp h
  obtain ⟨t8, ht8, h⟩ := Option.bind_eq_some_iff.mp h
  refine xr_callV (rest := []) X O (T_X12_goesMinutes l κ a0 (1 : Int32) M _ ht8) lk_X12_295 hut7 (Nat.le_of_ble_eq_true rfl) rfl hl.1 rfl (Nat.le_of_ble_eq_true rfl) dX12_does_6 ⟨Nat.le_of_ble_eq_true rfl, Nat.le_of_ble_eq_true rfl⟩ (fun H locs O => ?_)
  refine W.eq (g2 := F0 m 9 ls []) rfl ?_
  refine lv_goto (tgt := 85) hx hb dX12_does_9 (by decide) ?_
  rw [← Option.some.inj h] at hK
  have hK : t8 = mo := hK
  rw [hK] at O
  exact xr_vret X hr hlk O dX12_does_85
def F_X12_tells_43 (v2 : Int32) (M : xM) : Option (Int32 × xM) :=
some (v2, M)
def F_X12_tells_67 (v0 : Nat) (v1 : Int32) (M : xM) : Option (Int32 × xM) :=
(xgP M v0 12 34).bind fun t14 =>
(xaI M 20 t14 v1).bind fun t15 =>
some (t15, M)
def F_X12_tells_7b (v0 : Nat) (v1 : Int32) : (Int32 × xM) → Option ((Int32 × xM) ⊕ (Int32 × xM)) := fun ⟨v2, M⟩ =>
(xgP M v0 12 34).bind fun t2 =>
(xaI M 20 t2 v1).bind fun t3 =>
if t3 ≤ v2 then (
(F_X12_tells_67 v0 v1 M).map Sum.inr)
else (
(xgP M v0 12 35).bind fun t4 =>
(xaJ M t4 (((40 : Int32) * v1) + v2)).bind fun t5 =>
(xck M v0 12).bind fun _ =>
(F_X12_whyNot v0 t5 M).bind fun t7 =>
(xpI t7.2 v0 12 23 t7.1).bind fun t8 =>
(xgI t8 v0 12 23).bind fun t9 =>
if t9 = 0 then (
(xgP t8 v0 12 35).bind fun t10 =>
(xaJ t8 t10 (((40 : Int32) * v1) + v2)).bind fun t11 =>
(xck t8 v0 12).bind fun _ =>
(F_X12_does v0 t11.toInt32 t8).bind fun t13 =>
some (.inl ((v2 + 1), t13)))
else (
(F_X12_tells_43 v2 t8).map Sum.inr))
def F_X12_tells_7 (v0 : Nat) (v1 : Int32) (v2 : Int32) (M : xM) : Option (Int32 × xM) := xit (F_X12_tells_7b v0 v1) xFU (v2, M)
def F_X12_tells (a0 : Nat) (a1 : Int32) (M : xM) : Option (Int32 × xM) :=
(xpI M a0 12 23 (0 : Int32)).bind fun t1 =>
F_X12_tells_7 a0 a1 (0 : Int32) t1
set_option maxRecDepth 100000 in
set_option maxHeartbeats 4000000 in
theorem F_X12_tells_43_ok (X : xX p s m args c cX12_tells 3 RX12 κ) (hr : meth.sig.returnType = (some .int)) (hlk : meth.locks = false) {ro : Int32} {mo : xM} (v2 : Int32) (M : xM) (x : Int32 × xM) (h : F_X12_tells_43 v2 M = some x) (hK : (fun o => o = (ro, mo)) x) (H : Heap) (locs : List Loc) (ls : Array Slot) (O : xO κ s M H locs) (hl : lv_has ls 3 [(2, .int v2)]) : W p l e (xRm 10 0 0) s m args below meth c H locs 0 0 (xQf below args s 0 0 κ (some (.int ro)) mo) (F0 m 43 ls []) := by
  unfold F_X12_tells_43 at h
  have hx := X.1
  have hb := X.2.1
  refine lv_iload_n hx hb dX12_tells_43 rfl (lv_at hl 0 rfl) ?_
  rw [← Option.some.inj h] at hK
  have hK : (v2, M) = (ro, mo) := hK
  obtain ⟨hK1, hK2⟩ := Prod.mk.inj hK
  rw [hK2] at O
  refine xr_top (w := .int ro) (by rw [hK1]) ?_
  exact xr_iret X hr hlk O dX12_tells_44
set_option maxRecDepth 100000 in
set_option maxHeartbeats 4000000 in
theorem F_X12_tells_67_ok (X : xX p s m args c cX12_tells 3 RX12 κ) (hr : meth.sig.returnType = (some .int)) (hlk : meth.locks = false) {ro : Int32} {mo : xM} (v0 : Nat) (v1 : Int32) (M : xM) (x : Int32 × xM) (h : F_X12_tells_67 v0 v1 M = some x) (hK : (fun o => o = (ro, mo)) x) (H : Heap) (locs : List Loc) (ls : Array Slot) (O : xO κ s M H locs) (hl : lv_has ls 3 [(0, .ref (κ.1 + v0)), (1, .int v1)]) : W p l e (xRm 10 0 0) s m args below meth c H locs 0 0 (xQf below args s 0 0 κ (some (.int ro)) mo) (F0 m 67 ls []) := by
  unfold F_X12_tells_67 at h
  have hx := X.1
  have hb := X.2.1
  refine lv_aload_n hx hb dX12_tells_67 rfl (lv_at hl 0 rfl) ?_
  obtain ⟨t14, ht14, h⟩ := Option.bind_eq_some_iff.mp h
  refine xr_getP X O ht14 fl_X12_73 dX12_tells_68 ?_
  refine lv_iload_n hx hb dX12_tells_71 rfl (lv_at hl 1 rfl) ?_
  obtain ⟨t15, ht15, h⟩ := Option.bind_eq_some_iff.mp h
  refine xr_aldI X O ht15 dX12_tells_72 ?_
  rw [← Option.some.inj h] at hK
  have hK : (t15, M) = (ro, mo) := hK
  obtain ⟨hK1, hK2⟩ := Prod.mk.inj hK
  rw [hK2] at O
  refine xr_top (w := .int ro) (by rw [hK1]) ?_
  exact xr_iret X hr hlk O dX12_tells_73
set_option maxRecDepth 100000 in
set_option maxHeartbeats 4000000 in
theorem F_X12_tells_7_bok (X : xX p s m args c cX12_tells 3 RX12 κ) (hr : meth.sig.returnType = (some .int)) (hlk : meth.locks = false) {ro : Int32} {mo : xM} (v0 : Nat) (v1 : Int32) (v2 : Int32) {W7 : Int32 × xM → Prop} (hW7 : ∀ (v2 : Int32) (M : xM), W7 (v2, M) → ∀ (H : Heap) (locs : List Loc) (ls : Array Slot), xO κ s M H locs → lv_has ls 3 [(0, .ref (κ.1 + v0)), (1, .int v1), (2, .int v2)] → W p l e (xRm 10 0 0) s m args below meth c H locs 0 0 (xQf below args s 0 0 κ (some (.int ro)) mo) (F0 m 7 ls [])) (M : xM) (x : (Int32 × xM) ⊕ (Int32 × xM)) (h : F_X12_tells_7b v0 v1 (v2, M) = some x) (hK : (xKl W7 (fun o => o = (ro, mo))) x) (H : Heap) (locs : List Loc) (ls : Array Slot) (O : xO κ s M H locs) (hl : lv_has ls 3 [(0, .ref (κ.1 + v0)), (1, .int v1), (2, .int v2)]) : W p l e (xRm 10 0 0) s m args below meth c H locs 0 0 (xQf below args s 0 0 κ (some (.int ro)) mo) (F0 m 7 ls []) := by
  unfold F_X12_tells_7b at h
  dsimp only at h
  have hx := X.1
  have hb := X.2.1
  refine lv_iload_n hx hb dX12_tells_7 rfl (lv_at hl 2 rfl) ?_
  refine lv_aload_n hx hb dX12_tells_8 rfl (lv_at hl 0 rfl) ?_
  obtain ⟨t2, ht2, h⟩ := Option.bind_eq_some_iff.mp h
  refine xr_getP X O ht2 fl_X12_73 dX12_tells_9 ?_
  refine lv_iload_n hx hb dX12_tells_12 rfl (lv_at hl 1 rfl) ?_
  obtain ⟨t3, ht3, h⟩ := Option.bind_eq_some_iff.mp h
  refine xr_aldI X O ht3 dX12_tells_13 ?_
  refine lv_icmp_ge (tgt := 67) hx hb dX12_tells_14 (by decide) (fun hc14 => ?_) (fun hc14 => ?_)
  · rw [if_pos hc14] at h
    obtain ⟨_, hw0, ew0⟩ := Option.map_eq_some_iff.mp h
    rw [← ew0] at hK
    have h := hw0
    exact F_X12_tells_67_ok X hr hlk v0 v1 M _ h hK H locs ls O (lv_sub hl [0, 1] rfl)
  rw [if_neg hc14] at h
  refine lv_aload_n hx hb dX12_tells_17 rfl (lv_at hl 0 rfl) ?_
  refine lv_aload_n hx hb dX12_tells_18 rfl (lv_at hl 0 rfl) ?_
  refine lv_aload_n hx hb dX12_tells_19 rfl (lv_at hl 0 rfl) ?_
  obtain ⟨t4, ht4, h⟩ := Option.bind_eq_some_iff.mp h
  refine xr_getP X O ht4 fl_X12_76 dX12_tells_20 ?_
  refine lv_bipush (v := (40 : Int32)) hx hb dX12_tells_23 (by decide) ?_
  refine lv_iload_n hx hb dX12_tells_25 rfl (lv_at hl 1 rfl) ?_
  refine lv_imul hx hb dX12_tells_26 ?_
  refine lv_iload_n hx hb dX12_tells_27 rfl (lv_at hl 2 rfl) ?_
  refine lv_iadd hx hb dX12_tells_28 ?_
  obtain ⟨t5, ht5, h⟩ := Option.bind_eq_some_iff.mp h
  refine xr_aldJ X O ht5 dX12_tells_29 ?_
  obtain ⟨_, hut6, h⟩ := Option.bind_eq_some_iff.mp h
  obtain ⟨t7, ht7, h⟩ := Option.bind_eq_some_iff.mp h
  refine xr_callV (rest := [.ref (κ.1 + v0)]) X O (T_X12_whyNot l κ v0 t5 M _ _ ht7) lk_X12_341 hut6 (Nat.le_of_ble_eq_true rfl) rfl hl.1 rfl (Nat.le_of_ble_eq_true rfl) dX12_tells_30 ⟨Nat.le_of_ble_eq_true rfl, Nat.le_of_ble_eq_true rfl⟩ (fun H locs O => ?_)
  refine W.eq (g2 := F0 m 33 ls [.int t7.1, .ref (κ.1 + v0)]) rfl ?_
  obtain ⟨t8, ht8, h⟩ := Option.bind_eq_some_iff.mp h
  refine xr_putI X O ht8 fl_X12_338 dX12_tells_33 (fun H locs O => ?_)
  refine lv_aload_n hx hb dX12_tells_36 rfl (lv_at hl 0 rfl) ?_
  obtain ⟨t9, ht9, h⟩ := Option.bind_eq_some_iff.mp h
  refine xr_getI X O ht9 fl_X12_338 (Or.inl rfl) dX12_tells_37 ?_
  refine lv_if_eq (tgt := 45) hx hb dX12_tells_40 (by decide) (fun hc40 => ?_) (fun hc40 => ?_)
  · rw [if_pos hc40] at h
    refine lv_aload_n hx hb dX12_tells_45 rfl (lv_at hl 0 rfl) ?_
    refine lv_aload_n hx hb dX12_tells_46 rfl (lv_at hl 0 rfl) ?_
    obtain ⟨t10, ht10, h⟩ := Option.bind_eq_some_iff.mp h
    refine xr_getP X O ht10 fl_X12_76 dX12_tells_47 ?_
    refine lv_bipush (v := (40 : Int32)) hx hb dX12_tells_50 (by decide) ?_
    refine lv_iload_n hx hb dX12_tells_52 rfl (lv_at hl 1 rfl) ?_
    refine lv_imul hx hb dX12_tells_53 ?_
    refine lv_iload_n hx hb dX12_tells_54 rfl (lv_at hl 2 rfl) ?_
    refine lv_iadd hx hb dX12_tells_55 ?_
    obtain ⟨t11, ht11, h⟩ := Option.bind_eq_some_iff.mp h
    refine xr_aldJ X O ht11 dX12_tells_56 ?_
    refine lv_l2i (v := t11.toInt32) hx hb dX12_tells_57 rfl ?_
    obtain ⟨_, hut12, h⟩ := Option.bind_eq_some_iff.mp h
    obtain ⟨t13, ht13, h⟩ := Option.bind_eq_some_iff.mp h
    refine xr_callV (rest := []) X O (T_X12_does l κ v0 t11.toInt32 t8 _ ht13) lk_X12_345 hut12 (Nat.le_of_ble_eq_true rfl) rfl hl.1 rfl (Nat.le_of_ble_eq_true rfl) dX12_tells_58 ⟨Nat.le_of_ble_eq_true rfl, Nat.le_of_ble_eq_true rfl⟩ (fun H locs O => ?_)
    refine W.eq (g2 := F0 m 61 ls []) rfl ?_
    refine lv_iinc (v := (v2 + 1)) (lv' := [(2, .int (v2 + 1)), (0, .ref (κ.1 + v0)), (1, .int v1)]) hx hb dX12_tells_61 hl (k := 2) rfl rfl (by decide) rfl (fun ls hl => ?_)
    refine lv_goto (tgt := 7) hx hb dX12_tells_64 (by decide) ?_
    rw [← Option.some.inj h] at hK
    exact hW7 (v2 + 1) t13 hK H locs ls O (lv_sub hl [1, 2, 0] rfl)
  rw [if_neg hc40] at h
  obtain ⟨_, hw0, ew0⟩ := Option.map_eq_some_iff.mp h
  rw [← ew0] at hK
  have h := hw0
  exact F_X12_tells_43_ok X hr hlk v2 t8 _ h hK H locs ls O (lv_sub hl [2] rfl)
set_option maxRecDepth 100000 in
set_option maxHeartbeats 4000000 in
theorem F_X12_tells_7_ok (X : xX p s m args c cX12_tells 3 RX12 κ) (hr : meth.sig.returnType = (some .int)) (hlk : meth.locks = false) {ro : Int32} {mo : xM} (v0 : Nat) (v1 : Int32) (v2 : Int32) (M : xM) (x : Int32 × xM) (h : F_X12_tells_7 v0 v1 v2 M = some x) (hK : (fun o => o = (ro, mo)) x) (H : Heap) (locs : List Loc) (ls : Array Slot) (O : xO κ s M H locs) (hl : lv_has ls 3 [(0, .ref (κ.1 + v0)), (1, .int v1), (2, .int v2)]) : W p l e (xRm 10 0 0) s m args below meth c H locs 0 0 (xQf below args s 0 0 κ (some (.int ro)) mo) (F0 m 7 ls []) := by
  refine xit_K (Wh := fun x => ∀ (H : Heap) (locs : List Loc) (ls : Array Slot), xO κ s x.2 H locs → lv_has ls 3 [(0, .ref (κ.1 + v0)), (1, .int v1), (2, .int x.1)] → W p l e (xRm 10 0 0) s m args below meth c H locs 0 0 (xQf below args s 0 0 κ (some (.int ro)) mo) (F0 m 7 ls [])) (Kp := (fun o => o = (ro, mo))) ?_ xFU (v2, M) x h hK H locs ls O hl
  intro y x h hK H locs ls O hl
  exact F_X12_tells_7_bok X hr hlk v0 v1 y.1 (fun _ _ hw => hw) y.2 x h hK H locs ls O hl
set_option maxRecDepth 100000 in
set_option maxHeartbeats 4000000 in
theorem T_X12_tells (l : Launch) (κ : xQ) (a0 : Nat) (a1 : Int32) (M : xM) (ro : Int32) (mo : xM) (h : F_X12_tells a0 a1 M = some (ro, mo)) : xC l yX12_tells cX12_tells 3 (some .int) 10 0 0 κ [.ref (κ.1 + a0), .int a1] M (some (.int ro)) mo := by
  refine xC_of rfl (Nat.le_of_ble_eq_true rfl) fun p e s m args below meth c X hr hlk hnm H locs ls O hl => ?_
  have X : xX p s m args c cX12_tells 3 RX12 κ := X
  have hl : lv_has ls 3 [(0, .ref (κ.1 + a0)), (1, .int a1)] := hl
  have hx := X.1
  have hb := X.2.1
  obtain ⟨x, hx0⟩ : ∃ x, (ro, mo) = x := ⟨_, rfl⟩
  rw [hx0] at h
  have hK : x = (ro, mo) := hx0.symm
  unfold F_X12_tells at h
  refine lv_aload_n hx hb dX12_tells_0 rfl (lv_at hl 0 rfl) ?_
  refine lv_iconst (v := (0 : Int32)) hx hb dX12_tells_1 (by decide) ?_
  obtain ⟨t1, ht1, h⟩ := Option.bind_eq_some_iff.mp h
  refine xr_putI X O ht1 fl_X12_338 dX12_tells_2 (fun H locs O => ?_)
  refine lv_iconst (v := (0 : Int32)) hx hb dX12_tells_5 (by decide) ?_
  refine lv_istore_n (lv' := [(2, .int (0 : Int32)), (0, .ref (κ.1 + a0)), (1, .int a1)]) hx hb dX12_tells_6 rfl hl (by decide) rfl (fun ls hl => ?_)
  exact F_X12_tells_7_ok X hr hlk a0 a1 (0 : Int32) t1 _ h hK H locs ls O (lv_sub hl [1, 2, 0] rfl)
def F_X12_noTray (a0 : Nat) (a1 : Int32) (M : xM) : Option (Int32 × xM) :=
(F_X12_within a1.toInt64 (0 : Int64) (3 : Int64) M).bind fun t1 =>
if t1.1 = 0 then (
some ((-2 : Int32), t1.2))
else (
(xgP t1.2 a0 12 33).bind fun t2 =>
(xaI t1.2 20 t2 a1).bind fun t3 =>
if t3 = (-1 : Int32) then (
some ((-6 : Int32), t1.2))
else (
some ((0 : Int32), t1.2)))
set_option maxRecDepth 100000 in
set_option maxHeartbeats 4000000 in
theorem T_X12_noTray (l : Launch) (κ : xQ) (a0 : Nat) (a1 : Int32) (M : xM) (ro : Int32) (mo : xM) (h : F_X12_noTray a0 a1 M = some (ro, mo)) : xC l yX12_noTray cX12_noTray 2 (some .int) 3 0 0 κ [.ref (κ.1 + a0), .int a1] M (some (.int ro)) mo := by
  refine xC_of rfl (Nat.le_of_ble_eq_true rfl) fun p e s m args below meth c X hr hlk hnm H locs ls O hl => ?_
  have X : xX p s m args c cX12_noTray 2 RX12 κ := X
  have hl : lv_has ls 2 [(0, .ref (κ.1 + a0)), (1, .int a1)] := hl
  have hx := X.1
  have hb := X.2.1
  obtain ⟨x, hx0⟩ : ∃ x, (ro, mo) = x := ⟨_, rfl⟩
  rw [hx0] at h
  have hK : x = (ro, mo) := hx0.symm
  unfold F_X12_noTray at h
  refine lv_iload_n hx hb dX12_noTray_0 rfl (lv_at hl 1 rfl) ?_
  refine lv_i2l (v := a1.toInt64) hx hb dX12_noTray_1 rfl ?_
  refine lv_lconst (v := (0 : Int64)) hx hb dX12_noTray_2 (by decide) ?_
  refine lv_ldc2 (v := (3 : Int64)) hx hb X.2.2.2.1 (X.2.2.2.2.1 _ ct_X12_348) dX12_noTray_3 ?_
  obtain ⟨t1, ht1, h⟩ := Option.bind_eq_some_iff.mp h
  refine xr_callS (rest := []) X O (T_X12_within l κ a1.toInt64 (0 : Int64) (3 : Int64) M _ _ ht1) lk_X12_145 (Nat.le_of_ble_eq_true rfl) rfl hl.1 rfl (Nat.le_of_ble_eq_true rfl) dX12_noTray_6 ⟨Nat.le_of_ble_eq_true rfl, Nat.le_of_ble_eq_true rfl⟩ (fun H locs O => ?_)
  refine W.eq (g2 := F0 m 9 ls [.int t1.1]) rfl ?_
  refine lv_if_ne (tgt := 17) hx hb dX12_noTray_9 (by decide) (fun hc9 => ?_) (fun hc9 => ?_)
  · rw [if_neg hc9] at h
    refine lv_aload_n hx hb dX12_noTray_17 rfl (lv_at hl 0 rfl) ?_
    obtain ⟨t2, ht2, h⟩ := Option.bind_eq_some_iff.mp h
    refine xr_getP X O ht2 fl_X12_70 dX12_noTray_18 ?_
    refine lv_iload_n hx hb dX12_noTray_21 rfl (lv_at hl 1 rfl) ?_
    obtain ⟨t3, ht3, h⟩ := Option.bind_eq_some_iff.mp h
    refine xr_aldI X O ht3 dX12_noTray_22 ?_
    refine lv_iconst (v := (-1 : Int32)) hx hb dX12_noTray_23 (by decide) ?_
    refine lv_icmp_ne (tgt := 32) hx hb dX12_noTray_24 (by decide) (fun hc24 => ?_) (fun hc24 => ?_)
    · rw [if_neg hc24] at h
      refine lv_iconst (v := (0 : Int32)) hx hb dX12_noTray_32 (by decide) ?_
      rw [← Option.some.inj h] at hK
      have hK : ((0 : Int32), t1.2) = (ro, mo) := hK
      obtain ⟨hK1, hK2⟩ := Prod.mk.inj hK
      rw [hK2] at O
      refine xr_top (w := .int ro) (by rw [hK1]) ?_
      exact xr_iret X hr hlk O dX12_noTray_33
    rw [if_pos hc24] at h
    refine lv_bipush (v := (-6 : Int32)) hx hb dX12_noTray_27 (by decide) ?_
    refine lv_goto (tgt := 33) hx hb dX12_noTray_29 (by decide) ?_
    rw [← Option.some.inj h] at hK
    have hK : ((-6 : Int32), t1.2) = (ro, mo) := hK
    obtain ⟨hK1, hK2⟩ := Prod.mk.inj hK
    rw [hK2] at O
    refine xr_top (w := .int ro) (by rw [hK1]) ?_
    exact xr_iret X hr hlk O dX12_noTray_33
  rw [if_pos hc9] at h
  refine lv_bipush (v := (-2 : Int32)) hx hb dX12_noTray_12 (by decide) ?_
  refine lv_goto (tgt := 33) hx hb dX12_noTray_14 (by decide) ?_
  rw [← Option.some.inj h] at hK
  have hK : ((-2 : Int32), t1.2) = (ro, mo) := hK
  obtain ⟨hK1, hK2⟩ := Prod.mk.inj hK
  rw [hK2] at O
  refine xr_top (w := .int ro) (by rw [hK1]) ?_
  exact xr_iret X hr hlk O dX12_noTray_33
def F_X12_sandSum_31 (v1 : Int32) (M : xM) : Option (Int32 × xM) :=
some (v1, M)
def F_X12_sandSum_4b (v0 : Nat) : (Int32 × Int32 × xM) → Option ((Int32 × Int32 × xM) ⊕ (Int32 × xM)) := fun ⟨v1, v2, M⟩ =>
(xck M v0 12).bind fun _ =>
(F_X12_isCell v0 v2.toInt64 M).bind fun t2 =>
if t2.1 = 0 then (
(F_X12_sandSum_31 v1 t2.2).map Sum.inr)
else (
(xgP t2.2 v0 12 1).bind fun t3 =>
(xaI t2.2 20 t3 ((67 : Int32) + v2)).bind fun t4 =>
(some ((v1 + t4))).bind fun t5 =>
some (.inl (t5, (v2 + 1), t2.2)))
def F_X12_sandSum_4 (v0 : Nat) (v1 : Int32) (v2 : Int32) (M : xM) : Option (Int32 × xM) := xit (F_X12_sandSum_4b v0) xFU (v1, v2, M)
def F_X12_sandSum (a0 : Nat) (M : xM) : Option (Int32 × xM) :=
F_X12_sandSum_4 a0 (0 : Int32) (0 : Int32) M
set_option maxRecDepth 100000 in
set_option maxHeartbeats 4000000 in
theorem F_X12_sandSum_31_ok (X : xX p s m args c cX12_sandSum 3 RX12 κ) (hr : meth.sig.returnType = (some .int)) (hlk : meth.locks = false) {ro : Int32} {mo : xM} (v1 : Int32) (M : xM) (x : Int32 × xM) (h : F_X12_sandSum_31 v1 M = some x) (hK : (fun o => o = (ro, mo)) x) (H : Heap) (locs : List Loc) (ls : Array Slot) (O : xO κ s M H locs) (hl : lv_has ls 3 [(1, .int v1)]) : W p l e (xRm 4 0 0) s m args below meth c H locs 0 0 (xQf below args s 0 0 κ (some (.int ro)) mo) (F0 m 31 ls []) := by
  unfold F_X12_sandSum_31 at h
  have hx := X.1
  have hb := X.2.1
  refine lv_iload_n hx hb dX12_sandSum_31 rfl (lv_at hl 0 rfl) ?_
  rw [← Option.some.inj h] at hK
  have hK : (v1, M) = (ro, mo) := hK
  obtain ⟨hK1, hK2⟩ := Prod.mk.inj hK
  rw [hK2] at O
  refine xr_top (w := .int ro) (by rw [hK1]) ?_
  exact xr_iret X hr hlk O dX12_sandSum_32
set_option maxRecDepth 100000 in
set_option maxHeartbeats 4000000 in
theorem F_X12_sandSum_4_bok (X : xX p s m args c cX12_sandSum 3 RX12 κ) (hr : meth.sig.returnType = (some .int)) (hlk : meth.locks = false) {ro : Int32} {mo : xM} (v0 : Nat) (v1 : Int32) (v2 : Int32) {W4 : Int32 × Int32 × xM → Prop} (hW4 : ∀ (v1 : Int32) (v2 : Int32) (M : xM), W4 (v1, v2, M) → ∀ (H : Heap) (locs : List Loc) (ls : Array Slot), xO κ s M H locs → lv_has ls 3 [(0, .ref (κ.1 + v0)), (1, .int v1), (2, .int v2)] → W p l e (xRm 4 0 0) s m args below meth c H locs 0 0 (xQf below args s 0 0 κ (some (.int ro)) mo) (F0 m 4 ls [])) (M : xM) (x : (Int32 × Int32 × xM) ⊕ (Int32 × xM)) (h : F_X12_sandSum_4b v0 (v1, v2, M) = some x) (hK : (xKl W4 (fun o => o = (ro, mo))) x) (H : Heap) (locs : List Loc) (ls : Array Slot) (O : xO κ s M H locs) (hl : lv_has ls 3 [(0, .ref (κ.1 + v0)), (1, .int v1), (2, .int v2)]) : W p l e (xRm 4 0 0) s m args below meth c H locs 0 0 (xQf below args s 0 0 κ (some (.int ro)) mo) (F0 m 4 ls []) := by
  unfold F_X12_sandSum_4b at h
  dsimp only at h
  have hx := X.1
  have hb := X.2.1
  refine lv_aload_n hx hb dX12_sandSum_4 rfl (lv_at hl 0 rfl) ?_
  refine lv_iload_n hx hb dX12_sandSum_5 rfl (lv_at hl 2 rfl) ?_
  refine lv_i2l (v := v2.toInt64) hx hb dX12_sandSum_6 rfl ?_
  obtain ⟨_, hut1, h⟩ := Option.bind_eq_some_iff.mp h
  obtain ⟨t2, ht2, h⟩ := Option.bind_eq_some_iff.mp h
  refine xr_callV (rest := []) X O (T_X12_isCell l κ v0 v2.toInt64 M _ _ ht2) lk_X12_230 hut1 (Nat.le_of_ble_eq_true rfl) rfl hl.1 rfl (Nat.le_of_ble_eq_true rfl) dX12_sandSum_7 ⟨Nat.le_of_ble_eq_true rfl, Nat.le_of_ble_eq_true rfl⟩ (fun H locs O => ?_)
  refine W.eq (g2 := F0 m 10 ls [.int t2.1]) rfl ?_
  refine lv_if_eq (tgt := 31) hx hb dX12_sandSum_10 (by decide) (fun hc10 => ?_) (fun hc10 => ?_)
  · rw [if_pos hc10] at h
    obtain ⟨_, hw0, ew0⟩ := Option.map_eq_some_iff.mp h
    rw [← ew0] at hK
    have h := hw0
    exact F_X12_sandSum_31_ok X hr hlk v1 t2.2 _ h hK H locs ls O (lv_sub hl [1] rfl)
  rw [if_neg hc10] at h
  refine lv_iload_n hx hb dX12_sandSum_13 rfl (lv_at hl 1 rfl) ?_
  refine lv_aload_n hx hb dX12_sandSum_14 rfl (lv_at hl 0 rfl) ?_
  obtain ⟨t3, ht3, h⟩ := Option.bind_eq_some_iff.mp h
  refine xr_getP X O ht3 fl_X12_13 dX12_sandSum_15 ?_
  refine lv_bipush (v := (67 : Int32)) hx hb dX12_sandSum_18 (by decide) ?_
  refine lv_iload_n hx hb dX12_sandSum_20 rfl (lv_at hl 2 rfl) ?_
  refine lv_iadd hx hb dX12_sandSum_21 ?_
  obtain ⟨t4, ht4, h⟩ := Option.bind_eq_some_iff.mp h
  refine xr_aldI X O ht4 dX12_sandSum_22 ?_
  refine lv_iadd hx hb dX12_sandSum_23 ?_
  obtain ⟨t5, ht5, h⟩ := Option.bind_eq_some_iff.mp h
  refine xr_top (w := .int t5) (by rw [Option.some.inj ht5]) ?_
  refine lv_istore_n (lv' := [(1, .int t5), (0, .ref (κ.1 + v0)), (2, .int v2)]) hx hb dX12_sandSum_24 rfl hl (by decide) rfl (fun ls hl => ?_)
  refine lv_iinc (v := (v2 + 1)) (lv' := [(2, .int (v2 + 1)), (1, .int t5), (0, .ref (κ.1 + v0))]) hx hb dX12_sandSum_25 hl (k := 2) rfl rfl (by decide) rfl (fun ls hl => ?_)
  refine lv_goto (tgt := 4) hx hb dX12_sandSum_28 (by decide) ?_
  rw [← Option.some.inj h] at hK
  exact hW4 t5 (v2 + 1) t2.2 hK H locs ls O (lv_sub hl [2, 1, 0] rfl)
set_option maxRecDepth 100000 in
set_option maxHeartbeats 4000000 in
theorem F_X12_sandSum_4_ok (X : xX p s m args c cX12_sandSum 3 RX12 κ) (hr : meth.sig.returnType = (some .int)) (hlk : meth.locks = false) {ro : Int32} {mo : xM} (v0 : Nat) (v1 : Int32) (v2 : Int32) (M : xM) (x : Int32 × xM) (h : F_X12_sandSum_4 v0 v1 v2 M = some x) (hK : (fun o => o = (ro, mo)) x) (H : Heap) (locs : List Loc) (ls : Array Slot) (O : xO κ s M H locs) (hl : lv_has ls 3 [(0, .ref (κ.1 + v0)), (1, .int v1), (2, .int v2)]) : W p l e (xRm 4 0 0) s m args below meth c H locs 0 0 (xQf below args s 0 0 κ (some (.int ro)) mo) (F0 m 4 ls []) := by
  refine xit_K (Wh := fun x => ∀ (H : Heap) (locs : List Loc) (ls : Array Slot), xO κ s x.2.2 H locs → lv_has ls 3 [(0, .ref (κ.1 + v0)), (1, .int x.1), (2, .int x.2.1)] → W p l e (xRm 4 0 0) s m args below meth c H locs 0 0 (xQf below args s 0 0 κ (some (.int ro)) mo) (F0 m 4 ls [])) (Kp := (fun o => o = (ro, mo))) ?_ xFU (v1, v2, M) x h hK H locs ls O hl
  intro y x h hK H locs ls O hl
  exact F_X12_sandSum_4_bok X hr hlk v0 y.1 y.2.1 (fun _ _ _ hw => hw) y.2.2 x h hK H locs ls O hl
set_option maxRecDepth 100000 in
set_option maxHeartbeats 4000000 in
theorem T_X12_sandSum (l : Launch) (κ : xQ) (a0 : Nat) (M : xM) (ro : Int32) (mo : xM) (h : F_X12_sandSum a0 M = some (ro, mo)) : xC l yX12_sandSum cX12_sandSum 3 (some .int) 4 0 0 κ [.ref (κ.1 + a0)] M (some (.int ro)) mo := by
  refine xC_of rfl (Nat.le_of_ble_eq_true rfl) fun p e s m args below meth c X hr hlk hnm H locs ls O hl => ?_
  have X : xX p s m args c cX12_sandSum 3 RX12 κ := X
  have hl : lv_has ls 3 [(0, .ref (κ.1 + a0))] := hl
  have hx := X.1
  have hb := X.2.1
  obtain ⟨x, hx0⟩ : ∃ x, (ro, mo) = x := ⟨_, rfl⟩
  rw [hx0] at h
  have hK : x = (ro, mo) := hx0.symm
  unfold F_X12_sandSum at h
  refine lv_iconst (v := (0 : Int32)) hx hb dX12_sandSum_0 (by decide) ?_
  refine lv_istore_n (lv' := [(1, .int (0 : Int32)), (0, .ref (κ.1 + a0))]) hx hb dX12_sandSum_1 rfl hl (by decide) rfl (fun ls hl => ?_)
  refine lv_iconst (v := (0 : Int32)) hx hb dX12_sandSum_2 (by decide) ?_
  refine lv_istore_n (lv' := [(2, .int (0 : Int32)), (1, .int (0 : Int32)), (0, .ref (κ.1 + a0))]) hx hb dX12_sandSum_3 rfl hl (by decide) rfl (fun ls hl => ?_)
  exact F_X12_sandSum_4_ok X hr hlk a0 (0 : Int32) (0 : Int32) M _ h hK H locs ls O (lv_sub hl [2, 1, 0] rfl)
def F_X12_judge (a0 : Nat) (a1 : Int32) (a2 : Int32) (M : xM) : Option (Int32 × xM) :=
(xpI M a0 12 0 (0 : Int32)).bind fun t1 =>
(F_X12_within a2.toInt64 (0 : Int64) (3 : Int64) t1).bind fun t2 =>
if t2.1 = 0 then (
some ((-2 : Int32), t2.2))
else (
(xck t2.2 a0 12).bind fun _ =>
(F_X12_noTray a0 a1 t2.2).bind fun t4 =>
if t4.1 = 0 then (
(xck t4.2 a0 12).bind fun _ =>
(F_X12_stores a0 t4.2).bind fun t6 =>
(xck t6 a0 12).bind fun _ =>
(F_X12_tells a0 a1 t6).bind fun t8 =>
(xck t8.2 a0 12).bind fun _ =>
(F_X12_sandSum a0 t8.2).bind fun t10 =>
(xck t10.2 a0 12).bind fun _ =>
(F_X12_standing a0 t10.2).bind fun t12 =>
(xck t12.2 a0 12).bind fun _ =>
(F_X12_isAgain a0 t12.2).bind fun t14 =>
if a2 = 0 then (
(xgI t14 a0 12 23).bind fun t16 =>
if t16 = 0 then (
some ((-1 : Int32), t14))
else (
some (t8.1, t14)))
else (
if a2 = (1 : Int32) then (
(xgI t14 a0 12 23).bind fun t15 =>
some (t15, t14))
else (
if a2 = (2 : Int32) then (
some (t10.1, t14))
else (
some (t12.1, t14)))))
else (
some (t4.1, t4.2)))
set_option maxRecDepth 100000 in
set_option maxHeartbeats 4000000 in
theorem T_X12_judge (l : Launch) (κ : xQ) (a0 : Nat) (a1 : Int32) (a2 : Int32) (M : xM) (ro : Int32) (mo : xM) (h : F_X12_judge a0 a1 a2 M = some (ro, mo)) : xC l yX12_judge cX12_judge 7 (some .int) 11 0 0 κ [.ref (κ.1 + a0), .int a1, .int a2] M (some (.int ro)) mo := by
  refine xC_of rfl (Nat.le_of_ble_eq_true rfl) fun p e s m args below meth c X hr hlk hnm H locs ls O hl => ?_
  have X : xX p s m args c cX12_judge 7 RX12 κ := X
  have hl : lv_has ls 7 [(0, .ref (κ.1 + a0)), (1, .int a1), (2, .int a2)] := hl
  have hx := X.1
  have hb := X.2.1
  obtain ⟨x, hx0⟩ : ∃ x, (ro, mo) = x := ⟨_, rfl⟩
  rw [hx0] at h
  have hK : x = (ro, mo) := hx0.symm
  unfold F_X12_judge at h
  refine lv_aload_n hx hb dX12_judge_0 rfl (lv_at hl 0 rfl) ?_
  refine lv_iconst (v := (0 : Int32)) hx hb dX12_judge_1 (by decide) ?_
  obtain ⟨t1, ht1, h⟩ := Option.bind_eq_some_iff.mp h
  refine xr_putI X O ht1 fl_X12_1 dX12_judge_2 (fun H locs O => ?_)
  refine lv_iload_n hx hb dX12_judge_5 rfl (lv_at hl 2 rfl) ?_
  refine lv_i2l (v := a2.toInt64) hx hb dX12_judge_6 rfl ?_
  refine lv_lconst (v := (0 : Int64)) hx hb dX12_judge_7 (by decide) ?_
  refine lv_ldc2 (v := (3 : Int64)) hx hb X.2.2.2.1 (X.2.2.2.2.1 _ ct_X12_348) dX12_judge_8 ?_
  obtain ⟨t2, ht2, h⟩ := Option.bind_eq_some_iff.mp h
  refine xr_callS (rest := []) X O (T_X12_within l κ a2.toInt64 (0 : Int64) (3 : Int64) t1 _ _ ht2) lk_X12_145 (Nat.le_of_ble_eq_true rfl) rfl hl.1 rfl (Nat.le_of_ble_eq_true rfl) dX12_judge_11 ⟨Nat.le_of_ble_eq_true rfl, Nat.le_of_ble_eq_true rfl⟩ (fun H locs O => ?_)
  refine W.eq (g2 := F0 m 14 ls [.int t2.1]) rfl ?_
  refine lv_if_ne (tgt := 20) hx hb dX12_judge_14 (by decide) (fun hc14 => ?_) (fun hc14 => ?_)
  · rw [if_neg hc14] at h
    refine lv_aload_n hx hb dX12_judge_20 rfl (lv_at hl 0 rfl) ?_
    refine lv_iload_n hx hb dX12_judge_21 rfl (lv_at hl 1 rfl) ?_
    obtain ⟨_, hut3, h⟩ := Option.bind_eq_some_iff.mp h
    obtain ⟨t4, ht4, h⟩ := Option.bind_eq_some_iff.mp h
    refine xr_callV (rest := []) X O (T_X12_noTray l κ a0 a1 t2.2 _ _ ht4) lk_X12_350 hut3 (Nat.le_of_ble_eq_true rfl) rfl hl.1 rfl (Nat.le_of_ble_eq_true rfl) dX12_judge_22 ⟨Nat.le_of_ble_eq_true rfl, Nat.le_of_ble_eq_true rfl⟩ (fun H locs O => ?_)
    refine W.eq (g2 := F0 m 25 ls [.int t4.1]) rfl ?_
    refine lv_istore_n (lv' := [(3, .int t4.1), (0, .ref (κ.1 + a0)), (1, .int a1), (2, .int a2)]) hx hb dX12_judge_25 rfl hl (by decide) rfl (fun ls hl => ?_)
    refine lv_iload_n hx hb dX12_judge_26 rfl (lv_at hl 0 rfl) ?_
    refine lv_if_eq (tgt := 32) hx hb dX12_judge_27 (by decide) (fun hc27 => ?_) (fun hc27 => ?_)
    · rw [if_pos hc27] at h
      refine lv_aload_n hx hb dX12_judge_32 rfl (lv_at hl 1 rfl) ?_
      obtain ⟨_, hut5, h⟩ := Option.bind_eq_some_iff.mp h
      obtain ⟨t6, ht6, h⟩ := Option.bind_eq_some_iff.mp h
      refine xr_callV (rest := []) X O (T_X12_stores l κ a0 t4.2 _ ht6) lk_X12_292 hut5 (Nat.le_of_ble_eq_true rfl) rfl hl.1 rfl (Nat.le_of_ble_eq_true rfl) dX12_judge_33 ⟨Nat.le_of_ble_eq_true rfl, Nat.le_of_ble_eq_true rfl⟩ (fun H locs O => ?_)
      refine W.eq (g2 := F0 m 36 ls []) rfl ?_
      refine lv_aload_n hx hb dX12_judge_36 rfl (lv_at hl 1 rfl) ?_
      refine lv_iload_n hx hb dX12_judge_37 rfl (lv_at hl 2 rfl) ?_
      obtain ⟨_, hut7, h⟩ := Option.bind_eq_some_iff.mp h
      obtain ⟨t8, ht8, h⟩ := Option.bind_eq_some_iff.mp h
      refine xr_callV (rest := []) X O (T_X12_tells l κ a0 a1 t6 _ _ ht8) lk_X12_353 hut7 (Nat.le_of_ble_eq_true rfl) rfl hl.1 rfl (Nat.le_of_ble_eq_true rfl) dX12_judge_38 ⟨Nat.le_of_ble_eq_true rfl, Nat.le_of_ble_eq_true rfl⟩ (fun H locs O => ?_)
      refine W.eq (g2 := F0 m 41 ls [.int t8.1]) rfl ?_
      refine lv_istore (lv' := [(4, .int t8.1), (3, .int t4.1), (0, .ref (κ.1 + a0)), (1, .int a1), (2, .int a2)]) hx hb dX12_judge_41 hl (by decide) rfl (fun ls hl => ?_)
      refine lv_aload_n hx hb dX12_judge_43 rfl (lv_at hl 2 rfl) ?_
      obtain ⟨_, hut9, h⟩ := Option.bind_eq_some_iff.mp h
      obtain ⟨t10, ht10, h⟩ := Option.bind_eq_some_iff.mp h
      refine xr_callV (rest := []) X O (T_X12_sandSum l κ a0 t8.2 _ _ ht10) lk_X12_356 hut9 (Nat.le_of_ble_eq_true rfl) rfl hl.1 rfl (Nat.le_of_ble_eq_true rfl) dX12_judge_44 ⟨Nat.le_of_ble_eq_true rfl, Nat.le_of_ble_eq_true rfl⟩ (fun H locs O => ?_)
      refine W.eq (g2 := F0 m 47 ls [.int t10.1]) rfl ?_
      refine lv_istore (lv' := [(5, .int t10.1), (4, .int t8.1), (3, .int t4.1), (0, .ref (κ.1 + a0)), (1, .int a1), (2, .int a2)]) hx hb dX12_judge_47 hl (by decide) rfl (fun ls hl => ?_)
      refine lv_aload_n hx hb dX12_judge_49 rfl (lv_at hl 3 rfl) ?_
      obtain ⟨_, hut11, h⟩ := Option.bind_eq_some_iff.mp h
      obtain ⟨t12, ht12, h⟩ := Option.bind_eq_some_iff.mp h
      refine xr_callV (rest := []) X O (T_X12_standing l κ a0 t10.2 _ _ ht12) lk_X12_301 hut11 (Nat.le_of_ble_eq_true rfl) rfl hl.1 rfl (Nat.le_of_ble_eq_true rfl) dX12_judge_50 ⟨Nat.le_of_ble_eq_true rfl, Nat.le_of_ble_eq_true rfl⟩ (fun H locs O => ?_)
      refine W.eq (g2 := F0 m 53 ls [.int t12.1]) rfl ?_
      refine lv_istore (lv' := [(6, .int t12.1), (5, .int t10.1), (4, .int t8.1), (3, .int t4.1), (0, .ref (κ.1 + a0)), (1, .int a1), (2, .int a2)]) hx hb dX12_judge_53 hl (by decide) rfl (fun ls hl => ?_)
      refine lv_aload_n hx hb dX12_judge_55 rfl (lv_at hl 4 rfl) ?_
      obtain ⟨_, hut13, h⟩ := Option.bind_eq_some_iff.mp h
      obtain ⟨t14, ht14, h⟩ := Option.bind_eq_some_iff.mp h
      refine xr_callV (rest := []) X O (T_X12_isAgain l κ a0 t12.2 _ ht14) lk_X12_359 hut13 (Nat.le_of_ble_eq_true rfl) rfl hl.1 rfl (Nat.le_of_ble_eq_true rfl) dX12_judge_56 ⟨Nat.le_of_ble_eq_true rfl, Nat.le_of_ble_eq_true rfl⟩ (fun H locs O => ?_)
      refine W.eq (g2 := F0 m 59 ls []) rfl ?_
      refine lv_iload_n hx hb dX12_judge_59 rfl (lv_at hl 6 rfl) ?_
      refine lv_if_ne (tgt := 79) hx hb dX12_judge_60 (by decide) (fun hc60 => ?_) (fun hc60 => ?_)
      · rw [if_neg hc60] at h
        refine lv_iload_n hx hb dX12_judge_79 rfl (lv_at hl 6 rfl) ?_
        refine lv_iconst (v := (1 : Int32)) hx hb dX12_judge_80 (by decide) ?_
        refine lv_icmp_ne (tgt := 91) hx hb dX12_judge_81 (by decide) (fun hc81 => ?_) (fun hc81 => ?_)
        · rw [if_neg hc81] at h
          refine lv_iload_n hx hb dX12_judge_91 rfl (lv_at hl 6 rfl) ?_
          refine lv_iconst (v := (2 : Int32)) hx hb dX12_judge_92 (by decide) ?_
          refine lv_icmp_ne (tgt := 101) hx hb dX12_judge_93 (by decide) (fun hc93 => ?_) (fun hc93 => ?_)
          · rw [if_neg hc93] at h
            refine lv_iload hx hb dX12_judge_101 (lv_at hl 0 rfl) ?_
            rw [← Option.some.inj h] at hK
            have hK : (t12.1, t14) = (ro, mo) := hK
            obtain ⟨hK1, hK2⟩ := Prod.mk.inj hK
            rw [hK2] at O
            refine xr_top (w := .int ro) (by rw [hK1]) ?_
            exact xr_iret X hr hlk O dX12_judge_103
          rw [if_pos hc93] at h
          refine lv_iload hx hb dX12_judge_96 (lv_at hl 1 rfl) ?_
          refine lv_goto (tgt := 103) hx hb dX12_judge_98 (by decide) ?_
          rw [← Option.some.inj h] at hK
          have hK : (t10.1, t14) = (ro, mo) := hK
          obtain ⟨hK1, hK2⟩ := Prod.mk.inj hK
          rw [hK2] at O
          refine xr_top (w := .int ro) (by rw [hK1]) ?_
          exact xr_iret X hr hlk O dX12_judge_103
        rw [if_pos hc81] at h
        refine lv_aload_n hx hb dX12_judge_84 rfl (lv_at hl 4 rfl) ?_
        obtain ⟨t15, ht15, h⟩ := Option.bind_eq_some_iff.mp h
        refine xr_getI X O ht15 fl_X12_338 (Or.inl rfl) dX12_judge_85 ?_
        refine lv_goto (tgt := 103) hx hb dX12_judge_88 (by decide) ?_
        rw [← Option.some.inj h] at hK
        have hK : (t15, t14) = (ro, mo) := hK
        obtain ⟨hK1, hK2⟩ := Prod.mk.inj hK
        rw [hK2] at O
        refine xr_top (w := .int ro) (by rw [hK1]) ?_
        exact xr_iret X hr hlk O dX12_judge_103
      rw [if_pos hc60] at h
      refine lv_aload_n hx hb dX12_judge_63 rfl (lv_at hl 4 rfl) ?_
      obtain ⟨t16, ht16, h⟩ := Option.bind_eq_some_iff.mp h
      refine xr_getI X O ht16 fl_X12_338 (Or.inl rfl) dX12_judge_64 ?_
      refine lv_if_ne (tgt := 74) hx hb dX12_judge_67 (by decide) (fun hc67 => ?_) (fun hc67 => ?_)
      · rw [if_neg hc67] at h
        refine lv_iload hx hb dX12_judge_74 (lv_at hl 2 rfl) ?_
        refine lv_goto (tgt := 103) hx hb dX12_judge_76 (by decide) ?_
        rw [← Option.some.inj h] at hK
        have hK : (t8.1, t14) = (ro, mo) := hK
        obtain ⟨hK1, hK2⟩ := Prod.mk.inj hK
        rw [hK2] at O
        refine xr_top (w := .int ro) (by rw [hK1]) ?_
        exact xr_iret X hr hlk O dX12_judge_103
      rw [if_pos hc67] at h
      refine lv_iconst (v := (-1 : Int32)) hx hb dX12_judge_70 (by decide) ?_
      refine lv_goto (tgt := 103) hx hb dX12_judge_71 (by decide) ?_
      rw [← Option.some.inj h] at hK
      have hK : ((-1 : Int32), t14) = (ro, mo) := hK
      obtain ⟨hK1, hK2⟩ := Prod.mk.inj hK
      rw [hK2] at O
      refine xr_top (w := .int ro) (by rw [hK1]) ?_
      exact xr_iret X hr hlk O dX12_judge_103
    rw [if_neg hc27] at h
    refine lv_iload_n hx hb dX12_judge_30 rfl (lv_at hl 0 rfl) ?_
    rw [← Option.some.inj h] at hK
    have hK : (t4.1, t4.2) = (ro, mo) := hK
    obtain ⟨hK1, hK2⟩ := Prod.mk.inj hK
    rw [hK2] at O
    refine xr_top (w := .int ro) (by rw [hK1]) ?_
    exact xr_iret X hr hlk O dX12_judge_31
  rw [if_pos hc14] at h
  refine lv_bipush (v := (-2 : Int32)) hx hb dX12_judge_17 (by decide) ?_
  rw [← Option.some.inj h] at hK
  have hK : ((-2 : Int32), t2.2) = (ro, mo) := hK
  obtain ⟨hK1, hK2⟩ := Prod.mk.inj hK
  rw [hK2] at O
  refine xr_top (w := .int ro) (by rw [hK1]) ?_
  exact xr_iret X hr hlk O dX12_judge_19
def F_X12_perform (a0 : Nat) (a1 : Int32) (M : xM) : Option (Int32 × xM) :=
(xpI M a0 12 0 (0 : Int32)).bind fun t1 =>
(xck t1 a0 12).bind fun _ =>
(F_X12_noTray a0 a1 t1).bind fun t3 =>
if t3.1 = 0 then (
(xck t3.2 a0 12).bind fun _ =>
(F_X12_stores a0 t3.2).bind fun t5 =>
(xck t5 a0 12).bind fun _ =>
(F_X12_tells a0 a1 t5).bind fun t7 =>
if t7.1 ≤ 0 then (
some (t7.1, t7.2))
else (
(xck t7.2 a0 12).bind fun _ =>
(F_X12_notes a0 t7.2).bind fun t9 =>
some (t7.1, t9)))
else (
some (t3.1, t3.2))
set_option maxRecDepth 100000 in
set_option maxHeartbeats 4000000 in
theorem T_X12_perform (l : Launch) (κ : xQ) (a0 : Nat) (a1 : Int32) (M : xM) (ro : Int32) (mo : xM) (h : F_X12_perform a0 a1 M = some (ro, mo)) : xC l yX12_perform cX12_perform 4 (some .int) 11 0 0 κ [.ref (κ.1 + a0), .int a1] M (some (.int ro)) mo := by
  refine xC_of rfl (Nat.le_of_ble_eq_true rfl) fun p e s m args below meth c X hr hlk hnm H locs ls O hl => ?_
  have X : xX p s m args c cX12_perform 4 RX12 κ := X
  have hl : lv_has ls 4 [(0, .ref (κ.1 + a0)), (1, .int a1)] := hl
  have hx := X.1
  have hb := X.2.1
  obtain ⟨x, hx0⟩ : ∃ x, (ro, mo) = x := ⟨_, rfl⟩
  rw [hx0] at h
  have hK : x = (ro, mo) := hx0.symm
  unfold F_X12_perform at h
  refine lv_aload_n hx hb dX12_perform_0 rfl (lv_at hl 0 rfl) ?_
  refine lv_iconst (v := (0 : Int32)) hx hb dX12_perform_1 (by decide) ?_
  obtain ⟨t1, ht1, h⟩ := Option.bind_eq_some_iff.mp h
  refine xr_putI X O ht1 fl_X12_1 dX12_perform_2 (fun H locs O => ?_)
  refine lv_aload_n hx hb dX12_perform_5 rfl (lv_at hl 0 rfl) ?_
  refine lv_iload_n hx hb dX12_perform_6 rfl (lv_at hl 1 rfl) ?_
  obtain ⟨_, hut2, h⟩ := Option.bind_eq_some_iff.mp h
  obtain ⟨t3, ht3, h⟩ := Option.bind_eq_some_iff.mp h
  refine xr_callV (rest := []) X O (T_X12_noTray l κ a0 a1 t1 _ _ ht3) lk_X12_350 hut2 (Nat.le_of_ble_eq_true rfl) rfl hl.1 rfl (Nat.le_of_ble_eq_true rfl) dX12_perform_7 ⟨Nat.le_of_ble_eq_true rfl, Nat.le_of_ble_eq_true rfl⟩ (fun H locs O => ?_)
  refine W.eq (g2 := F0 m 10 ls [.int t3.1]) rfl ?_
  refine lv_istore_n (lv' := [(2, .int t3.1), (0, .ref (κ.1 + a0)), (1, .int a1)]) hx hb dX12_perform_10 rfl hl (by decide) rfl (fun ls hl => ?_)
  refine lv_iload_n hx hb dX12_perform_11 rfl (lv_at hl 0 rfl) ?_
  refine lv_if_eq (tgt := 17) hx hb dX12_perform_12 (by decide) (fun hc12 => ?_) (fun hc12 => ?_)
  · rw [if_pos hc12] at h
    refine lv_aload_n hx hb dX12_perform_17 rfl (lv_at hl 1 rfl) ?_
    obtain ⟨_, hut4, h⟩ := Option.bind_eq_some_iff.mp h
    obtain ⟨t5, ht5, h⟩ := Option.bind_eq_some_iff.mp h
    refine xr_callV (rest := []) X O (T_X12_stores l κ a0 t3.2 _ ht5) lk_X12_292 hut4 (Nat.le_of_ble_eq_true rfl) rfl hl.1 rfl (Nat.le_of_ble_eq_true rfl) dX12_perform_18 ⟨Nat.le_of_ble_eq_true rfl, Nat.le_of_ble_eq_true rfl⟩ (fun H locs O => ?_)
    refine W.eq (g2 := F0 m 21 ls []) rfl ?_
    refine lv_aload_n hx hb dX12_perform_21 rfl (lv_at hl 1 rfl) ?_
    refine lv_iload_n hx hb dX12_perform_22 rfl (lv_at hl 2 rfl) ?_
    obtain ⟨_, hut6, h⟩ := Option.bind_eq_some_iff.mp h
    obtain ⟨t7, ht7, h⟩ := Option.bind_eq_some_iff.mp h
    refine xr_callV (rest := []) X O (T_X12_tells l κ a0 a1 t5 _ _ ht7) lk_X12_353 hut6 (Nat.le_of_ble_eq_true rfl) rfl hl.1 rfl (Nat.le_of_ble_eq_true rfl) dX12_perform_23 ⟨Nat.le_of_ble_eq_true rfl, Nat.le_of_ble_eq_true rfl⟩ (fun H locs O => ?_)
    refine W.eq (g2 := F0 m 26 ls [.int t7.1]) rfl ?_
    refine lv_istore_n (lv' := [(3, .int t7.1), (2, .int t3.1), (0, .ref (κ.1 + a0)), (1, .int a1)]) hx hb dX12_perform_26 rfl hl (by decide) rfl (fun ls hl => ?_)
    refine lv_iload_n hx hb dX12_perform_27 rfl (lv_at hl 0 rfl) ?_
    refine lv_if_le (tgt := 35) hx hb dX12_perform_28 (by decide) (fun hc28 => ?_) (fun hc28 => ?_)
    · rw [if_pos hc28] at h
      refine lv_iload_n hx hb dX12_perform_35 rfl (lv_at hl 0 rfl) ?_
      rw [← Option.some.inj h] at hK
      have hK : (t7.1, t7.2) = (ro, mo) := hK
      obtain ⟨hK1, hK2⟩ := Prod.mk.inj hK
      rw [hK2] at O
      refine xr_top (w := .int ro) (by rw [hK1]) ?_
      exact xr_iret X hr hlk O dX12_perform_36
    rw [if_neg hc28] at h
    refine lv_aload_n hx hb dX12_perform_31 rfl (lv_at hl 2 rfl) ?_
    obtain ⟨_, hut8, h⟩ := Option.bind_eq_some_iff.mp h
    obtain ⟨t9, ht9, h⟩ := Option.bind_eq_some_iff.mp h
    refine xr_callV (rest := []) X O (T_X12_notes l κ a0 t7.2 _ ht9) lk_X12_298 hut8 (Nat.le_of_ble_eq_true rfl) rfl hl.1 rfl (Nat.le_of_ble_eq_true rfl) dX12_perform_32 ⟨Nat.le_of_ble_eq_true rfl, Nat.le_of_ble_eq_true rfl⟩ (fun H locs O => ?_)
    refine W.eq (g2 := F0 m 35 ls []) rfl ?_
    refine lv_iload_n hx hb dX12_perform_35 rfl (lv_at hl 0 rfl) ?_
    rw [← Option.some.inj h] at hK
    have hK : (t7.1, t9) = (ro, mo) := hK
    obtain ⟨hK1, hK2⟩ := Prod.mk.inj hK
    rw [hK2] at O
    refine xr_top (w := .int ro) (by rw [hK1]) ?_
    exact xr_iret X hr hlk O dX12_perform_36
  rw [if_neg hc12] at h
  refine lv_iload_n hx hb dX12_perform_15 rfl (lv_at hl 0 rfl) ?_
  rw [← Option.some.inj h] at hK
  have hK : (t3.1, t3.2) = (ro, mo) := hK
  obtain ⟨hK1, hK2⟩ := Prod.mk.inj hK
  rw [hK2] at O
  refine xr_top (w := .int ro) (by rw [hK1]) ?_
  exact xr_iret X hr hlk O dX12_perform_16
def F_X12_draw (a0 : Nat) (a1 : Int32) (M : xM) : Option (Int32 × xM) :=
(xgI M a0 12 24).bind fun t1 =>
(xpI M a0 12 24 (((1103515245 : Int32) * t1) + (12345 : Int32))).bind fun t2 =>
(xgI t2 a0 12 24).bind fun t3 =>
if a1 = 0 then none else
some (((t3.toUInt32 >>> ((16 : Int32).toUInt32 &&& Int32.toUInt32 31)).toInt32 - (t3.toUInt32 >>> ((16 : Int32).toUInt32 &&& Int32.toUInt32 31)).toInt32 / a1 * a1), t2)
set_option maxRecDepth 100000 in
set_option maxHeartbeats 4000000 in
theorem T_X12_draw (l : Launch) (κ : xQ) (a0 : Nat) (a1 : Int32) (M : xM) (ro : Int32) (mo : xM) (h : F_X12_draw a0 a1 M = some (ro, mo)) : xC l yX12_draw cX12_draw 2 (some .int) 2 0 0 κ [.ref (κ.1 + a0), .int a1] M (some (.int ro)) mo := by
  refine xC_of rfl (Nat.le_of_ble_eq_true rfl) fun p e s m args below meth c X hr hlk hnm H locs ls O hl => ?_
  have X : xX p s m args c cX12_draw 2 RX12 κ := X
  have hl : lv_has ls 2 [(0, .ref (κ.1 + a0)), (1, .int a1)] := hl
  have hx := X.1
  have hb := X.2.1
  obtain ⟨x, hx0⟩ : ∃ x, (ro, mo) = x := ⟨_, rfl⟩
  rw [hx0] at h
  have hK : x = (ro, mo) := hx0.symm
  unfold F_X12_draw at h
  refine lv_aload_n hx hb dX12_draw_0 rfl (lv_at hl 0 rfl) ?_
  refine lv_ldcw (v := (1103515245 : Int32)) hx hb X.2.2.2.1 (X.2.2.2.2.1 _ ct_X12_362) dX12_draw_1 ?_
  refine lv_aload_n hx hb dX12_draw_4 rfl (lv_at hl 0 rfl) ?_
  obtain ⟨t1, ht1, h⟩ := Option.bind_eq_some_iff.mp h
  refine xr_getI X O ht1 fl_X12_363 (Or.inl rfl) dX12_draw_5 ?_
  refine lv_imul hx hb dX12_draw_8 ?_
  refine lv_sipush (v := (12345 : Int32)) hx hb dX12_draw_9 (by decide) ?_
  refine lv_iadd hx hb dX12_draw_12 ?_
  obtain ⟨t2, ht2, h⟩ := Option.bind_eq_some_iff.mp h
  refine xr_putI X O ht2 fl_X12_363 dX12_draw_13 (fun H locs O => ?_)
  refine lv_aload_n hx hb dX12_draw_16 rfl (lv_at hl 0 rfl) ?_
  obtain ⟨t3, ht3, h⟩ := Option.bind_eq_some_iff.mp h
  refine xr_getI X O ht3 fl_X12_363 (Or.inl rfl) dX12_draw_17 ?_
  refine lv_bipush (v := (16 : Int32)) hx hb dX12_draw_20 (by decide) ?_
  refine lv_iushr (v := (t3.toUInt32 >>> ((16 : Int32).toUInt32 &&& Int32.toUInt32 31)).toInt32) hx hb dX12_draw_22 rfl ?_
  refine lv_iload_n hx hb dX12_draw_23 rfl (lv_at hl 1 rfl) ?_
  by_cases hz24 : a1 = 0
  · rw [if_pos hz24] at h; cases h
  rw [if_neg hz24] at h
  refine lv_irem hx hb dX12_draw_24 hz24 ?_
  rw [← Option.some.inj h] at hK
  have hK : (((t3.toUInt32 >>> ((16 : Int32).toUInt32 &&& Int32.toUInt32 31)).toInt32 - (t3.toUInt32 >>> ((16 : Int32).toUInt32 &&& Int32.toUInt32 31)).toInt32 / a1 * a1), t2) = (ro, mo) := hK
  obtain ⟨hK1, hK2⟩ := Prod.mk.inj hK
  rw [hK2] at O
  refine xr_top (w := .int ro) (by rw [hK1]) ?_
  exact xr_iret X hr hlk O dX12_draw_25
def F_X12_drawn_32 (v0 : Nat) (s0 : Int32) (M : xM) : Option (Int32 × xM) :=
(xck M v0 12).bind fun _ =>
(F_X12_draw v0 (25 : Int32) M).bind fun t10 =>
some ((s0 + t10.1), t10.2)
def F_X12_drawn (a0 : Nat) (M : xM) : Option (Int32 × xM) :=
(xck M a0 12).bind fun _ =>
(F_X12_draw a0 (6 : Int32) M).bind fun t2 =>
if (2 : Int32) ≤ t2.1 then (
if (4 : Int32) ≤ t2.1 then (
if t2.1 = (5 : Int32) then (
(xck t2.2 a0 12).bind fun _ =>
(F_X12_draw a0 (10 : Int32) t2.2).bind fun t8 =>
some (((10 : Int32) + t8.1), t8.2))
else (
(xck t2.2 a0 12).bind fun _ =>
(F_X12_draw a0 (25 : Int32) t2.2).bind fun t4 =>
(xck t4.2 a0 12).bind fun _ =>
(F_X12_draw a0 (5 : Int32) t4.2).bind fun t6 =>
some ((((1000 : Int32) + ((10 : Int32) * t4.1)) + t6.1), t6.2)))
else (
if t2.1 = (2 : Int32) then (
F_X12_drawn_32 a0 (100 : Int32) t2.2)
else (
F_X12_drawn_32 a0 (200 : Int32) t2.2)))
else (
some ((0 : Int32), t2.2))
set_option maxRecDepth 100000 in
set_option maxHeartbeats 4000000 in
theorem F_X12_drawn_32_ok (X : xX p s m args c cX12_drawn 3 RX12 κ) (hr : meth.sig.returnType = (some .int)) (hlk : meth.locks = false) {ro : Int32} {mo : xM} (v0 : Nat) (s0 : Int32) (M : xM) (x : Int32 × xM) (h : F_X12_drawn_32 v0 s0 M = some x) (hK : (fun o => o = (ro, mo)) x) (H : Heap) (locs : List Loc) (ls : Array Slot) (O : xO κ s M H locs) (hl : lv_has ls 3 [(0, .ref (κ.1 + v0))]) : W p l e (xRm 3 0 0) s m args below meth c H locs 0 0 (xQf below args s 0 0 κ (some (.int ro)) mo) (F0 m 32 ls [.int s0]) := by
  unfold F_X12_drawn_32 at h
  have hx := X.1
  have hb := X.2.1
  refine lv_aload_n hx hb dX12_drawn_32 rfl (lv_at hl 0 rfl) ?_
  refine lv_bipush (v := (25 : Int32)) hx hb dX12_drawn_33 (by decide) ?_
  obtain ⟨_, hut9, h⟩ := Option.bind_eq_some_iff.mp h
  obtain ⟨t10, ht10, h⟩ := Option.bind_eq_some_iff.mp h
  refine xr_callV (rest := [.int s0]) X O (T_X12_draw l κ v0 (25 : Int32) M _ _ ht10) lk_X12_366 hut9 (Nat.le_of_ble_eq_true rfl) rfl hl.1 rfl (Nat.le_of_ble_eq_true rfl) dX12_drawn_35 ⟨Nat.le_of_ble_eq_true rfl, Nat.le_of_ble_eq_true rfl⟩ (fun H locs O => ?_)
  refine W.eq (g2 := F0 m 38 ls [.int t10.1, .int s0]) rfl ?_
  refine lv_iadd hx hb dX12_drawn_38 ?_
  rw [← Option.some.inj h] at hK
  have hK : ((s0 + t10.1), t10.2) = (ro, mo) := hK
  obtain ⟨hK1, hK2⟩ := Prod.mk.inj hK
  rw [hK2] at O
  refine xr_top (w := .int ro) (by rw [hK1]) ?_
  exact xr_iret X hr hlk O dX12_drawn_39
set_option maxRecDepth 100000 in
set_option maxHeartbeats 4000000 in
theorem T_X12_drawn (l : Launch) (κ : xQ) (a0 : Nat) (M : xM) (ro : Int32) (mo : xM) (h : F_X12_drawn a0 M = some (ro, mo)) : xC l yX12_drawn cX12_drawn 3 (some .int) 3 0 0 κ [.ref (κ.1 + a0)] M (some (.int ro)) mo := by
  refine xC_of rfl (Nat.le_of_ble_eq_true rfl) fun p e s m args below meth c X hr hlk hnm H locs ls O hl => ?_
  have X : xX p s m args c cX12_drawn 3 RX12 κ := X
  have hl : lv_has ls 3 [(0, .ref (κ.1 + a0))] := hl
  have hx := X.1
  have hb := X.2.1
  obtain ⟨x, hx0⟩ : ∃ x, (ro, mo) = x := ⟨_, rfl⟩
  rw [hx0] at h
  have hK : x = (ro, mo) := hx0.symm
  unfold F_X12_drawn at h
  refine lv_aload_n hx hb dX12_drawn_0 rfl (lv_at hl 0 rfl) ?_
  refine lv_bipush (v := (6 : Int32)) hx hb dX12_drawn_1 (by decide) ?_
  obtain ⟨_, hut1, h⟩ := Option.bind_eq_some_iff.mp h
  obtain ⟨t2, ht2, h⟩ := Option.bind_eq_some_iff.mp h
  refine xr_callV (rest := []) X O (T_X12_draw l κ a0 (6 : Int32) M _ _ ht2) lk_X12_366 hut1 (Nat.le_of_ble_eq_true rfl) rfl hl.1 rfl (Nat.le_of_ble_eq_true rfl) dX12_drawn_3 ⟨Nat.le_of_ble_eq_true rfl, Nat.le_of_ble_eq_true rfl⟩ (fun H locs O => ?_)
  refine W.eq (g2 := F0 m 6 ls [.int t2.1]) rfl ?_
  refine lv_istore_n (lv' := [(1, .int t2.1), (0, .ref (κ.1 + a0))]) hx hb dX12_drawn_6 rfl hl (by decide) rfl (fun ls hl => ?_)
  refine lv_iload_n hx hb dX12_drawn_7 rfl (lv_at hl 0 rfl) ?_
  refine lv_iconst (v := (2 : Int32)) hx hb dX12_drawn_8 (by decide) ?_
  refine lv_icmp_ge (tgt := 14) hx hb dX12_drawn_9 (by decide) (fun hc9 => ?_) (fun hc9 => ?_)
  · rw [if_pos hc9] at h
    refine lv_iload_n hx hb dX12_drawn_14 rfl (lv_at hl 0 rfl) ?_
    refine lv_iconst (v := (4 : Int32)) hx hb dX12_drawn_15 (by decide) ?_
    refine lv_icmp_ge (tgt := 40) hx hb dX12_drawn_16 (by decide) (fun hc16 => ?_) (fun hc16 => ?_)
    · rw [if_pos hc16] at h
      refine lv_iload_n hx hb dX12_drawn_40 rfl (lv_at hl 0 rfl) ?_
      refine lv_iconst (v := (5 : Int32)) hx hb dX12_drawn_41 (by decide) ?_
      refine lv_icmp_ne (tgt := 55) hx hb dX12_drawn_42 (by decide) (fun hc42 => ?_) (fun hc42 => ?_)
      · rw [if_neg hc42] at h
        refine lv_aload_n hx hb dX12_drawn_55 rfl (lv_at hl 1 rfl) ?_
        refine lv_bipush (v := (25 : Int32)) hx hb dX12_drawn_56 (by decide) ?_
        obtain ⟨_, hut3, h⟩ := Option.bind_eq_some_iff.mp h
        obtain ⟨t4, ht4, h⟩ := Option.bind_eq_some_iff.mp h
        refine xr_callV (rest := []) X O (T_X12_draw l κ a0 (25 : Int32) t2.2 _ _ ht4) lk_X12_366 hut3 (Nat.le_of_ble_eq_true rfl) rfl hl.1 rfl (Nat.le_of_ble_eq_true rfl) dX12_drawn_58 ⟨Nat.le_of_ble_eq_true rfl, Nat.le_of_ble_eq_true rfl⟩ (fun H locs O => ?_)
        refine W.eq (g2 := F0 m 61 ls [.int t4.1]) rfl ?_
        refine lv_istore_n (lv' := [(2, .int t4.1), (1, .int t2.1), (0, .ref (κ.1 + a0))]) hx hb dX12_drawn_61 rfl hl (by decide) rfl (fun ls hl => ?_)
        refine lv_sipush (v := (1000 : Int32)) hx hb dX12_drawn_62 (by decide) ?_
        refine lv_bipush (v := (10 : Int32)) hx hb dX12_drawn_65 (by decide) ?_
        refine lv_iload_n hx hb dX12_drawn_67 rfl (lv_at hl 0 rfl) ?_
        refine lv_imul hx hb dX12_drawn_68 ?_
        refine lv_iadd hx hb dX12_drawn_69 ?_
        refine lv_aload_n hx hb dX12_drawn_70 rfl (lv_at hl 2 rfl) ?_
        refine lv_iconst (v := (5 : Int32)) hx hb dX12_drawn_71 (by decide) ?_
        obtain ⟨_, hut5, h⟩ := Option.bind_eq_some_iff.mp h
        obtain ⟨t6, ht6, h⟩ := Option.bind_eq_some_iff.mp h
        refine xr_callV (rest := [.int ((1000 : Int32) + ((10 : Int32) * t4.1))]) X O (T_X12_draw l κ a0 (5 : Int32) t4.2 _ _ ht6) lk_X12_366 hut5 (Nat.le_of_ble_eq_true rfl) rfl hl.1 rfl (Nat.le_of_ble_eq_true rfl) dX12_drawn_72 ⟨Nat.le_of_ble_eq_true rfl, Nat.le_of_ble_eq_true rfl⟩ (fun H locs O => ?_)
        refine W.eq (g2 := F0 m 75 ls [.int t6.1, .int ((1000 : Int32) + ((10 : Int32) * t4.1))]) rfl ?_
        refine lv_iadd hx hb dX12_drawn_75 ?_
        rw [← Option.some.inj h] at hK
        have hK : ((((1000 : Int32) + ((10 : Int32) * t4.1)) + t6.1), t6.2) = (ro, mo) := hK
        obtain ⟨hK1, hK2⟩ := Prod.mk.inj hK
        rw [hK2] at O
        refine xr_top (w := .int ro) (by rw [hK1]) ?_
        exact xr_iret X hr hlk O dX12_drawn_76
      rw [if_pos hc42] at h
      refine lv_bipush (v := (10 : Int32)) hx hb dX12_drawn_45 (by decide) ?_
      refine lv_aload_n hx hb dX12_drawn_47 rfl (lv_at hl 1 rfl) ?_
      refine lv_bipush (v := (10 : Int32)) hx hb dX12_drawn_48 (by decide) ?_
      obtain ⟨_, hut7, h⟩ := Option.bind_eq_some_iff.mp h
      obtain ⟨t8, ht8, h⟩ := Option.bind_eq_some_iff.mp h
      refine xr_callV (rest := [.int (10 : Int32)]) X O (T_X12_draw l κ a0 (10 : Int32) t2.2 _ _ ht8) lk_X12_366 hut7 (Nat.le_of_ble_eq_true rfl) rfl hl.1 rfl (Nat.le_of_ble_eq_true rfl) dX12_drawn_50 ⟨Nat.le_of_ble_eq_true rfl, Nat.le_of_ble_eq_true rfl⟩ (fun H locs O => ?_)
      refine W.eq (g2 := F0 m 53 ls [.int t8.1, .int (10 : Int32)]) rfl ?_
      refine lv_iadd hx hb dX12_drawn_53 ?_
      rw [← Option.some.inj h] at hK
      have hK : (((10 : Int32) + t8.1), t8.2) = (ro, mo) := hK
      obtain ⟨hK1, hK2⟩ := Prod.mk.inj hK
      rw [hK2] at O
      refine xr_top (w := .int ro) (by rw [hK1]) ?_
      exact xr_iret X hr hlk O dX12_drawn_54
    rw [if_neg hc16] at h
    refine lv_iload_n hx hb dX12_drawn_19 rfl (lv_at hl 0 rfl) ?_
    refine lv_iconst (v := (2 : Int32)) hx hb dX12_drawn_20 (by decide) ?_
    refine lv_icmp_ne (tgt := 29) hx hb dX12_drawn_21 (by decide) (fun hc21 => ?_) (fun hc21 => ?_)
    · rw [if_neg hc21] at h
      refine lv_sipush (v := (200 : Int32)) hx hb dX12_drawn_29 (by decide) ?_
      exact F_X12_drawn_32_ok X hr hlk a0 (200 : Int32) t2.2 _ h hK H locs ls O (lv_sub hl [1] rfl)
    rw [if_pos hc21] at h
    refine lv_bipush (v := (100 : Int32)) hx hb dX12_drawn_24 (by decide) ?_
    refine lv_goto (tgt := 32) hx hb dX12_drawn_26 (by decide) ?_
    exact F_X12_drawn_32_ok X hr hlk a0 (100 : Int32) t2.2 _ h hK H locs ls O (lv_sub hl [1] rfl)
  rw [if_neg hc9] at h
  refine lv_iconst (v := (0 : Int32)) hx hb dX12_drawn_12 (by decide) ?_
  rw [← Option.some.inj h] at hK
  have hK : ((0 : Int32), t2.2) = (ro, mo) := hK
  obtain ⟨hK1, hK2⟩ := Prod.mk.inj hK
  rw [hK2] at O
  refine xr_top (w := .int ro) (by rw [hK1]) ?_
  exact xr_iret X hr hlk O dX12_drawn_13
def F_X12_day_68 (v0 : Nat) (v2 : Int32) (v3 : Int32) (v4 : Int32) (M : xM) : Option ((Int32 × Int32 × xM) ⊕ (Int32 × xM)) :=
some (.inl (v3, (v4 + 1), M))
def F_X12_day_74 (v0 : Nat) (v3 : Int32) (M : xM) : Option (Int32 × xM) :=
if v3 ≤ 0 then (
some (v3, M))
else (
(xck M v0 12).bind fun _ =>
(F_X12_notes v0 M).bind fun t13 =>
some (v3, t13))
def F_X12_day_34b (v0 : Nat) (v2 : Int32) : (Int32 × Int32 × xM) → Option ((Int32 × Int32 × xM) ⊕ (Int32 × xM)) := fun ⟨v3, v4, M⟩ =>
if v2 ≤ v4 then (
(F_X12_day_74 v0 v3 M).map Sum.inr)
else (
(xck M v0 12).bind fun _ =>
(F_X12_drawn v0 M).bind fun t7 =>
(xck t7.2 v0 12).bind fun _ =>
(F_X12_whyNot v0 t7.1.toInt64 t7.2).bind fun t9 =>
if t9.1 = 0 then (
(xck t9.2 v0 12).bind fun _ =>
(F_X12_does v0 t7.1 t9.2).bind fun t11 =>
F_X12_day_68 v0 v2 (v3 + 1) v4 t11)
else (
F_X12_day_68 v0 v2 v3 v4 t9.2))
def F_X12_day_34 (v0 : Nat) (v2 : Int32) (v3 : Int32) (v4 : Int32) (M : xM) : Option (Int32 × xM) := xit (F_X12_day_34b v0 v2) xFU (v3, v4, M)
def F_X12_day (a0 : Nat) (a1 : Int32) (a2 : Int32) (M : xM) : Option (Int32 × xM) :=
(xpI M a0 12 0 (0 : Int32)).bind fun t1 =>
(F_X12_within a2.toInt64 (1 : Int64) (40 : Int64) t1).bind fun t2 =>
if t2.1 = 0 then (
some ((-3 : Int32), t2.2))
else (
(xck t2.2 a0 12).bind fun _ =>
(F_X12_stores a0 t2.2).bind fun t4 =>
(xpI t4 a0 12 24 a1).bind fun t5 =>
F_X12_day_34 a0 a2 (0 : Int32) (0 : Int32) t5)
set_option maxRecDepth 100000 in
set_option maxHeartbeats 4000000 in
theorem F_X12_day_68_ok (X : xX p s m args c cX12_day 6 RX12 κ) (hr : meth.sig.returnType = (some .int)) (hlk : meth.locks = false) {ro : Int32} {mo : xM} (v0 : Nat) (v2 : Int32) (v3 : Int32) (v4 : Int32) {W34 : Int32 × Int32 × xM → Prop} (hW34 : ∀ (v3 : Int32) (v4 : Int32) (M : xM), W34 (v3, v4, M) → ∀ (H : Heap) (locs : List Loc) (ls : Array Slot), xO κ s M H locs → lv_has ls 6 [(0, .ref (κ.1 + v0)), (2, .int v2), (3, .int v3), (4, .int v4)] → W p l e (xRm 10 0 0) s m args below meth c H locs 0 0 (xQf below args s 0 0 κ (some (.int ro)) mo) (F0 m 34 ls [])) (M : xM) (x : (Int32 × Int32 × xM) ⊕ (Int32 × xM)) (h : F_X12_day_68 v0 v2 v3 v4 M = some x) (hK : (xKl W34 (fun o => o = (ro, mo))) x) (H : Heap) (locs : List Loc) (ls : Array Slot) (O : xO κ s M H locs) (hl : lv_has ls 6 [(0, .ref (κ.1 + v0)), (2, .int v2), (3, .int v3), (4, .int v4)]) : W p l e (xRm 10 0 0) s m args below meth c H locs 0 0 (xQf below args s 0 0 κ (some (.int ro)) mo) (F0 m 68 ls []) := by
  unfold F_X12_day_68 at h
  have hx := X.1
  have hb := X.2.1
  refine lv_iinc (v := (v4 + 1)) (lv' := [(4, .int (v4 + 1)), (0, .ref (κ.1 + v0)), (2, .int v2), (3, .int v3)]) hx hb dX12_day_68 hl (k := 3) rfl rfl (by decide) rfl (fun ls hl => ?_)
  refine lv_goto (tgt := 34) hx hb dX12_day_71 (by decide) ?_
  rw [← Option.some.inj h] at hK
  exact hW34 v3 (v4 + 1) M hK H locs ls O (lv_sub hl [1, 2, 3, 0] rfl)
set_option maxRecDepth 100000 in
set_option maxHeartbeats 4000000 in
theorem F_X12_day_74_ok (X : xX p s m args c cX12_day 6 RX12 κ) (hr : meth.sig.returnType = (some .int)) (hlk : meth.locks = false) {ro : Int32} {mo : xM} (v0 : Nat) (v3 : Int32) (M : xM) (x : Int32 × xM) (h : F_X12_day_74 v0 v3 M = some x) (hK : (fun o => o = (ro, mo)) x) (H : Heap) (locs : List Loc) (ls : Array Slot) (O : xO κ s M H locs) (hl : lv_has ls 6 [(0, .ref (κ.1 + v0)), (3, .int v3)]) : W p l e (xRm 10 0 0) s m args below meth c H locs 0 0 (xQf below args s 0 0 κ (some (.int ro)) mo) (F0 m 74 ls []) := by
  unfold F_X12_day_74 at h
  have hx := X.1
  have hb := X.2.1
  refine lv_iload_n hx hb dX12_day_74 rfl (lv_at hl 1 rfl) ?_
  refine lv_if_le (tgt := 82) hx hb dX12_day_75 (by decide) (fun hc75 => ?_) (fun hc75 => ?_)
  · rw [if_pos hc75] at h
    refine lv_iload_n hx hb dX12_day_82 rfl (lv_at hl 1 rfl) ?_
    rw [← Option.some.inj h] at hK
    have hK : (v3, M) = (ro, mo) := hK
    obtain ⟨hK1, hK2⟩ := Prod.mk.inj hK
    rw [hK2] at O
    refine xr_top (w := .int ro) (by rw [hK1]) ?_
    exact xr_iret X hr hlk O dX12_day_83
  rw [if_neg hc75] at h
  refine lv_aload_n hx hb dX12_day_78 rfl (lv_at hl 0 rfl) ?_
  obtain ⟨_, hut12, h⟩ := Option.bind_eq_some_iff.mp h
  obtain ⟨t13, ht13, h⟩ := Option.bind_eq_some_iff.mp h
  refine xr_callV (rest := []) X O (T_X12_notes l κ v0 M _ ht13) lk_X12_298 hut12 (Nat.le_of_ble_eq_true rfl) rfl hl.1 rfl (Nat.le_of_ble_eq_true rfl) dX12_day_79 ⟨Nat.le_of_ble_eq_true rfl, Nat.le_of_ble_eq_true rfl⟩ (fun H locs O => ?_)
  refine W.eq (g2 := F0 m 82 ls []) rfl ?_
  refine lv_iload_n hx hb dX12_day_82 rfl (lv_at hl 1 rfl) ?_
  rw [← Option.some.inj h] at hK
  have hK : (v3, t13) = (ro, mo) := hK
  obtain ⟨hK1, hK2⟩ := Prod.mk.inj hK
  rw [hK2] at O
  refine xr_top (w := .int ro) (by rw [hK1]) ?_
  exact xr_iret X hr hlk O dX12_day_83
set_option maxRecDepth 100000 in
set_option maxHeartbeats 4000000 in
theorem F_X12_day_34_bok (X : xX p s m args c cX12_day 6 RX12 κ) (hr : meth.sig.returnType = (some .int)) (hlk : meth.locks = false) {ro : Int32} {mo : xM} (v0 : Nat) (v2 : Int32) (v3 : Int32) (v4 : Int32) {W34 : Int32 × Int32 × xM → Prop} (hW34 : ∀ (v3 : Int32) (v4 : Int32) (M : xM), W34 (v3, v4, M) → ∀ (H : Heap) (locs : List Loc) (ls : Array Slot), xO κ s M H locs → lv_has ls 6 [(0, .ref (κ.1 + v0)), (2, .int v2), (3, .int v3), (4, .int v4)] → W p l e (xRm 10 0 0) s m args below meth c H locs 0 0 (xQf below args s 0 0 κ (some (.int ro)) mo) (F0 m 34 ls [])) (M : xM) (x : (Int32 × Int32 × xM) ⊕ (Int32 × xM)) (h : F_X12_day_34b v0 v2 (v3, v4, M) = some x) (hK : (xKl W34 (fun o => o = (ro, mo))) x) (H : Heap) (locs : List Loc) (ls : Array Slot) (O : xO κ s M H locs) (hl : lv_has ls 6 [(0, .ref (κ.1 + v0)), (2, .int v2), (3, .int v3), (4, .int v4)]) : W p l e (xRm 10 0 0) s m args below meth c H locs 0 0 (xQf below args s 0 0 κ (some (.int ro)) mo) (F0 m 34 ls []) := by
  unfold F_X12_day_34b at h
  dsimp only at h
  have hx := X.1
  have hb := X.2.1
  refine lv_iload hx hb dX12_day_34 (lv_at hl 3 rfl) ?_
  refine lv_iload_n hx hb dX12_day_36 rfl (lv_at hl 1 rfl) ?_
  refine lv_icmp_ge (tgt := 74) hx hb dX12_day_37 (by decide) (fun hc37 => ?_) (fun hc37 => ?_)
  · rw [if_pos hc37] at h
    obtain ⟨_, hw0, ew0⟩ := Option.map_eq_some_iff.mp h
    rw [← ew0] at hK
    have h := hw0
    exact F_X12_day_74_ok X hr hlk v0 v3 M _ h hK H locs ls O (lv_sub hl [0, 2] rfl)
  rw [if_neg hc37] at h
  refine lv_aload_n hx hb dX12_day_40 rfl (lv_at hl 0 rfl) ?_
  obtain ⟨_, hut6, h⟩ := Option.bind_eq_some_iff.mp h
  obtain ⟨t7, ht7, h⟩ := Option.bind_eq_some_iff.mp h
  refine xr_callV (rest := []) X O (T_X12_drawn l κ v0 M _ _ ht7) lk_X12_371 hut6 (Nat.le_of_ble_eq_true rfl) rfl hl.1 rfl (Nat.le_of_ble_eq_true rfl) dX12_day_41 ⟨Nat.le_of_ble_eq_true rfl, Nat.le_of_ble_eq_true rfl⟩ (fun H locs O => ?_)
  refine W.eq (g2 := F0 m 44 ls [.int t7.1]) rfl ?_
  refine lv_istore (lv' := [(5, .int t7.1), (0, .ref (κ.1 + v0)), (2, .int v2), (3, .int v3), (4, .int v4)]) hx hb dX12_day_44 hl (by decide) rfl (fun ls hl => ?_)
  refine lv_aload_n hx hb dX12_day_46 rfl (lv_at hl 1 rfl) ?_
  refine lv_iload hx hb dX12_day_47 (lv_at hl 0 rfl) ?_
  refine lv_i2l (v := t7.1.toInt64) hx hb dX12_day_49 rfl ?_
  obtain ⟨_, hut8, h⟩ := Option.bind_eq_some_iff.mp h
  obtain ⟨t9, ht9, h⟩ := Option.bind_eq_some_iff.mp h
  refine xr_callV (rest := []) X O (T_X12_whyNot l κ v0 t7.1.toInt64 t7.2 _ _ ht9) lk_X12_341 hut8 (Nat.le_of_ble_eq_true rfl) rfl hl.1 rfl (Nat.le_of_ble_eq_true rfl) dX12_day_50 ⟨Nat.le_of_ble_eq_true rfl, Nat.le_of_ble_eq_true rfl⟩ (fun H locs O => ?_)
  refine W.eq (g2 := F0 m 53 ls [.int t9.1]) rfl ?_
  refine lv_if_eq (tgt := 59) hx hb dX12_day_53 (by decide) (fun hc53 => ?_) (fun hc53 => ?_)
  · rw [if_pos hc53] at h
    refine lv_aload_n hx hb dX12_day_59 rfl (lv_at hl 1 rfl) ?_
    refine lv_iload hx hb dX12_day_60 (lv_at hl 0 rfl) ?_
    obtain ⟨_, hut10, h⟩ := Option.bind_eq_some_iff.mp h
    obtain ⟨t11, ht11, h⟩ := Option.bind_eq_some_iff.mp h
    refine xr_callV (rest := []) X O (T_X12_does l κ v0 t7.1 t9.2 _ ht11) lk_X12_345 hut10 (Nat.le_of_ble_eq_true rfl) rfl hl.1 rfl (Nat.le_of_ble_eq_true rfl) dX12_day_62 ⟨Nat.le_of_ble_eq_true rfl, Nat.le_of_ble_eq_true rfl⟩ (fun H locs O => ?_)
    refine W.eq (g2 := F0 m 65 ls []) rfl ?_
    refine lv_iinc (v := (v3 + 1)) (lv' := [(3, .int (v3 + 1)), (5, .int t7.1), (0, .ref (κ.1 + v0)), (2, .int v2), (4, .int v4)]) hx hb dX12_day_65 hl (k := 3) rfl rfl (by decide) rfl (fun ls hl => ?_)
    exact F_X12_day_68_ok X hr hlk v0 v2 (v3 + 1) v4 hW34 t11 _ h hK H locs ls O (lv_sub hl [2, 3, 0, 4] rfl)
  rw [if_neg hc53] at h
  refine lv_goto (tgt := 68) hx hb dX12_day_56 (by decide) ?_
  exact F_X12_day_68_ok X hr hlk v0 v2 v3 v4 hW34 t9.2 _ h hK H locs ls O (lv_sub hl [1, 2, 3, 4] rfl)
set_option maxRecDepth 100000 in
set_option maxHeartbeats 4000000 in
theorem F_X12_day_34_ok (X : xX p s m args c cX12_day 6 RX12 κ) (hr : meth.sig.returnType = (some .int)) (hlk : meth.locks = false) {ro : Int32} {mo : xM} (v0 : Nat) (v2 : Int32) (v3 : Int32) (v4 : Int32) (M : xM) (x : Int32 × xM) (h : F_X12_day_34 v0 v2 v3 v4 M = some x) (hK : (fun o => o = (ro, mo)) x) (H : Heap) (locs : List Loc) (ls : Array Slot) (O : xO κ s M H locs) (hl : lv_has ls 6 [(0, .ref (κ.1 + v0)), (2, .int v2), (3, .int v3), (4, .int v4)]) : W p l e (xRm 10 0 0) s m args below meth c H locs 0 0 (xQf below args s 0 0 κ (some (.int ro)) mo) (F0 m 34 ls []) := by
  refine xit_K (Wh := fun x => ∀ (H : Heap) (locs : List Loc) (ls : Array Slot), xO κ s x.2.2 H locs → lv_has ls 6 [(0, .ref (κ.1 + v0)), (2, .int v2), (3, .int x.1), (4, .int x.2.1)] → W p l e (xRm 10 0 0) s m args below meth c H locs 0 0 (xQf below args s 0 0 κ (some (.int ro)) mo) (F0 m 34 ls [])) (Kp := (fun o => o = (ro, mo))) ?_ xFU (v3, v4, M) x h hK H locs ls O hl
  intro y x h hK H locs ls O hl
  exact F_X12_day_34_bok X hr hlk v0 v2 y.1 y.2.1 (fun _ _ _ hw => hw) y.2.2 x h hK H locs ls O hl
set_option maxRecDepth 100000 in
set_option maxHeartbeats 4000000 in
theorem T_X12_day (l : Launch) (κ : xQ) (a0 : Nat) (a1 : Int32) (a2 : Int32) (M : xM) (ro : Int32) (mo : xM) (h : F_X12_day a0 a1 a2 M = some (ro, mo)) : xC l yX12_day cX12_day 6 (some .int) 10 0 0 κ [.ref (κ.1 + a0), .int a1, .int a2] M (some (.int ro)) mo := by
  refine xC_of rfl (Nat.le_of_ble_eq_true rfl) fun p e s m args below meth c X hr hlk hnm H locs ls O hl => ?_
  have X : xX p s m args c cX12_day 6 RX12 κ := X
  have hl : lv_has ls 6 [(0, .ref (κ.1 + a0)), (1, .int a1), (2, .int a2)] := hl
  have hx := X.1
  have hb := X.2.1
  obtain ⟨x, hx0⟩ : ∃ x, (ro, mo) = x := ⟨_, rfl⟩
  rw [hx0] at h
  have hK : x = (ro, mo) := hx0.symm
  unfold F_X12_day at h
  refine lv_aload_n hx hb dX12_day_0 rfl (lv_at hl 0 rfl) ?_
  refine lv_iconst (v := (0 : Int32)) hx hb dX12_day_1 (by decide) ?_
  obtain ⟨t1, ht1, h⟩ := Option.bind_eq_some_iff.mp h
  refine xr_putI X O ht1 fl_X12_1 dX12_day_2 (fun H locs O => ?_)
  refine lv_iload_n hx hb dX12_day_5 rfl (lv_at hl 2 rfl) ?_
  refine lv_i2l (v := a2.toInt64) hx hb dX12_day_6 rfl ?_
  refine lv_lconst (v := (1 : Int64)) hx hb dX12_day_7 (by decide) ?_
  refine lv_ldc2 (v := (40 : Int64)) hx hb X.2.2.2.1 (X.2.2.2.2.1 _ ct_X12_369) dX12_day_8 ?_
  obtain ⟨t2, ht2, h⟩ := Option.bind_eq_some_iff.mp h
  refine xr_callS (rest := []) X O (T_X12_within l κ a2.toInt64 (1 : Int64) (40 : Int64) t1 _ _ ht2) lk_X12_145 (Nat.le_of_ble_eq_true rfl) rfl hl.1 rfl (Nat.le_of_ble_eq_true rfl) dX12_day_11 ⟨Nat.le_of_ble_eq_true rfl, Nat.le_of_ble_eq_true rfl⟩ (fun H locs O => ?_)
  refine W.eq (g2 := F0 m 14 ls [.int t2.1]) rfl ?_
  refine lv_if_ne (tgt := 20) hx hb dX12_day_14 (by decide) (fun hc14 => ?_) (fun hc14 => ?_)
  · rw [if_neg hc14] at h
    refine lv_aload_n hx hb dX12_day_20 rfl (lv_at hl 0 rfl) ?_
    obtain ⟨_, hut3, h⟩ := Option.bind_eq_some_iff.mp h
    obtain ⟨t4, ht4, h⟩ := Option.bind_eq_some_iff.mp h
    refine xr_callV (rest := []) X O (T_X12_stores l κ a0 t2.2 _ ht4) lk_X12_292 hut3 (Nat.le_of_ble_eq_true rfl) rfl hl.1 rfl (Nat.le_of_ble_eq_true rfl) dX12_day_21 ⟨Nat.le_of_ble_eq_true rfl, Nat.le_of_ble_eq_true rfl⟩ (fun H locs O => ?_)
    refine W.eq (g2 := F0 m 24 ls []) rfl ?_
    refine lv_aload_n hx hb dX12_day_24 rfl (lv_at hl 0 rfl) ?_
    refine lv_iload_n hx hb dX12_day_25 rfl (lv_at hl 1 rfl) ?_
    obtain ⟨t5, ht5, h⟩ := Option.bind_eq_some_iff.mp h
    refine xr_putI X O ht5 fl_X12_363 dX12_day_26 (fun H locs O => ?_)
    refine lv_iconst (v := (0 : Int32)) hx hb dX12_day_29 (by decide) ?_
    refine lv_istore_n (lv' := [(3, .int (0 : Int32)), (0, .ref (κ.1 + a0)), (1, .int a1), (2, .int a2)]) hx hb dX12_day_30 rfl hl (by decide) rfl (fun ls hl => ?_)
    refine lv_iconst (v := (0 : Int32)) hx hb dX12_day_31 (by decide) ?_
    refine lv_istore (lv' := [(4, .int (0 : Int32)), (3, .int (0 : Int32)), (0, .ref (κ.1 + a0)), (1, .int a1), (2, .int a2)]) hx hb dX12_day_32 hl (by decide) rfl (fun ls hl => ?_)
    exact F_X12_day_34_ok X hr hlk a0 a2 (0 : Int32) (0 : Int32) t5 _ h hK H locs ls O (lv_sub hl [2, 4, 1, 0] rfl)
  rw [if_pos hc14] at h
  refine lv_bipush (v := (-3 : Int32)) hx hb dX12_day_17 (by decide) ?_
  rw [← Option.some.inj h] at hK
  have hK : ((-3 : Int32), t2.2) = (ro, mo) := hK
  obtain ⟨hK1, hK2⟩ := Prod.mk.inj hK
  rw [hK2] at O
  refine xr_top (w := .int ro) (by rw [hK1]) ?_
  exact xr_iret X hr hlk O dX12_day_19
def F_X12_fallsIn_47 (v2 : Int32) (M : xM) : Option (Int32 × xM) :=
some (v2, M)
def F_X12_fallsIn_55 (M : xM) : Option (Int32 × xM) :=
some ((-1 : Int32), M)
def F_X12_fallsIn_23b (v0 : Nat) (v1 : Int32) : (Int32 × xM) → Option ((Int32 × xM) ⊕ (Int32 × xM)) := fun ⟨v2, M⟩ =>
if (60 : Int32) < v2 then (
(F_X12_fallsIn_55 M).map Sum.inr)
else (
(xck M v0 12).bind fun _ =>
(F_X12_goesOn v0 (0 : Int32) M).bind fun t7 =>
(xgI t7.2 v0 12 20).bind fun t8 =>
(F_X12_isIn t8.toInt64 v1 t7.2).bind fun t9 =>
if t9.1 = 0 then (
some (.inl ((v2 + 1), t9.2)))
else (
(F_X12_fallsIn_47 v2 t9.2).map Sum.inr))
def F_X12_fallsIn_23 (v0 : Nat) (v1 : Int32) (v2 : Int32) (M : xM) : Option (Int32 × xM) := xit (F_X12_fallsIn_23b v0 v1) xFU (v2, M)
def F_X12_fallsIn (a0 : Nat) (a1 : Int32) (M : xM) : Option (Int32 × xM) :=
(xgP M a0 12 1).bind fun t1 =>
(xaI M 20 t1 (105 : Int32)).bind fun t2 =>
(F_X12_isIn t2.toInt64 a1 M).bind fun t3 =>
if t3.1 = 0 then (
(xck t3.2 a0 12).bind fun _ =>
(F_X12_begins a0 t3.2).bind fun t5 =>
F_X12_fallsIn_23 a0 a1 (1 : Int32) t5)
else (
some ((-1 : Int32), t3.2))
set_option maxRecDepth 100000 in
set_option maxHeartbeats 4000000 in
theorem F_X12_fallsIn_47_ok (X : xX p s m args c cX12_fallsIn 3 RX12 κ) (hr : meth.sig.returnType = (some .int)) (hlk : meth.locks = false) {ro : Int32} {mo : xM} (v2 : Int32) (M : xM) (x : Int32 × xM) (h : F_X12_fallsIn_47 v2 M = some x) (hK : (fun o => o = (ro, mo)) x) (H : Heap) (locs : List Loc) (ls : Array Slot) (O : xO κ s M H locs) (hl : lv_has ls 3 [(2, .int v2)]) : W p l e (xRm 7 0 0) s m args below meth c H locs 0 0 (xQf below args s 0 0 κ (some (.int ro)) mo) (F0 m 47 ls []) := by
  unfold F_X12_fallsIn_47 at h
  have hx := X.1
  have hb := X.2.1
  refine lv_iload_n hx hb dX12_fallsIn_47 rfl (lv_at hl 0 rfl) ?_
  rw [← Option.some.inj h] at hK
  have hK : (v2, M) = (ro, mo) := hK
  obtain ⟨hK1, hK2⟩ := Prod.mk.inj hK
  rw [hK2] at O
  refine xr_top (w := .int ro) (by rw [hK1]) ?_
  exact xr_iret X hr hlk O dX12_fallsIn_48
set_option maxRecDepth 100000 in
set_option maxHeartbeats 4000000 in
theorem F_X12_fallsIn_55_ok (X : xX p s m args c cX12_fallsIn 3 RX12 κ) (hr : meth.sig.returnType = (some .int)) (hlk : meth.locks = false) {ro : Int32} {mo : xM} (M : xM) (x : Int32 × xM) (h : F_X12_fallsIn_55 M = some x) (hK : (fun o => o = (ro, mo)) x) (H : Heap) (locs : List Loc) (ls : Array Slot) (O : xO κ s M H locs) (hl : lv_has ls 3 []) : W p l e (xRm 7 0 0) s m args below meth c H locs 0 0 (xQf below args s 0 0 κ (some (.int ro)) mo) (F0 m 55 ls []) := by
  unfold F_X12_fallsIn_55 at h
  have hx := X.1
  have hb := X.2.1
  refine lv_iconst (v := (-1 : Int32)) hx hb dX12_fallsIn_55 (by decide) ?_
  rw [← Option.some.inj h] at hK
  have hK : ((-1 : Int32), M) = (ro, mo) := hK
  obtain ⟨hK1, hK2⟩ := Prod.mk.inj hK
  rw [hK2] at O
  refine xr_top (w := .int ro) (by rw [hK1]) ?_
  exact xr_iret X hr hlk O dX12_fallsIn_56
set_option maxRecDepth 100000 in
set_option maxHeartbeats 4000000 in
theorem F_X12_fallsIn_23_bok (X : xX p s m args c cX12_fallsIn 3 RX12 κ) (hr : meth.sig.returnType = (some .int)) (hlk : meth.locks = false) {ro : Int32} {mo : xM} (v0 : Nat) (v1 : Int32) (v2 : Int32) {W23 : Int32 × xM → Prop} (hW23 : ∀ (v2 : Int32) (M : xM), W23 (v2, M) → ∀ (H : Heap) (locs : List Loc) (ls : Array Slot), xO κ s M H locs → lv_has ls 3 [(0, .ref (κ.1 + v0)), (1, .int v1), (2, .int v2)] → W p l e (xRm 7 0 0) s m args below meth c H locs 0 0 (xQf below args s 0 0 κ (some (.int ro)) mo) (F0 m 23 ls [])) (M : xM) (x : (Int32 × xM) ⊕ (Int32 × xM)) (h : F_X12_fallsIn_23b v0 v1 (v2, M) = some x) (hK : (xKl W23 (fun o => o = (ro, mo))) x) (H : Heap) (locs : List Loc) (ls : Array Slot) (O : xO κ s M H locs) (hl : lv_has ls 3 [(0, .ref (κ.1 + v0)), (1, .int v1), (2, .int v2)]) : W p l e (xRm 7 0 0) s m args below meth c H locs 0 0 (xQf below args s 0 0 κ (some (.int ro)) mo) (F0 m 23 ls []) := by
  unfold F_X12_fallsIn_23b at h
  dsimp only at h
  have hx := X.1
  have hb := X.2.1
  refine lv_iload_n hx hb dX12_fallsIn_23 rfl (lv_at hl 2 rfl) ?_
  refine lv_bipush (v := (60 : Int32)) hx hb dX12_fallsIn_24 (by decide) ?_
  refine lv_icmp_gt (tgt := 55) hx hb dX12_fallsIn_26 (by decide) (fun hc26 => ?_) (fun hc26 => ?_)
  · rw [if_pos hc26] at h
    obtain ⟨_, hw0, ew0⟩ := Option.map_eq_some_iff.mp h
    rw [← ew0] at hK
    have h := hw0
    exact F_X12_fallsIn_55_ok X hr hlk  M _ h hK H locs ls O (lv_sub hl [] rfl)
  rw [if_neg hc26] at h
  refine lv_aload_n hx hb dX12_fallsIn_29 rfl (lv_at hl 0 rfl) ?_
  refine lv_iconst (v := (0 : Int32)) hx hb dX12_fallsIn_30 (by decide) ?_
  obtain ⟨_, hut6, h⟩ := Option.bind_eq_some_iff.mp h
  obtain ⟨t7, ht7, h⟩ := Option.bind_eq_some_iff.mp h
  refine xr_callV (rest := []) X O (T_X12_goesOn l κ v0 (0 : Int32) M _ _ ht7) lk_X12_275 hut6 (Nat.le_of_ble_eq_true rfl) rfl hl.1 rfl (Nat.le_of_ble_eq_true rfl) dX12_fallsIn_31 ⟨Nat.le_of_ble_eq_true rfl, Nat.le_of_ble_eq_true rfl⟩ (fun H locs O => ?_)
  refine W.eq (g2 := F0 m 34 ls [.int t7.1]) rfl ?_
  refine lv_pop hx hb dX12_fallsIn_34 rfl ?_
  refine lv_aload_n hx hb dX12_fallsIn_35 rfl (lv_at hl 0 rfl) ?_
  obtain ⟨t8, ht8, h⟩ := Option.bind_eq_some_iff.mp h
  refine xr_getI X O ht8 fl_X12_247 (Or.inl rfl) dX12_fallsIn_36 ?_
  refine lv_i2l (v := t8.toInt64) hx hb dX12_fallsIn_39 rfl ?_
  refine lv_iload_n hx hb dX12_fallsIn_40 rfl (lv_at hl 1 rfl) ?_
  obtain ⟨t9, ht9, h⟩ := Option.bind_eq_some_iff.mp h
  refine xr_callS (rest := []) X O (T_X12_isIn l κ t8.toInt64 v1 t7.2 _ _ ht9) lk_X12_253 (Nat.le_of_ble_eq_true rfl) rfl hl.1 rfl (Nat.le_of_ble_eq_true rfl) dX12_fallsIn_41 ⟨Nat.le_of_ble_eq_true rfl, Nat.le_of_ble_eq_true rfl⟩ (fun H locs O => ?_)
  refine W.eq (g2 := F0 m 44 ls [.int t9.1]) rfl ?_
  refine lv_if_eq (tgt := 49) hx hb dX12_fallsIn_44 (by decide) (fun hc44 => ?_) (fun hc44 => ?_)
  · rw [if_pos hc44] at h
    refine lv_iinc (v := (v2 + 1)) (lv' := [(2, .int (v2 + 1)), (0, .ref (κ.1 + v0)), (1, .int v1)]) hx hb dX12_fallsIn_49 hl (k := 2) rfl rfl (by decide) rfl (fun ls hl => ?_)
    refine lv_goto (tgt := 23) hx hb dX12_fallsIn_52 (by decide) ?_
    rw [← Option.some.inj h] at hK
    exact hW23 (v2 + 1) t9.2 hK H locs ls O (lv_sub hl [1, 2, 0] rfl)
  rw [if_neg hc44] at h
  obtain ⟨_, hw0, ew0⟩ := Option.map_eq_some_iff.mp h
  rw [← ew0] at hK
  have h := hw0
  exact F_X12_fallsIn_47_ok X hr hlk v2 t9.2 _ h hK H locs ls O (lv_sub hl [2] rfl)
set_option maxRecDepth 100000 in
set_option maxHeartbeats 4000000 in
theorem F_X12_fallsIn_23_ok (X : xX p s m args c cX12_fallsIn 3 RX12 κ) (hr : meth.sig.returnType = (some .int)) (hlk : meth.locks = false) {ro : Int32} {mo : xM} (v0 : Nat) (v1 : Int32) (v2 : Int32) (M : xM) (x : Int32 × xM) (h : F_X12_fallsIn_23 v0 v1 v2 M = some x) (hK : (fun o => o = (ro, mo)) x) (H : Heap) (locs : List Loc) (ls : Array Slot) (O : xO κ s M H locs) (hl : lv_has ls 3 [(0, .ref (κ.1 + v0)), (1, .int v1), (2, .int v2)]) : W p l e (xRm 7 0 0) s m args below meth c H locs 0 0 (xQf below args s 0 0 κ (some (.int ro)) mo) (F0 m 23 ls []) := by
  refine xit_K (Wh := fun x => ∀ (H : Heap) (locs : List Loc) (ls : Array Slot), xO κ s x.2 H locs → lv_has ls 3 [(0, .ref (κ.1 + v0)), (1, .int v1), (2, .int x.1)] → W p l e (xRm 7 0 0) s m args below meth c H locs 0 0 (xQf below args s 0 0 κ (some (.int ro)) mo) (F0 m 23 ls [])) (Kp := (fun o => o = (ro, mo))) ?_ xFU (v2, M) x h hK H locs ls O hl
  intro y x h hK H locs ls O hl
  exact F_X12_fallsIn_23_bok X hr hlk v0 v1 y.1 (fun _ _ hw => hw) y.2 x h hK H locs ls O hl
set_option maxRecDepth 100000 in
set_option maxHeartbeats 4000000 in
theorem T_X12_fallsIn (l : Launch) (κ : xQ) (a0 : Nat) (a1 : Int32) (M : xM) (ro : Int32) (mo : xM) (h : F_X12_fallsIn a0 a1 M = some (ro, mo)) : xC l yX12_fallsIn cX12_fallsIn 3 (some .int) 7 0 0 κ [.ref (κ.1 + a0), .int a1] M (some (.int ro)) mo := by
  refine xC_of rfl (Nat.le_of_ble_eq_true rfl) fun p e s m args below meth c X hr hlk hnm H locs ls O hl => ?_
  have X : xX p s m args c cX12_fallsIn 3 RX12 κ := X
  have hl : lv_has ls 3 [(0, .ref (κ.1 + a0)), (1, .int a1)] := hl
  have hx := X.1
  have hb := X.2.1
  obtain ⟨x, hx0⟩ : ∃ x, (ro, mo) = x := ⟨_, rfl⟩
  rw [hx0] at h
  have hK : x = (ro, mo) := hx0.symm
  unfold F_X12_fallsIn at h
  refine lv_aload_n hx hb dX12_fallsIn_0 rfl (lv_at hl 0 rfl) ?_
  obtain ⟨t1, ht1, h⟩ := Option.bind_eq_some_iff.mp h
  refine xr_getP X O ht1 fl_X12_13 dX12_fallsIn_1 ?_
  refine lv_bipush (v := (105 : Int32)) hx hb dX12_fallsIn_4 (by decide) ?_
  obtain ⟨t2, ht2, h⟩ := Option.bind_eq_some_iff.mp h
  refine xr_aldI X O ht2 dX12_fallsIn_6 ?_
  refine lv_i2l (v := t2.toInt64) hx hb dX12_fallsIn_7 rfl ?_
  refine lv_iload_n hx hb dX12_fallsIn_8 rfl (lv_at hl 1 rfl) ?_
  obtain ⟨t3, ht3, h⟩ := Option.bind_eq_some_iff.mp h
  refine xr_callS (rest := []) X O (T_X12_isIn l κ t2.toInt64 a1 M _ _ ht3) lk_X12_253 (Nat.le_of_ble_eq_true rfl) rfl hl.1 rfl (Nat.le_of_ble_eq_true rfl) dX12_fallsIn_9 ⟨Nat.le_of_ble_eq_true rfl, Nat.le_of_ble_eq_true rfl⟩ (fun H locs O => ?_)
  refine W.eq (g2 := F0 m 12 ls [.int t3.1]) rfl ?_
  refine lv_if_eq (tgt := 17) hx hb dX12_fallsIn_12 (by decide) (fun hc12 => ?_) (fun hc12 => ?_)
  · rw [if_pos hc12] at h
    refine lv_aload_n hx hb dX12_fallsIn_17 rfl (lv_at hl 0 rfl) ?_
    obtain ⟨_, hut4, h⟩ := Option.bind_eq_some_iff.mp h
    obtain ⟨t5, ht5, h⟩ := Option.bind_eq_some_iff.mp h
    refine xr_callV (rest := []) X O (T_X12_begins l κ a0 t3.2 _ ht5) lk_X12_272 hut4 (Nat.le_of_ble_eq_true rfl) rfl hl.1 rfl (Nat.le_of_ble_eq_true rfl) dX12_fallsIn_18 ⟨Nat.le_of_ble_eq_true rfl, Nat.le_of_ble_eq_true rfl⟩ (fun H locs O => ?_)
    refine W.eq (g2 := F0 m 21 ls []) rfl ?_
    refine lv_iconst (v := (1 : Int32)) hx hb dX12_fallsIn_21 (by decide) ?_
    refine lv_istore_n (lv' := [(2, .int (1 : Int32)), (0, .ref (κ.1 + a0)), (1, .int a1)]) hx hb dX12_fallsIn_22 rfl hl (by decide) rfl (fun ls hl => ?_)
    exact F_X12_fallsIn_23_ok X hr hlk a0 a1 (1 : Int32) t5 _ h hK H locs ls O (lv_sub hl [1, 2, 0] rfl)
  rw [if_neg hc12] at h
  refine lv_iconst (v := (-1 : Int32)) hx hb dX12_fallsIn_15 (by decide) ?_
  rw [← Option.some.inj h] at hK
  have hK : ((-1 : Int32), t3.2) = (ro, mo) := hK
  obtain ⟨hK1, hK2⟩ := Prod.mk.inj hK
  rw [hK2] at O
  refine xr_top (w := .int ro) (by rw [hK1]) ?_
  exact xr_iret X hr hlk O dX12_fallsIn_16
end G
