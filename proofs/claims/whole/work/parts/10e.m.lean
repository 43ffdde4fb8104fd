section G
variable {p : Program} {l : Launch} {e : Env} {s : State} {m : MethodId} {args : Array Value} {below : List Frame} {meth : Method} {c : Code} {κ : xQ}
def F_X12_feed_77 (v0 : Nat) (v1 : Int32) (v2 : Int32) (v3 : Int32) (v4 : Int32) (v5 : Int32) (v6 : Int32) (s0 : Int32) (M : xM) : Option ((Int32 × xM) ⊕ (Int32 × xM)) :=
(xgP M v0 12 3).bind fun t4 =>
(xgI M v0 12 5).bind fun t5 =>
(xsI M t4 t5 ((s0 >>> (((24 : Int32) - ((8 : Int32) * (v6 - v6 / (4 : Int32) * (4 : Int32)))) &&& 31)) &&& (255 : Int32))).bind fun t6 =>
(xgI t6 v0 12 5).bind fun t7 =>
(xpI t6 v0 12 5 (t7 + (1 : Int32))).bind fun t8 =>
some (.inl ((v6 + 1), t8))
def F_X12_feed_121 (v0 : Nat) (M : xM) : Option (Int32 × xM) :=
(xgI M v0 12 5).bind fun t3 =>
some (t3, M)
def F_X12_feed_24b (v0 : Nat) (v1 : Int32) (v2 : Int32) (v3 : Int32) (v4 : Int32) (v5 : Int32) : (Int32 × xM) → Option ((Int32 × xM) ⊕ (Int32 × xM)) := fun ⟨v6, M⟩ =>
if (20 : Int32) ≤ v6 then (
(F_X12_feed_121 v0 M).map Sum.inr)
else (
if (4 : Int32) ≤ v6 then (
if (8 : Int32) ≤ v6 then (
if (12 : Int32) ≤ v6 then (
if (16 : Int32) ≤ v6 then (
F_X12_feed_77 v0 v1 v2 v3 v4 v5 v6 v5 M)
else (
F_X12_feed_77 v0 v1 v2 v3 v4 v5 v6 v4 M))
else (
F_X12_feed_77 v0 v1 v2 v3 v4 v5 v6 v3 M))
else (
F_X12_feed_77 v0 v1 v2 v3 v4 v5 v6 v2 M))
else (
F_X12_feed_77 v0 v1 v2 v3 v4 v5 v6 v1 M))
def F_X12_feed_24 (v0 : Nat) (v1 : Int32) (v2 : Int32) (v3 : Int32) (v4 : Int32) (v5 : Int32) (v6 : Int32) (M : xM) : Option (Int32 × xM) := xit (F_X12_feed_24b v0 v1 v2 v3 v4 v5) xFU (v6, M)
def F_X12_feed (a0 : Nat) (a1 : Int32) (a2 : Int32) (a3 : Int32) (a4 : Int32) (a5 : Int32) (M : xM) : Option (Int32 × xM) :=
(xpI M a0 12 0 (0 : Int32)).bind fun t1 =>
(xgI t1 a0 12 5).bind fun t2 =>
if (t2 + (20 : Int32)) ≤ (900 : Int32) then (
F_X12_feed_24 a0 a1 a2 a3 a4 a5 (0 : Int32) t1)
else (
some ((-5 : Int32), t1))
set_option maxRecDepth 100000 in
set_option maxHeartbeats 4000000 in
theorem F_X12_feed_77_ok (X : xX p s m args c cX12_feed 8 RX12 κ) (hr : meth.sig.returnType = (some .int)) (hlk : meth.locks = false) {ro : Int32} {mo : xM} (v0 : Nat) (v1 : Int32) (v2 : Int32) (v3 : Int32) (v4 : Int32) (v5 : Int32) (v6 : Int32) (s0 : Int32) {W24 : Int32 × xM → Prop} (hW24 : ∀ (v6 : Int32) (M : xM), W24 (v6, M) → ∀ (H : Heap) (locs : List Loc) (ls : Array Slot), xO κ s M H locs → lv_has ls 8 [(0, .ref (κ.1 + v0)), (1, .int v1), (2, .int v2), (3, .int v3), (4, .int v4), (5, .int v5), (6, .int v6)] → W p l e (xRm 2 0 0) s m args below meth c H locs 0 0 (xQf below args s 0 0 κ (some (.int ro)) mo) (F0 m 24 ls [])) (M : xM) (x : (Int32 × xM) ⊕ (Int32 × xM)) (h : F_X12_feed_77 v0 v1 v2 v3 v4 v5 v6 s0 M = some x) (hK : (xKl W24 (fun o => o = (ro, mo))) x) (H : Heap) (locs : List Loc) (ls : Array Slot) (O : xO κ s M H locs) (hl : lv_has ls 8 [(0, .ref (κ.1 + v0)), (1, .int v1), (2, .int v2), (3, .int v3), (4, .int v4), (5, .int v5), (6, .int v6)]) : W p l e (xRm 2 0 0) s m args below meth c H locs 0 0 (xQf below args s 0 0 κ (some (.int ro)) mo) (F0 m 77 ls [.int s0]) := by
  unfold F_X12_feed_77 at h
  have hx := X.1
  have hb := X.2.1
  refine lv_istore (lv' := [(7, .int s0), (0, .ref (κ.1 + v0)), (1, .int v1), (2, .int v2), (3, .int v3), (4, .int v4), (5, .int v5), (6, .int v6)]) hx hb dX12_feed_77 hl (by decide) rfl (fun ls hl => ?_)
  refine lv_aload_n hx hb dX12_feed_79 rfl (lv_at hl 1 rfl) ?_
  obtain ⟨t4, ht4, h⟩ := Option.bind_eq_some_iff.mp h
  refine xr_getP X O ht4 fl_X12_21 dX12_feed_80 ?_
  refine lv_aload_n hx hb dX12_feed_83 rfl (lv_at hl 1 rfl) ?_
  obtain ⟨t5, ht5, h⟩ := Option.bind_eq_some_iff.mp h
  refine xr_getI X O ht5 fl_X12_83 (Or.inl rfl) dX12_feed_84 ?_
  refine lv_iload hx hb dX12_feed_87 (lv_at hl 0 rfl) ?_
  refine lv_bipush (v := (24 : Int32)) hx hb dX12_feed_89 (by decide) ?_
  refine lv_bipush (v := (8 : Int32)) hx hb dX12_feed_91 (by decide) ?_
  refine lv_iload hx hb dX12_feed_93 (lv_at hl 7 rfl) ?_
  refine lv_iconst (v := (4 : Int32)) hx hb dX12_feed_95 (by decide) ?_
  refine lv_irem hx hb dX12_feed_96 (by decide) ?_
  refine lv_imul hx hb dX12_feed_97 ?_
  refine lv_isub hx hb dX12_feed_98 ?_
  refine lv_ishr hx hb dX12_feed_99 ?_
  refine lv_sipush (v := (255 : Int32)) hx hb dX12_feed_100 (by decide) ?_
  refine lv_iand hx hb dX12_feed_103 ?_
  obtain ⟨t6, ht6, h⟩ := Option.bind_eq_some_iff.mp h
  refine xr_stI X O ht6 dX12_feed_104 (fun H locs O => ?_)
  refine lv_aload_n hx hb dX12_feed_105 rfl (lv_at hl 1 rfl) ?_
  refine lv_dup hx hb dX12_feed_106 rfl ?_
  obtain ⟨t7, ht7, h⟩ := Option.bind_eq_some_iff.mp h
  refine xr_getI X O ht7 fl_X12_83 (Or.inl rfl) dX12_feed_107 ?_
  refine lv_iconst (v := (1 : Int32)) hx hb dX12_feed_110 (by decide) ?_
  refine lv_iadd hx hb dX12_feed_111 ?_
  obtain ⟨t8, ht8, h⟩ := Option.bind_eq_some_iff.mp h
  refine xr_putI X O ht8 fl_X12_83 dX12_feed_112 (fun H locs O => ?_)
  refine lv_iinc (v := (v6 + 1)) (lv' := [(6, .int (v6 + 1)), (7, .int s0), (0, .ref (κ.1 + v0)), (1, .int v1), (2, .int v2), (3, .int v3), (4, .int v4), (5, .int v5)]) hx hb dX12_feed_115 hl (k := 7) rfl rfl (by decide) rfl (fun ls hl => ?_)
  refine lv_goto (tgt := 24) hx hb dX12_feed_118 (by decide) ?_
  rw [← Option.some.inj h] at hK
  exact hW24 (v6 + 1) t8 hK H locs ls O (lv_sub hl [2, 3, 4, 5, 6, 7, 0] rfl)
set_option maxRecDepth 100000 in
set_option maxHeartbeats 4000000 in
theorem F_X12_feed_121_ok (X : xX p s m args c cX12_feed 8 RX12 κ) (hr : meth.sig.returnType = (some .int)) (hlk : meth.locks = false) {ro : Int32} {mo : xM} (v0 : Nat) (M : xM) (x : Int32 × xM) (h : F_X12_feed_121 v0 M = some x) (hK : (fun o => o = (ro, mo)) x) (H : Heap) (locs : List Loc) (ls : Array Slot) (O : xO κ s M H locs) (hl : lv_has ls 8 [(0, .ref (κ.1 + v0))]) : W p l e (xRm 2 0 0) s m args below meth c H locs 0 0 (xQf below args s 0 0 κ (some (.int ro)) mo) (F0 m 121 ls []) := by
  unfold F_X12_feed_121 at h
  have hx := X.1
  have hb := X.2.1
  refine lv_aload_n hx hb dX12_feed_121 rfl (lv_at hl 0 rfl) ?_
  obtain ⟨t3, ht3, h⟩ := Option.bind_eq_some_iff.mp h
  refine xr_getI X O ht3 fl_X12_83 (Or.inl rfl) dX12_feed_122 ?_
  rw [← Option.some.inj h] at hK
  have hK : (t3, M) = (ro, mo) := hK
  obtain ⟨hK1, hK2⟩ := Prod.mk.inj hK
  rw [hK2] at O
  refine xr_top (w := .int ro) (by rw [hK1]) ?_
  exact xr_iret X hr hlk O dX12_feed_125
set_option maxRecDepth 100000 in
set_option maxHeartbeats 4000000 in
theorem F_X12_feed_24_bok (X : xX p s m args c cX12_feed 8 RX12 κ) (hr : meth.sig.returnType = (some .int)) (hlk : meth.locks = false) {ro : Int32} {mo : xM} (v0 : Nat) (v1 : Int32) (v2 : Int32) (v3 : Int32) (v4 : Int32) (v5 : Int32) (v6 : Int32) {W24 : Int32 × xM → Prop} (hW24 : ∀ (v6 : Int32) (M : xM), W24 (v6, M) → ∀ (H : Heap) (locs : List Loc) (ls : Array Slot), xO κ s M H locs → lv_has ls 8 [(0, .ref (κ.1 + v0)), (1, .int v1), (2, .int v2), (3, .int v3), (4, .int v4), (5, .int v5), (6, .int v6)] → W p l e (xRm 2 0 0) s m args below meth c H locs 0 0 (xQf below args s 0 0 κ (some (.int ro)) mo) (F0 m 24 ls [])) (M : xM) (x : (Int32 × xM) ⊕ (Int32 × xM)) (h : F_X12_feed_24b v0 v1 v2 v3 v4 v5 (v6, M) = some x) (hK : (xKl W24 (fun o => o = (ro, mo))) x) (H : Heap) (locs : List Loc) (ls : Array Slot) (O : xO κ s M H locs) (hl : lv_has ls 8 [(0, .ref (κ.1 + v0)), (1, .int v1), (2, .int v2), (3, .int v3), (4, .int v4), (5, .int v5), (6, .int v6)]) : W p l e (xRm 2 0 0) s m args below meth c H locs 0 0 (xQf below args s 0 0 κ (some (.int ro)) mo) (F0 m 24 ls []) := by
  unfold F_X12_feed_24b at h
  dsimp only at h
  have hx := X.1
  have hb := X.2.1
  refine lv_iload hx hb dX12_feed_24 (lv_at hl 6 rfl) ?_
  refine lv_bipush (v := (20 : Int32)) hx hb dX12_feed_26 (by decide) ?_
  refine lv_icmp_ge (tgt := 121) hx hb dX12_feed_28 (by decide) (fun hc28 => ?_) (fun hc28 => ?_)
  · rw [if_pos hc28] at h
    obtain ⟨_, hw0, ew0⟩ := Option.map_eq_some_iff.mp h
    rw [← ew0] at hK
    have h := hw0
    exact F_X12_feed_121_ok X hr hlk v0 M _ h hK H locs ls O (lv_sub hl [0] rfl)
  rw [if_neg hc28] at h
  refine lv_iload hx hb dX12_feed_31 (lv_at hl 6 rfl) ?_
  refine lv_iconst (v := (4 : Int32)) hx hb dX12_feed_33 (by decide) ?_
  refine lv_icmp_ge (tgt := 41) hx hb dX12_feed_34 (by decide) (fun hc34 => ?_) (fun hc34 => ?_)
  · rw [if_pos hc34] at h
    refine lv_iload hx hb dX12_feed_41 (lv_at hl 6 rfl) ?_
    refine lv_bipush (v := (8 : Int32)) hx hb dX12_feed_43 (by decide) ?_
    refine lv_icmp_ge (tgt := 52) hx hb dX12_feed_45 (by decide) (fun hc45 => ?_) (fun hc45 => ?_)
    · rw [if_pos hc45] at h
      refine lv_iload hx hb dX12_feed_52 (lv_at hl 6 rfl) ?_
      refine lv_bipush (v := (12 : Int32)) hx hb dX12_feed_54 (by decide) ?_
      refine lv_icmp_ge (tgt := 63) hx hb dX12_feed_56 (by decide) (fun hc56 => ?_) (fun hc56 => ?_)
      · rw [if_pos hc56] at h
        refine lv_iload hx hb dX12_feed_63 (lv_at hl 6 rfl) ?_
        refine lv_bipush (v := (16 : Int32)) hx hb dX12_feed_65 (by decide) ?_
        refine lv_icmp_ge (tgt := 75) hx hb dX12_feed_67 (by decide) (fun hc67 => ?_) (fun hc67 => ?_)
        · rw [if_pos hc67] at h
          refine lv_iload hx hb dX12_feed_75 (lv_at hl 5 rfl) ?_
          exact F_X12_feed_77_ok X hr hlk v0 v1 v2 v3 v4 v5 v6 v5 hW24 M _ h hK H locs ls O (lv_sub hl [0, 1, 2, 3, 4, 5, 6] rfl)
        rw [if_neg hc67] at h
        refine lv_iload hx hb dX12_feed_70 (lv_at hl 4 rfl) ?_
        refine lv_goto (tgt := 77) hx hb dX12_feed_72 (by decide) ?_
        exact F_X12_feed_77_ok X hr hlk v0 v1 v2 v3 v4 v5 v6 v4 hW24 M _ h hK H locs ls O (lv_sub hl [0, 1, 2, 3, 4, 5, 6] rfl)
      rw [if_neg hc56] at h
      refine lv_iload_n hx hb dX12_feed_59 rfl (lv_at hl 3 rfl) ?_
      refine lv_goto (tgt := 77) hx hb dX12_feed_60 (by decide) ?_
      exact F_X12_feed_77_ok X hr hlk v0 v1 v2 v3 v4 v5 v6 v3 hW24 M _ h hK H locs ls O (lv_sub hl [0, 1, 2, 3, 4, 5, 6] rfl)
    rw [if_neg hc45] at h
    refine lv_iload_n hx hb dX12_feed_48 rfl (lv_at hl 2 rfl) ?_
    refine lv_goto (tgt := 77) hx hb dX12_feed_49 (by decide) ?_
    exact F_X12_feed_77_ok X hr hlk v0 v1 v2 v3 v4 v5 v6 v2 hW24 M _ h hK H locs ls O (lv_sub hl [0, 1, 2, 3, 4, 5, 6] rfl)
  rw [if_neg hc34] at h
  refine lv_iload_n hx hb dX12_feed_37 rfl (lv_at hl 1 rfl) ?_
  refine lv_goto (tgt := 77) hx hb dX12_feed_38 (by decide) ?_
  exact F_X12_feed_77_ok X hr hlk v0 v1 v2 v3 v4 v5 v6 v1 hW24 M _ h hK H locs ls O (lv_sub hl [0, 1, 2, 3, 4, 5, 6] rfl)
set_option maxRecDepth 100000 in
set_option maxHeartbeats 4000000 in
theorem F_X12_feed_24_ok (X : xX p s m args c cX12_feed 8 RX12 κ) (hr : meth.sig.returnType = (some .int)) (hlk : meth.locks = false) {ro : Int32} {mo : xM} (v0 : Nat) (v1 : Int32) (v2 : Int32) (v3 : Int32) (v4 : Int32) (v5 : Int32) (v6 : Int32) (M : xM) (x : Int32 × xM) (h : F_X12_feed_24 v0 v1 v2 v3 v4 v5 v6 M = some x) (hK : (fun o => o = (ro, mo)) x) (H : Heap) (locs : List Loc) (ls : Array Slot) (O : xO κ s M H locs) (hl : lv_has ls 8 [(0, .ref (κ.1 + v0)), (1, .int v1), (2, .int v2), (3, .int v3), (4, .int v4), (5, .int v5), (6, .int v6)]) : W p l e (xRm 2 0 0) s m args below meth c H locs 0 0 (xQf below args s 0 0 κ (some (.int ro)) mo) (F0 m 24 ls []) := by
  refine xit_K (Wh := fun x => ∀ (H : Heap) (locs : List Loc) (ls : Array Slot), xO κ s x.2 H locs → lv_has ls 8 [(0, .ref (κ.1 + v0)), (1, .int v1), (2, .int v2), (3, .int v3), (4, .int v4), (5, .int v5), (6, .int x.1)] → W p l e (xRm 2 0 0) s m args below meth c H locs 0 0 (xQf below args s 0 0 κ (some (.int ro)) mo) (F0 m 24 ls [])) (Kp := (fun o => o = (ro, mo))) ?_ xFU (v6, M) x h hK H locs ls O hl
  intro y x h hK H locs ls O hl
  exact F_X12_feed_24_bok X hr hlk v0 v1 v2 v3 v4 v5 y.1 (fun _ _ hw => hw) y.2 x h hK H locs ls O hl
set_option maxRecDepth 100000 in
set_option maxHeartbeats 4000000 in
theorem T_X12_feed (l : Launch) (κ : xQ) (a0 : Nat) (a1 : Int32) (a2 : Int32) (a3 : Int32) (a4 : Int32) (a5 : Int32) (M : xM) (ro : Int32) (mo : xM) (h : F_X12_feed a0 a1 a2 a3 a4 a5 M = some (ro, mo)) : xC l yX12_feed cX12_feed 8 (some .int) 2 0 0 κ [.ref (κ.1 + a0), .int a1, .int a2, .int a3, .int a4, .int a5] M (some (.int ro)) mo := by
  refine xC_of rfl (Nat.le_of_ble_eq_true rfl) fun p e s m args below meth c X hr hlk hnm H locs ls O hl => ?_
  have X : xX p s m args c cX12_feed 8 RX12 κ := X
  have hl : lv_has ls 8 [(0, .ref (κ.1 + a0)), (1, .int a1), (2, .int a2), (3, .int a3), (4, .int a4), (5, .int a5)] := hl
  have hx := X.1
  have hb := X.2.1
  obtain ⟨x, hx0⟩ : ∃ x, (ro, mo) = x := ⟨_, rfl⟩
  rw [hx0] at h
  have hK : x = (ro, mo) := hx0.symm
  unfold F_X12_feed at h
  refine lv_aload_n hx hb dX12_feed_0 rfl (lv_at hl 0 rfl) ?_
  refine lv_iconst (v := (0 : Int32)) hx hb dX12_feed_1 (by decide) ?_
  obtain ⟨t1, ht1, h⟩ := Option.bind_eq_some_iff.mp h
  refine xr_putI X O ht1 fl_X12_1 dX12_feed_2 (fun H locs O => ?_)
  refine lv_aload_n hx hb dX12_feed_5 rfl (lv_at hl 0 rfl) ?_
  obtain ⟨t2, ht2, h⟩ := Option.bind_eq_some_iff.mp h
  refine xr_getI X O ht2 fl_X12_83 (Or.inl rfl) dX12_feed_6 ?_
  refine lv_bipush (v := (20 : Int32)) hx hb dX12_feed_9 (by decide) ?_
  refine lv_iadd hx hb dX12_feed_11 ?_
  refine lv_sipush (v := (900 : Int32)) hx hb dX12_feed_12 (by decide) ?_
  refine lv_icmp_le (tgt := 21) hx hb dX12_feed_15 (by decide) (fun hc15 => ?_) (fun hc15 => ?_)
  · rw [if_pos hc15] at h
    refine lv_iconst (v := (0 : Int32)) hx hb dX12_feed_21 (by decide) ?_
    refine lv_istore (lv' := [(6, .int (0 : Int32)), (0, .ref (κ.1 + a0)), (1, .int a1), (2, .int a2), (3, .int a3), (4, .int a4), (5, .int a5)]) hx hb dX12_feed_22 hl (by decide) rfl (fun ls hl => ?_)
    exact F_X12_feed_24_ok X hr hlk a0 a1 a2 a3 a4 a5 (0 : Int32) t1 _ h hK H locs ls O (lv_sub hl [1, 2, 3, 4, 5, 6, 0] rfl)
  rw [if_neg hc15] at h
  refine lv_bipush (v := (-5 : Int32)) hx hb dX12_feed_18 (by decide) ?_
  rw [← Option.some.inj h] at hK
  have hK : ((-5 : Int32), t1) = (ro, mo) := hK
  obtain ⟨hK1, hK2⟩ := Prod.mk.inj hK
  rw [hK2] at O
  refine xr_top (w := .int ro) (by rw [hK1]) ?_
  exact xr_iret X hr hlk O dX12_feed_20
def F_X12_see (a0 : Nat) (a1 : Int32) (M : xM) : Option (Int32 × xM) :=
(xgI M a0 12 8).bind fun t1 =>
if t1 ≤ a1 then (
some ((-1 : Int32), M))
else (
(xgP M a0 12 3).bind fun t2 =>
(xaI M 20 t2 a1).bind fun t3 =>
some (t3, M))
set_option maxRecDepth 100000 in
set_option maxHeartbeats 4000000 in
theorem T_X12_see (l : Launch) (κ : xQ) (a0 : Nat) (a1 : Int32) (M : xM) (ro : Int32) (mo : xM) (h : F_X12_see a0 a1 M = some (ro, mo)) : xC l yX12_see cX12_see 2 (some .int) 2 0 0 κ [.ref (κ.1 + a0), .int a1] M (some (.int ro)) mo := by
  refine xC_of rfl (Nat.le_of_ble_eq_true rfl) fun p e s m args below meth c X hr hlk hnm H locs ls O hl => ?_
  have X : xX p s m args c cX12_see 2 RX12 κ := X
  have hl : lv_has ls 2 [(0, .ref (κ.1 + a0)), (1, .int a1)] := hl
  have hx := X.1
  have hb := X.2.1
  obtain ⟨x, hx0⟩ : ∃ x, (ro, mo) = x := ⟨_, rfl⟩
  rw [hx0] at h
  have hK : x = (ro, mo) := hx0.symm
  unfold F_X12_see at h
  refine lv_iload_n hx hb dX12_see_0 rfl (lv_at hl 1 rfl) ?_
  refine lv_aload_n hx hb dX12_see_1 rfl (lv_at hl 0 rfl) ?_
  obtain ⟨t1, ht1, h⟩ := Option.bind_eq_some_iff.mp h
  refine xr_getI X O ht1 fl_X12_86 (Or.inl rfl) dX12_see_2 ?_
  refine lv_icmp_ge (tgt := 17) hx hb dX12_see_5 (by decide) (fun hc5 => ?_) (fun hc5 => ?_)
  · rw [if_pos hc5] at h
    refine lv_iconst (v := (-1 : Int32)) hx hb dX12_see_17 (by decide) ?_
    rw [← Option.some.inj h] at hK
    have hK : ((-1 : Int32), M) = (ro, mo) := hK
    obtain ⟨hK1, hK2⟩ := Prod.mk.inj hK
    rw [hK2] at O
    refine xr_top (w := .int ro) (by rw [hK1]) ?_
    exact xr_iret X hr hlk O dX12_see_18
  rw [if_neg hc5] at h
  refine lv_aload_n hx hb dX12_see_8 rfl (lv_at hl 0 rfl) ?_
  obtain ⟨t2, ht2, h⟩ := Option.bind_eq_some_iff.mp h
  refine xr_getP X O ht2 fl_X12_21 dX12_see_9 ?_
  refine lv_iload_n hx hb dX12_see_12 rfl (lv_at hl 1 rfl) ?_
  obtain ⟨t3, ht3, h⟩ := Option.bind_eq_some_iff.mp h
  refine xr_aldI X O ht3 dX12_see_13 ?_
  refine lv_goto (tgt := 18) hx hb dX12_see_14 (by decide) ?_
  rw [← Option.some.inj h] at hK
  have hK : (t3, M) = (ro, mo) := hK
  obtain ⟨hK1, hK2⟩ := Prod.mk.inj hK
  rw [hK2] at O
  refine xr_top (w := .int ro) (by rw [hK1]) ?_
  exact xr_iret X hr hlk O dX12_see_18
def F_X12_isSmall_16 (M : xM) : Option (Int32 × xM) :=
(xz (0 : Int32)).bind fun t2 =>
some (t2, M)
def F_X12_isSmall (a0 : Int32) (M : xM) : Option (Int32 × xM) :=
if a0 < (97 : Int32) then (
F_X12_isSmall_16 M)
else (
if (122 : Int32) < a0 then (
F_X12_isSmall_16 M)
else (
(xz (1 : Int32)).bind fun t1 =>
some (t1, M)))
set_option maxRecDepth 100000 in
set_option maxHeartbeats 4000000 in
theorem F_X12_isSmall_16_ok (X : xX p s m args c cX12_isSmall 1 RX12 κ) (hr : meth.sig.returnType = (some .boolean)) (hlk : meth.locks = false) {ro : Int32} {mo : xM} (M : xM) (x : Int32 × xM) (h : F_X12_isSmall_16 M = some x) (hK : (fun o => o = (ro, mo)) x) (H : Heap) (locs : List Loc) (ls : Array Slot) (O : xO κ s M H locs) (hl : lv_has ls 1 []) : W p l e (xRm 2 0 0) s m args below meth c H locs 0 0 (xQf below args s 0 0 κ (some (.int ro)) mo) (F0 m 16 ls []) := by
  unfold F_X12_isSmall_16 at h
  have hx := X.1
  have hb := X.2.1
  refine lv_iconst (v := (0 : Int32)) hx hb dX12_isSmall_16 (by decide) ?_
  obtain ⟨t2, ht2, h⟩ := Option.bind_eq_some_iff.mp h
  rw [← Option.some.inj h] at hK
  have hK : (t2, M) = (ro, mo) := hK
  obtain ⟨hK1, hK2⟩ := Prod.mk.inj hK
  rw [hK1] at ht2
  rw [hK2] at O
  exact xr_zret X hr hlk O ht2 dX12_isSmall_17
set_option maxRecDepth 100000 in
set_option maxHeartbeats 4000000 in
theorem T_X12_isSmall (l : Launch) (κ : xQ) (a0 : Int32) (M : xM) (ro : Int32) (mo : xM) (h : F_X12_isSmall a0 M = some (ro, mo)) : xC l yX12_isSmall cX12_isSmall 1 (some .boolean) 2 0 0 κ [.int a0] M (some (.int ro)) mo := by
  refine xC_of rfl (Nat.le_of_ble_eq_true rfl) fun p e s m args below meth c X hr hlk hnm H locs ls O hl => ?_
  have X : xX p s m args c cX12_isSmall 1 RX12 κ := X
  have hl : lv_has ls 1 [(0, .int a0)] := hl
  have hx := X.1
  have hb := X.2.1
  obtain ⟨x, hx0⟩ : ∃ x, (ro, mo) = x := ⟨_, rfl⟩
  rw [hx0] at h
  have hK : x = (ro, mo) := hx0.symm
  unfold F_X12_isSmall at h
  refine lv_iload_n hx hb dX12_isSmall_0 rfl (lv_at hl 0 rfl) ?_
  refine lv_bipush (v := (97 : Int32)) hx hb dX12_isSmall_1 (by decide) ?_
  refine lv_icmp_lt (tgt := 16) hx hb dX12_isSmall_3 (by decide) (fun hc3 => ?_) (fun hc3 => ?_)
  · rw [if_pos hc3] at h
    exact F_X12_isSmall_16_ok X hr hlk  M _ h hK H locs ls O (lv_sub hl [] rfl)
  rw [if_neg hc3] at h
  refine lv_iload_n hx hb dX12_isSmall_6 rfl (lv_at hl 0 rfl) ?_
  refine lv_bipush (v := (122 : Int32)) hx hb dX12_isSmall_7 (by decide) ?_
  refine lv_icmp_gt (tgt := 16) hx hb dX12_isSmall_9 (by decide) (fun hc9 => ?_) (fun hc9 => ?_)
  · rw [if_pos hc9] at h
    exact F_X12_isSmall_16_ok X hr hlk  M _ h hK H locs ls O (lv_sub hl [] rfl)
  rw [if_neg hc9] at h
  refine lv_iconst (v := (1 : Int32)) hx hb dX12_isSmall_12 (by decide) ?_
  refine lv_goto (tgt := 17) hx hb dX12_isSmall_13 (by decide) ?_
  obtain ⟨t1, ht1, h⟩ := Option.bind_eq_some_iff.mp h
  rw [← Option.some.inj h] at hK
  have hK : (t1, M) = (ro, mo) := hK
  obtain ⟨hK1, hK2⟩ := Prod.mk.inj hK
  rw [hK1] at ht1
  rw [hK2] at O
  exact xr_zret X hr hlk O ht1 dX12_isSmall_17
def F_X12_isDigit_16 (M : xM) : Option (Int32 × xM) :=
(xz (0 : Int32)).bind fun t2 =>
some (t2, M)
def F_X12_isDigit (a0 : Int32) (M : xM) : Option (Int32 × xM) :=
if a0 < (48 : Int32) then (
F_X12_isDigit_16 M)
else (
if (57 : Int32) < a0 then (
F_X12_isDigit_16 M)
else (
(xz (1 : Int32)).bind fun t1 =>
some (t1, M)))
set_option maxRecDepth 100000 in
set_option maxHeartbeats 4000000 in
theorem F_X12_isDigit_16_ok (X : xX p s m args c cX12_isDigit 1 RX12 κ) (hr : meth.sig.returnType = (some .boolean)) (hlk : meth.locks = false) {ro : Int32} {mo : xM} (M : xM) (x : Int32 × xM) (h : F_X12_isDigit_16 M = some x) (hK : (fun o => o = (ro, mo)) x) (H : Heap) (locs : List Loc) (ls : Array Slot) (O : xO κ s M H locs) (hl : lv_has ls 1 []) : W p l e (xRm 2 0 0) s m args below meth c H locs 0 0 (xQf below args s 0 0 κ (some (.int ro)) mo) (F0 m 16 ls []) := by
  unfold F_X12_isDigit_16 at h
  have hx := X.1
  have hb := X.2.1
  refine lv_iconst (v := (0 : Int32)) hx hb dX12_isDigit_16 (by decide) ?_
  obtain ⟨t2, ht2, h⟩ := Option.bind_eq_some_iff.mp h
  rw [← Option.some.inj h] at hK
  have hK : (t2, M) = (ro, mo) := hK
  obtain ⟨hK1, hK2⟩ := Prod.mk.inj hK
  rw [hK1] at ht2
  rw [hK2] at O
  exact xr_zret X hr hlk O ht2 dX12_isDigit_17
set_option maxRecDepth 100000 in
set_option maxHeartbeats 4000000 in
theorem T_X12_isDigit (l : Launch) (κ : xQ) (a0 : Int32) (M : xM) (ro : Int32) (mo : xM) (h : F_X12_isDigit a0 M = some (ro, mo)) : xC l yX12_isDigit cX12_isDigit 1 (some .boolean) 2 0 0 κ [.int a0] M (some (.int ro)) mo := by
  refine xC_of rfl (Nat.le_of_ble_eq_true rfl) fun p e s m args below meth c X hr hlk hnm H locs ls O hl => ?_
  have X : xX p s m args c cX12_isDigit 1 RX12 κ := X
  have hl : lv_has ls 1 [(0, .int a0)] := hl
  have hx := X.1
  have hb := X.2.1
  obtain ⟨x, hx0⟩ : ∃ x, (ro, mo) = x := ⟨_, rfl⟩
  rw [hx0] at h
  have hK : x = (ro, mo) := hx0.symm
  unfold F_X12_isDigit at h
  refine lv_iload_n hx hb dX12_isDigit_0 rfl (lv_at hl 0 rfl) ?_
  refine lv_bipush (v := (48 : Int32)) hx hb dX12_isDigit_1 (by decide) ?_
  refine lv_icmp_lt (tgt := 16) hx hb dX12_isDigit_3 (by decide) (fun hc3 => ?_) (fun hc3 => ?_)
  · rw [if_pos hc3] at h
    exact F_X12_isDigit_16_ok X hr hlk  M _ h hK H locs ls O (lv_sub hl [] rfl)
  rw [if_neg hc3] at h
  refine lv_iload_n hx hb dX12_isDigit_6 rfl (lv_at hl 0 rfl) ?_
  refine lv_bipush (v := (57 : Int32)) hx hb dX12_isDigit_7 (by decide) ?_
  refine lv_icmp_gt (tgt := 16) hx hb dX12_isDigit_9 (by decide) (fun hc9 => ?_) (fun hc9 => ?_)
  · rw [if_pos hc9] at h
    exact F_X12_isDigit_16_ok X hr hlk  M _ h hK H locs ls O (lv_sub hl [] rfl)
  rw [if_neg hc9] at h
  refine lv_iconst (v := (1 : Int32)) hx hb dX12_isDigit_12 (by decide) ?_
  refine lv_goto (tgt := 17) hx hb dX12_isDigit_13 (by decide) ?_
  obtain ⟨t1, ht1, h⟩ := Option.bind_eq_some_iff.mp h
  rw [← Option.some.inj h] at hK
  have hK : (t1, M) = (ro, mo) := hK
  obtain ⟨hK1, hK2⟩ := Prod.mk.inj hK
  rw [hK1] at ht1
  rw [hK2] at O
  exact xr_zret X hr hlk O ht1 dX12_isDigit_17
def F_X12_keyAt_95 (v1 : Int32) (M : xM) : Option (Int32 × xM) :=
some (v1, M)
def F_X12_keyAt_114 (v0 : Nat) (v1 : Int32) (v2 : Int32) (M : xM) : Option ((Int32 × Int32 × xM) ⊕ (Int32 × xM)) :=
some (.inl ((v1 + 1), (v2 + 1), M))
def F_X12_keyAt_97b (v0 : Nat) (v1 : Int32) : (Int32 × xM) → Option ((Int32 × xM) ⊕ ((Int32 × Int32 × xM) ⊕ (Int32 × xM))) := fun ⟨v2, M⟩ =>
(xso 28).bind fun _ =>
(F_J0_charAt_5068e 28 v2 M).bind fun t17 =>
if t17.1 = (32 : Int32) then (
(F_X12_keyAt_114 v0 v1 v2 t17.2).map Sum.inr)
else (
some (.inl ((v2 + 1), t17.2)))
def F_X12_keyAt_97 (v0 : Nat) (v1 : Int32) (v2 : Int32) (M : xM) : Option ((Int32 × Int32 × xM) ⊕ (Int32 × xM)) := xit (F_X12_keyAt_97b v0 v1) xFU (v2, M)
def F_X12_keyAt_69 (v0 : Nat) (v1 : Int32) (v2 : Int32) (v3 : Int32) (M : xM) : Option ((Int32 × Int32 × xM) ⊕ (Int32 × xM)) :=
(xso 28).bind fun _ =>
(F_J0_charAt_5068e 28 (v2 + v3) M).bind fun t13 =>
if t13.1 = (32 : Int32) then (
(xgI t13.2 v0 12 6).bind fun t14 =>
(xgI t13.2 v0 12 7).bind fun t15 =>
if (t14 + v3) = t15 then (
(F_X12_keyAt_95 v1 t13.2).map Sum.inr)
else (
F_X12_keyAt_97 v0 v1 v2 t13.2))
else (
F_X12_keyAt_97 v0 v1 v2 t13.2)
def F_X12_keyAt_15b (v0 : Nat) (v1 : Int32) (v2 : Int32) : (Int32 × xM) → Option ((Int32 × xM) ⊕ ((Int32 × Int32 × xM) ⊕ (Int32 × xM))) := fun ⟨v3, M⟩ =>
(xso 28).bind fun _ =>
(F_J0_charAt_5068e 28 (v2 + v3) M).bind fun t4 =>
if t4.1 = (32 : Int32) then (
(F_X12_keyAt_69 v0 v1 v2 v3 t4.2).map Sum.inr)
else (
(xgI t4.2 v0 12 6).bind fun t5 =>
(xgI t4.2 v0 12 7).bind fun t6 =>
if t6 ≤ (t5 + v3) then (
(F_X12_keyAt_69 v0 v1 v2 v3 t4.2).map Sum.inr)
else (
(xgP t4.2 v0 12 3).bind fun t7 =>
(xgI t4.2 v0 12 6).bind fun t8 =>
(xaI t4.2 20 t7 (t8 + v3)).bind fun t9 =>
(xso 28).bind fun _ =>
(F_J0_charAt_5068e 28 (v2 + v3) t4.2).bind fun t11 =>
if t9 = t11.1 then (
some (.inl ((v3 + 1), t11.2)))
else (
(F_X12_keyAt_69 v0 v1 v2 v3 t11.2).map Sum.inr)))
def F_X12_keyAt_15 (v0 : Nat) (v1 : Int32) (v2 : Int32) (v3 : Int32) (M : xM) : Option ((Int32 × Int32 × xM) ⊕ (Int32 × xM)) := xit (F_X12_keyAt_15b v0 v1 v2) xFU (v3, M)
def F_X12_keyAt_123 (M : xM) : Option (Int32 × xM) :=
some ((28 : Int32), M)
def F_X12_keyAt_4b (v0 : Nat) : (Int32 × Int32 × xM) → Option ((Int32 × Int32 × xM) ⊕ (Int32 × xM)) := fun ⟨v1, v2, M⟩ =>
(xso 28).bind fun _ =>
(F_J0_length_8abf5 28 M).bind fun t2 =>
if t2.1 ≤ v2 then (
(F_X12_keyAt_123 t2.2).map Sum.inr)
else (
F_X12_keyAt_15 v0 v1 v2 (0 : Int32) t2.2)
def F_X12_keyAt_4 (v0 : Nat) (v1 : Int32) (v2 : Int32) (M : xM) : Option (Int32 × xM) := xit (F_X12_keyAt_4b v0) xFU (v1, v2, M)
def F_X12_keyAt (a0 : Nat) (M : xM) : Option (Int32 × xM) :=
F_X12_keyAt_4 a0 (0 : Int32) (1 : Int32) M
set_option maxRecDepth 100000 in
set_option maxHeartbeats 4000000 in
theorem F_X12_keyAt_95_ok (X : xX p s m args c cX12_keyAt 4 RX12 κ) (hr : meth.sig.returnType = (some .int)) (hlk : meth.locks = false) {ro : Int32} {mo : xM} (v1 : Int32) (M : xM) (x : Int32 × xM) (h : F_X12_keyAt_95 v1 M = some x) (hK : (fun o => o = (ro, mo)) x) (H : Heap) (locs : List Loc) (ls : Array Slot) (O : xO κ s M H locs) (hl : lv_has ls 4 [(1, .int v1)]) : W p l e (xRm 6 0 0) s m args below meth c H locs 0 0 (xQf below args s 0 0 κ (some (.int ro)) mo) (F0 m 95 ls []) := by
  unfold F_X12_keyAt_95 at h
  have hx := X.1
  have hb := X.2.1
  refine lv_iload_n hx hb dX12_keyAt_95 rfl (lv_at hl 0 rfl) ?_
  rw [← Option.some.inj h] at hK
  have hK : (v1, M) = (ro, mo) := hK
  obtain ⟨hK1, hK2⟩ := Prod.mk.inj hK
  rw [hK2] at O
  refine xr_top (w := .int ro) (by rw [hK1]) ?_
  exact xr_iret X hr hlk O dX12_keyAt_96
set_option maxRecDepth 100000 in
set_option maxHeartbeats 4000000 in
theorem F_X12_keyAt_114_ok (X : xX p s m args c cX12_keyAt 4 RX12 κ) (hr : meth.sig.returnType = (some .int)) (hlk : meth.locks = false) {ro : Int32} {mo : xM} (v0 : Nat) (v1 : Int32) (v2 : Int32) {W4 : Int32 × Int32 × xM → Prop} (hW4 : ∀ (v1 : Int32) (v2 : Int32) (M : xM), W4 (v1, v2, M) → ∀ (H : Heap) (locs : List Loc) (ls : Array Slot), xO κ s M H locs → lv_has ls 4 [(0, .ref (κ.1 + v0)), (1, .int v1), (2, .int v2)] → W p l e (xRm 6 0 0) s m args below meth c H locs 0 0 (xQf below args s 0 0 κ (some (.int ro)) mo) (F0 m 4 ls [])) (M : xM) (x : (Int32 × Int32 × xM) ⊕ (Int32 × xM)) (h : F_X12_keyAt_114 v0 v1 v2 M = some x) (hK : (xKl W4 (fun o => o = (ro, mo))) x) (H : Heap) (locs : List Loc) (ls : Array Slot) (O : xO κ s M H locs) (hl : lv_has ls 4 [(0, .ref (κ.1 + v0)), (1, .int v1), (2, .int v2)]) : W p l e (xRm 6 0 0) s m args below meth c H locs 0 0 (xQf below args s 0 0 κ (some (.int ro)) mo) (F0 m 114 ls []) := by
  unfold F_X12_keyAt_114 at h
  have hx := X.1
  have hb := X.2.1
  refine lv_iinc (v := (v2 + 1)) (lv' := [(2, .int (v2 + 1)), (0, .ref (κ.1 + v0)), (1, .int v1)]) hx hb dX12_keyAt_114 hl (k := 2) rfl rfl (by decide) rfl (fun ls hl => ?_)
  refine lv_iinc (v := (v1 + 1)) (lv' := [(1, .int (v1 + 1)), (2, .int (v2 + 1)), (0, .ref (κ.1 + v0))]) hx hb dX12_keyAt_117 hl (k := 2) rfl rfl (by decide) rfl (fun ls hl => ?_)
  refine lv_goto (tgt := 4) hx hb dX12_keyAt_120 (by decide) ?_
  rw [← Option.some.inj h] at hK
  exact hW4 (v1 + 1) (v2 + 1) M hK H locs ls O (lv_sub hl [2, 0, 1] rfl)
set_option maxRecDepth 100000 in
set_option maxHeartbeats 4000000 in
theorem F_X12_keyAt_97_bok (X : xX p s m args c cX12_keyAt 4 RX12 κ) (hr : meth.sig.returnType = (some .int)) (hlk : meth.locks = false) {ro : Int32} {mo : xM} (v0 : Nat) (v1 : Int32) (v2 : Int32) {W4 : Int32 × Int32 × xM → Prop} (hW4 : ∀ (v1 : Int32) (v2 : Int32) (M : xM), W4 (v1, v2, M) → ∀ (H : Heap) (locs : List Loc) (ls : Array Slot), xO κ s M H locs → lv_has ls 4 [(0, .ref (κ.1 + v0)), (1, .int v1), (2, .int v2)] → W p l e (xRm 6 0 0) s m args below meth c H locs 0 0 (xQf below args s 0 0 κ (some (.int ro)) mo) (F0 m 4 ls [])) {W97 : Int32 × xM → Prop} (hW97 : ∀ (v2 : Int32) (M : xM), W97 (v2, M) → ∀ (H : Heap) (locs : List Loc) (ls : Array Slot), xO κ s M H locs → lv_has ls 4 [(0, .ref (κ.1 + v0)), (1, .int v1), (2, .int v2)] → W p l e (xRm 6 0 0) s m args below meth c H locs 0 0 (xQf below args s 0 0 κ (some (.int ro)) mo) (F0 m 97 ls [])) (M : xM) (x : (Int32 × xM) ⊕ ((Int32 × Int32 × xM) ⊕ (Int32 × xM))) (h : F_X12_keyAt_97b v0 v1 (v2, M) = some x) (hK : (xKl W97 (xKl W4 (fun o => o = (ro, mo)))) x) (H : Heap) (locs : List Loc) (ls : Array Slot) (O : xO κ s M H locs) (hl : lv_has ls 4 [(0, .ref (κ.1 + v0)), (1, .int v1), (2, .int v2)]) : W p l e (xRm 6 0 0) s m args below meth c H locs 0 0 (xQf below args s 0 0 κ (some (.int ro)) mo) (F0 m 97 ls []) := by
  unfold F_X12_keyAt_97b at h
  dsimp only at h
  have hx := X.1
  have hb := X.2.1
  refine va_ldcS hx hb X.2.2.2.1 (X.2.2.2.2.2.2.1 28 _ rfl).1 dX12_keyAt_97 ?_
  refine lv_iload_n hx hb dX12_keyAt_99 rfl (lv_at hl 2 rfl) ?_
  obtain ⟨_, hut16, h⟩ := Option.bind_eq_some_iff.mp h
  obtain ⟨t17, ht17, h⟩ := Option.bind_eq_some_iff.mp h
  refine xr_callT (i := 28) (rest := []) X O (T_J0_charAt_5068e l κ 28 v2 M _ _ ht17) lk_X12_97 hut16 (Nat.le_of_ble_eq_true rfl) rfl hl.1 rfl (Nat.le_of_ble_eq_true rfl) dX12_keyAt_100 ⟨Nat.le_of_ble_eq_true rfl, Nat.le_of_ble_eq_true rfl⟩ (fun H locs O => ?_)
  refine W.eq (g2 := F0 m 103 ls [.int t17.1]) rfl ?_
  refine lv_bipush (v := (32 : Int32)) hx hb dX12_keyAt_103 (by decide) ?_
  refine lv_icmp_eq (tgt := 114) hx hb dX12_keyAt_105 (by decide) (fun hc105 => ?_) (fun hc105 => ?_)
  · rw [if_pos hc105] at h
    obtain ⟨_, hw0, ew0⟩ := Option.map_eq_some_iff.mp h
    rw [← ew0] at hK
    have h := hw0
    exact F_X12_keyAt_114_ok X hr hlk v0 v1 v2 hW4 t17.2 _ h hK H locs ls O (lv_sub hl [0, 1, 2] rfl)
  rw [if_neg hc105] at h
  refine lv_iinc (v := (v2 + 1)) (lv' := [(2, .int (v2 + 1)), (0, .ref (κ.1 + v0)), (1, .int v1)]) hx hb dX12_keyAt_108 hl (k := 2) rfl rfl (by decide) rfl (fun ls hl => ?_)
  refine lv_goto (tgt := 97) hx hb dX12_keyAt_111 (by decide) ?_
  rw [← Option.some.inj h] at hK
  exact hW97 (v2 + 1) t17.2 hK H locs ls O (lv_sub hl [1, 2, 0] rfl)
set_option maxRecDepth 100000 in
set_option maxHeartbeats 4000000 in
theorem F_X12_keyAt_97_ok (X : xX p s m args c cX12_keyAt 4 RX12 κ) (hr : meth.sig.returnType = (some .int)) (hlk : meth.locks = false) {ro : Int32} {mo : xM} (v0 : Nat) (v1 : Int32) (v2 : Int32) {W4 : Int32 × Int32 × xM → Prop} (hW4 : ∀ (v1 : Int32) (v2 : Int32) (M : xM), W4 (v1, v2, M) → ∀ (H : Heap) (locs : List Loc) (ls : Array Slot), xO κ s M H locs → lv_has ls 4 [(0, .ref (κ.1 + v0)), (1, .int v1), (2, .int v2)] → W p l e (xRm 6 0 0) s m args below meth c H locs 0 0 (xQf below args s 0 0 κ (some (.int ro)) mo) (F0 m 4 ls [])) (M : xM) (x : (Int32 × Int32 × xM) ⊕ (Int32 × xM)) (h : F_X12_keyAt_97 v0 v1 v2 M = some x) (hK : (xKl W4 (fun o => o = (ro, mo))) x) (H : Heap) (locs : List Loc) (ls : Array Slot) (O : xO κ s M H locs) (hl : lv_has ls 4 [(0, .ref (κ.1 + v0)), (1, .int v1), (2, .int v2)]) : W p l e (xRm 6 0 0) s m args below meth c H locs 0 0 (xQf below args s 0 0 κ (some (.int ro)) mo) (F0 m 97 ls []) := by
  refine xit_K (Wh := fun x => ∀ (H : Heap) (locs : List Loc) (ls : Array Slot), xO κ s x.2 H locs → lv_has ls 4 [(0, .ref (κ.1 + v0)), (1, .int v1), (2, .int x.1)] → W p l e (xRm 6 0 0) s m args below meth c H locs 0 0 (xQf below args s 0 0 κ (some (.int ro)) mo) (F0 m 97 ls [])) (Kp := (xKl W4 (fun o => o = (ro, mo)))) ?_ xFU (v2, M) x h hK H locs ls O hl
  intro y x h hK H locs ls O hl
  exact F_X12_keyAt_97_bok X hr hlk v0 v1 y.1 hW4 (fun _ _ hw => hw) y.2 x h hK H locs ls O hl
set_option maxRecDepth 100000 in
set_option maxHeartbeats 4000000 in
theorem F_X12_keyAt_69_ok (X : xX p s m args c cX12_keyAt 4 RX12 κ) (hr : meth.sig.returnType = (some .int)) (hlk : meth.locks = false) {ro : Int32} {mo : xM} (v0 : Nat) (v1 : Int32) (v2 : Int32) (v3 : Int32) {W4 : Int32 × Int32 × xM → Prop} (hW4 : ∀ (v1 : Int32) (v2 : Int32) (M : xM), W4 (v1, v2, M) → ∀ (H : Heap) (locs : List Loc) (ls : Array Slot), xO κ s M H locs → lv_has ls 4 [(0, .ref (κ.1 + v0)), (1, .int v1), (2, .int v2)] → W p l e (xRm 6 0 0) s m args below meth c H locs 0 0 (xQf below args s 0 0 κ (some (.int ro)) mo) (F0 m 4 ls [])) (M : xM) (x : (Int32 × Int32 × xM) ⊕ (Int32 × xM)) (h : F_X12_keyAt_69 v0 v1 v2 v3 M = some x) (hK : (xKl W4 (fun o => o = (ro, mo))) x) (H : Heap) (locs : List Loc) (ls : Array Slot) (O : xO κ s M H locs) (hl : lv_has ls 4 [(0, .ref (κ.1 + v0)), (1, .int v1), (2, .int v2), (3, .int v3)]) : W p l e (xRm 6 0 0) s m args below meth c H locs 0 0 (xQf below args s 0 0 κ (some (.int ro)) mo) (F0 m 69 ls []) := by
  unfold F_X12_keyAt_69 at h
  have hx := X.1
  have hb := X.2.1
  refine va_ldcS hx hb X.2.2.2.1 (X.2.2.2.2.2.2.1 28 _ rfl).1 dX12_keyAt_69 ?_
  refine lv_iload_n hx hb dX12_keyAt_71 rfl (lv_at hl 2 rfl) ?_
  refine lv_iload_n hx hb dX12_keyAt_72 rfl (lv_at hl 3 rfl) ?_
  refine lv_iadd hx hb dX12_keyAt_73 ?_
  obtain ⟨_, hut12, h⟩ := Option.bind_eq_some_iff.mp h
  obtain ⟨t13, ht13, h⟩ := Option.bind_eq_some_iff.mp h
  refine xr_callT (i := 28) (rest := []) X O (T_J0_charAt_5068e l κ 28 (v2 + v3) M _ _ ht13) lk_X12_97 hut12 (Nat.le_of_ble_eq_true rfl) rfl hl.1 rfl (Nat.le_of_ble_eq_true rfl) dX12_keyAt_74 ⟨Nat.le_of_ble_eq_true rfl, Nat.le_of_ble_eq_true rfl⟩ (fun H locs O => ?_)
  refine W.eq (g2 := F0 m 77 ls [.int t13.1]) rfl ?_
  refine lv_bipush (v := (32 : Int32)) hx hb dX12_keyAt_77 (by decide) ?_
  refine lv_icmp_ne (tgt := 97) hx hb dX12_keyAt_79 (by decide) (fun hc79 => ?_) (fun hc79 => ?_)
  · rw [if_neg hc79] at h
    exact F_X12_keyAt_97_ok X hr hlk v0 v1 v2 hW4 t13.2 _ h hK H locs ls O (lv_sub hl [0, 1, 2] rfl)
  rw [if_pos hc79] at h
  refine lv_aload_n hx hb dX12_keyAt_82 rfl (lv_at hl 0 rfl) ?_
  obtain ⟨t14, ht14, h⟩ := Option.bind_eq_some_iff.mp h
  refine xr_getI X O ht14 fl_X12_101 (Or.inl rfl) dX12_keyAt_83 ?_
  refine lv_iload_n hx hb dX12_keyAt_86 rfl (lv_at hl 3 rfl) ?_
  refine lv_iadd hx hb dX12_keyAt_87 ?_
  refine lv_aload_n hx hb dX12_keyAt_88 rfl (lv_at hl 0 rfl) ?_
  obtain ⟨t15, ht15, h⟩ := Option.bind_eq_some_iff.mp h
  refine xr_getI X O ht15 fl_X12_104 (Or.inl rfl) dX12_keyAt_89 ?_
  refine lv_icmp_ne (tgt := 97) hx hb dX12_keyAt_92 (by decide) (fun hc92 => ?_) (fun hc92 => ?_)
  · rw [if_neg hc92] at h
    exact F_X12_keyAt_97_ok X hr hlk v0 v1 v2 hW4 t13.2 _ h hK H locs ls O (lv_sub hl [0, 1, 2] rfl)
  rw [if_pos hc92] at h
  obtain ⟨_, hw0, ew0⟩ := Option.map_eq_some_iff.mp h
  rw [← ew0] at hK
  have h := hw0
  exact F_X12_keyAt_95_ok X hr hlk v1 t13.2 _ h hK H locs ls O (lv_sub hl [1] rfl)
set_option maxRecDepth 100000 in
set_option maxHeartbeats 4000000 in
theorem F_X12_keyAt_15_bok (X : xX p s m args c cX12_keyAt 4 RX12 κ) (hr : meth.sig.returnType = (some .int)) (hlk : meth.locks = false) {ro : Int32} {mo : xM} (v0 : Nat) (v1 : Int32) (v2 : Int32) (v3 : Int32) {W4 : Int32 × Int32 × xM → Prop} (hW4 : ∀ (v1 : Int32) (v2 : Int32) (M : xM), W4 (v1, v2, M) → ∀ (H : Heap) (locs : List Loc) (ls : Array Slot), xO κ s M H locs → lv_has ls 4 [(0, .ref (κ.1 + v0)), (1, .int v1), (2, .int v2)] → W p l e (xRm 6 0 0) s m args below meth c H locs 0 0 (xQf below args s 0 0 κ (some (.int ro)) mo) (F0 m 4 ls [])) {W15 : Int32 × xM → Prop} (hW15 : ∀ (v3 : Int32) (M : xM), W15 (v3, M) → ∀ (H : Heap) (locs : List Loc) (ls : Array Slot), xO κ s M H locs → lv_has ls 4 [(0, .ref (κ.1 + v0)), (1, .int v1), (2, .int v2), (3, .int v3)] → W p l e (xRm 6 0 0) s m args below meth c H locs 0 0 (xQf below args s 0 0 κ (some (.int ro)) mo) (F0 m 15 ls [])) (M : xM) (x : (Int32 × xM) ⊕ ((Int32 × Int32 × xM) ⊕ (Int32 × xM))) (h : F_X12_keyAt_15b v0 v1 v2 (v3, M) = some x) (hK : (xKl W15 (xKl W4 (fun o => o = (ro, mo)))) x) (H : Heap) (locs : List Loc) (ls : Array Slot) (O : xO κ s M H locs) (hl : lv_has ls 4 [(0, .ref (κ.1 + v0)), (1, .int v1), (2, .int v2), (3, .int v3)]) : W p l e (xRm 6 0 0) s m args below meth c H locs 0 0 (xQf below args s 0 0 κ (some (.int ro)) mo) (F0 m 15 ls []) := by
  unfold F_X12_keyAt_15b at h
  dsimp only at h
  have hx := X.1
  have hb := X.2.1
  refine va_ldcS hx hb X.2.2.2.1 (X.2.2.2.2.2.2.1 28 _ rfl).1 dX12_keyAt_15 ?_
  refine lv_iload_n hx hb dX12_keyAt_17 rfl (lv_at hl 2 rfl) ?_
  refine lv_iload_n hx hb dX12_keyAt_18 rfl (lv_at hl 3 rfl) ?_
  refine lv_iadd hx hb dX12_keyAt_19 ?_
  obtain ⟨_, hut3, h⟩ := Option.bind_eq_some_iff.mp h
  obtain ⟨t4, ht4, h⟩ := Option.bind_eq_some_iff.mp h
  refine xr_callT (i := 28) (rest := []) X O (T_J0_charAt_5068e l κ 28 (v2 + v3) M _ _ ht4) lk_X12_97 hut3 (Nat.le_of_ble_eq_true rfl) rfl hl.1 rfl (Nat.le_of_ble_eq_true rfl) dX12_keyAt_20 ⟨Nat.le_of_ble_eq_true rfl, Nat.le_of_ble_eq_true rfl⟩ (fun H locs O => ?_)
  refine W.eq (g2 := F0 m 23 ls [.int t4.1]) rfl ?_
  refine lv_bipush (v := (32 : Int32)) hx hb dX12_keyAt_23 (by decide) ?_
  refine lv_icmp_eq (tgt := 69) hx hb dX12_keyAt_25 (by decide) (fun hc25 => ?_) (fun hc25 => ?_)
  · rw [if_pos hc25] at h
    obtain ⟨_, hw0, ew0⟩ := Option.map_eq_some_iff.mp h
    rw [← ew0] at hK
    have h := hw0
    exact F_X12_keyAt_69_ok X hr hlk v0 v1 v2 v3 hW4 t4.2 _ h hK H locs ls O (lv_sub hl [0, 1, 2, 3] rfl)
  rw [if_neg hc25] at h
  refine lv_aload_n hx hb dX12_keyAt_28 rfl (lv_at hl 0 rfl) ?_
  obtain ⟨t5, ht5, h⟩ := Option.bind_eq_some_iff.mp h
  refine xr_getI X O ht5 fl_X12_101 (Or.inl rfl) dX12_keyAt_29 ?_
  refine lv_iload_n hx hb dX12_keyAt_32 rfl (lv_at hl 3 rfl) ?_
  refine lv_iadd hx hb dX12_keyAt_33 ?_
  refine lv_aload_n hx hb dX12_keyAt_34 rfl (lv_at hl 0 rfl) ?_
  obtain ⟨t6, ht6, h⟩ := Option.bind_eq_some_iff.mp h
  refine xr_getI X O ht6 fl_X12_104 (Or.inl rfl) dX12_keyAt_35 ?_
  refine lv_icmp_ge (tgt := 69) hx hb dX12_keyAt_38 (by decide) (fun hc38 => ?_) (fun hc38 => ?_)
  · rw [if_pos hc38] at h
    obtain ⟨_, hw0, ew0⟩ := Option.map_eq_some_iff.mp h
    rw [← ew0] at hK
    have h := hw0
    exact F_X12_keyAt_69_ok X hr hlk v0 v1 v2 v3 hW4 t4.2 _ h hK H locs ls O (lv_sub hl [0, 1, 2, 3] rfl)
  rw [if_neg hc38] at h
  refine lv_aload_n hx hb dX12_keyAt_41 rfl (lv_at hl 0 rfl) ?_
  obtain ⟨t7, ht7, h⟩ := Option.bind_eq_some_iff.mp h
  refine xr_getP X O ht7 fl_X12_21 dX12_keyAt_42 ?_
  refine lv_aload_n hx hb dX12_keyAt_45 rfl (lv_at hl 0 rfl) ?_
  obtain ⟨t8, ht8, h⟩ := Option.bind_eq_some_iff.mp h
  refine xr_getI X O ht8 fl_X12_101 (Or.inl rfl) dX12_keyAt_46 ?_
  refine lv_iload_n hx hb dX12_keyAt_49 rfl (lv_at hl 3 rfl) ?_
  refine lv_iadd hx hb dX12_keyAt_50 ?_
  obtain ⟨t9, ht9, h⟩ := Option.bind_eq_some_iff.mp h
  refine xr_aldI X O ht9 dX12_keyAt_51 ?_
  refine va_ldcS hx hb X.2.2.2.1 (X.2.2.2.2.2.2.1 28 _ rfl).1 dX12_keyAt_52 ?_
  refine lv_iload_n hx hb dX12_keyAt_54 rfl (lv_at hl 2 rfl) ?_
  refine lv_iload_n hx hb dX12_keyAt_55 rfl (lv_at hl 3 rfl) ?_
  refine lv_iadd hx hb dX12_keyAt_56 ?_
  obtain ⟨_, hut10, h⟩ := Option.bind_eq_some_iff.mp h
  obtain ⟨t11, ht11, h⟩ := Option.bind_eq_some_iff.mp h
  refine xr_callT (i := 28) (rest := [.int t9]) X O (T_J0_charAt_5068e l κ 28 (v2 + v3) t4.2 _ _ ht11) lk_X12_97 hut10 (Nat.le_of_ble_eq_true rfl) rfl hl.1 rfl (Nat.le_of_ble_eq_true rfl) dX12_keyAt_57 ⟨Nat.le_of_ble_eq_true rfl, Nat.le_of_ble_eq_true rfl⟩ (fun H locs O => ?_)
  refine W.eq (g2 := F0 m 60 ls [.int t11.1, .int t9]) rfl ?_
  refine lv_icmp_ne (tgt := 69) hx hb dX12_keyAt_60 (by decide) (fun hc60 => ?_) (fun hc60 => ?_)
  · rw [if_neg hc60] at h
    obtain ⟨_, hw0, ew0⟩ := Option.map_eq_some_iff.mp h
    rw [← ew0] at hK
    have h := hw0
    exact F_X12_keyAt_69_ok X hr hlk v0 v1 v2 v3 hW4 t11.2 _ h hK H locs ls O (lv_sub hl [0, 1, 2, 3] rfl)
  rw [if_pos hc60] at h
  refine lv_iinc (v := (v3 + 1)) (lv' := [(3, .int (v3 + 1)), (0, .ref (κ.1 + v0)), (1, .int v1), (2, .int v2)]) hx hb dX12_keyAt_63 hl (k := 3) rfl rfl (by decide) rfl (fun ls hl => ?_)
  refine lv_goto (tgt := 15) hx hb dX12_keyAt_66 (by decide) ?_
  rw [← Option.some.inj h] at hK
  exact hW15 (v3 + 1) t11.2 hK H locs ls O (lv_sub hl [1, 2, 3, 0] rfl)
set_option maxRecDepth 100000 in
set_option maxHeartbeats 4000000 in
theorem F_X12_keyAt_15_ok (X : xX p s m args c cX12_keyAt 4 RX12 κ) (hr : meth.sig.returnType = (some .int)) (hlk : meth.locks = false) {ro : Int32} {mo : xM} (v0 : Nat) (v1 : Int32) (v2 : Int32) (v3 : Int32) {W4 : Int32 × Int32 × xM → Prop} (hW4 : ∀ (v1 : Int32) (v2 : Int32) (M : xM), W4 (v1, v2, M) → ∀ (H : Heap) (locs : List Loc) (ls : Array Slot), xO κ s M H locs → lv_has ls 4 [(0, .ref (κ.1 + v0)), (1, .int v1), (2, .int v2)] → W p l e (xRm 6 0 0) s m args below meth c H locs 0 0 (xQf below args s 0 0 κ (some (.int ro)) mo) (F0 m 4 ls [])) (M : xM) (x : (Int32 × Int32 × xM) ⊕ (Int32 × xM)) (h : F_X12_keyAt_15 v0 v1 v2 v3 M = some x) (hK : (xKl W4 (fun o => o = (ro, mo))) x) (H : Heap) (locs : List Loc) (ls : Array Slot) (O : xO κ s M H locs) (hl : lv_has ls 4 [(0, .ref (κ.1 + v0)), (1, .int v1), (2, .int v2), (3, .int v3)]) : W p l e (xRm 6 0 0) s m args below meth c H locs 0 0 (xQf below args s 0 0 κ (some (.int ro)) mo) (F0 m 15 ls []) := by
  refine xit_K (Wh := fun x => ∀ (H : Heap) (locs : List Loc) (ls : Array Slot), xO κ s x.2 H locs → lv_has ls 4 [(0, .ref (κ.1 + v0)), (1, .int v1), (2, .int v2), (3, .int x.1)] → W p l e (xRm 6 0 0) s m args below meth c H locs 0 0 (xQf below args s 0 0 κ (some (.int ro)) mo) (F0 m 15 ls [])) (Kp := (xKl W4 (fun o => o = (ro, mo)))) ?_ xFU (v3, M) x h hK H locs ls O hl
  intro y x h hK H locs ls O hl
  exact F_X12_keyAt_15_bok X hr hlk v0 v1 v2 y.1 hW4 (fun _ _ hw => hw) y.2 x h hK H locs ls O hl
set_option maxRecDepth 100000 in
set_option maxHeartbeats 4000000 in
theorem F_X12_keyAt_123_ok (X : xX p s m args c cX12_keyAt 4 RX12 κ) (hr : meth.sig.returnType = (some .int)) (hlk : meth.locks = false) {ro : Int32} {mo : xM} (M : xM) (x : Int32 × xM) (h : F_X12_keyAt_123 M = some x) (hK : (fun o => o = (ro, mo)) x) (H : Heap) (locs : List Loc) (ls : Array Slot) (O : xO κ s M H locs) (hl : lv_has ls 4 []) : W p l e (xRm 6 0 0) s m args below meth c H locs 0 0 (xQf below args s 0 0 κ (some (.int ro)) mo) (F0 m 123 ls []) := by
  unfold F_X12_keyAt_123 at h
  have hx := X.1
  have hb := X.2.1
  refine lv_bipush (v := (28 : Int32)) hx hb dX12_keyAt_123 (by decide) ?_
  rw [← Option.some.inj h] at hK
  have hK : ((28 : Int32), M) = (ro, mo) := hK
  obtain ⟨hK1, hK2⟩ := Prod.mk.inj hK
  rw [hK2] at O
  refine xr_top (w := .int ro) (by rw [hK1]) ?_
  exact xr_iret X hr hlk O dX12_keyAt_125
set_option maxRecDepth 100000 in
set_option maxHeartbeats 4000000 in
theorem F_X12_keyAt_4_bok (X : xX p s m args c cX12_keyAt 4 RX12 κ) (hr : meth.sig.returnType = (some .int)) (hlk : meth.locks = false) {ro : Int32} {mo : xM} (v0 : Nat) (v1 : Int32) (v2 : Int32) {W4 : Int32 × Int32 × xM → Prop} (hW4 : ∀ (v1 : Int32) (v2 : Int32) (M : xM), W4 (v1, v2, M) → ∀ (H : Heap) (locs : List Loc) (ls : Array Slot), xO κ s M H locs → lv_has ls 4 [(0, .ref (κ.1 + v0)), (1, .int v1), (2, .int v2)] → W p l e (xRm 6 0 0) s m args below meth c H locs 0 0 (xQf below args s 0 0 κ (some (.int ro)) mo) (F0 m 4 ls [])) (M : xM) (x : (Int32 × Int32 × xM) ⊕ (Int32 × xM)) (h : F_X12_keyAt_4b v0 (v1, v2, M) = some x) (hK : (xKl W4 (fun o => o = (ro, mo))) x) (H : Heap) (locs : List Loc) (ls : Array Slot) (O : xO κ s M H locs) (hl : lv_has ls 4 [(0, .ref (κ.1 + v0)), (1, .int v1), (2, .int v2)]) : W p l e (xRm 6 0 0) s m args below meth c H locs 0 0 (xQf below args s 0 0 κ (some (.int ro)) mo) (F0 m 4 ls []) := by
  unfold F_X12_keyAt_4b at h
  dsimp only at h
  have hx := X.1
  have hb := X.2.1
  refine lv_iload_n hx hb dX12_keyAt_4 rfl (lv_at hl 2 rfl) ?_
  refine va_ldcS hx hb X.2.2.2.1 (X.2.2.2.2.2.2.1 28 _ rfl).1 dX12_keyAt_5 ?_
  obtain ⟨_, hut1, h⟩ := Option.bind_eq_some_iff.mp h
  obtain ⟨t2, ht2, h⟩ := Option.bind_eq_some_iff.mp h
  refine xr_callT (i := 28) (rest := [.int v2]) X O (T_J0_length_8abf5 l κ 28 M _ _ ht2) lk_X12_91 hut1 (Nat.le_of_ble_eq_true rfl) rfl hl.1 rfl (Nat.le_of_ble_eq_true rfl) dX12_keyAt_7 ⟨Nat.le_of_ble_eq_true rfl, Nat.le_of_ble_eq_true rfl⟩ (fun H locs O => ?_)
  refine W.eq (g2 := F0 m 10 ls [.int t2.1, .int v2]) rfl ?_
  refine lv_icmp_ge (tgt := 123) hx hb dX12_keyAt_10 (by decide) (fun hc10 => ?_) (fun hc10 => ?_)
  · rw [if_pos hc10] at h
    obtain ⟨_, hw0, ew0⟩ := Option.map_eq_some_iff.mp h
    rw [← ew0] at hK
    have h := hw0
    exact F_X12_keyAt_123_ok X hr hlk  t2.2 _ h hK H locs ls O (lv_sub hl [] rfl)
  rw [if_neg hc10] at h
  refine lv_iconst (v := (0 : Int32)) hx hb dX12_keyAt_13 (by decide) ?_
  refine lv_istore_n (lv' := [(3, .int (0 : Int32)), (0, .ref (κ.1 + v0)), (1, .int v1), (2, .int v2)]) hx hb dX12_keyAt_14 rfl hl (by decide) rfl (fun ls hl => ?_)
  exact F_X12_keyAt_15_ok X hr hlk v0 v1 v2 (0 : Int32) hW4 t2.2 _ h hK H locs ls O (lv_sub hl [1, 2, 3, 0] rfl)
set_option maxRecDepth 100000 in
set_option maxHeartbeats 4000000 in
theorem F_X12_keyAt_4_ok (X : xX p s m args c cX12_keyAt 4 RX12 κ) (hr : meth.sig.returnType = (some .int)) (hlk : meth.locks = false) {ro : Int32} {mo : xM} (v0 : Nat) (v1 : Int32) (v2 : Int32) (M : xM) (x : Int32 × xM) (h : F_X12_keyAt_4 v0 v1 v2 M = some x) (hK : (fun o => o = (ro, mo)) x) (H : Heap) (locs : List Loc) (ls : Array Slot) (O : xO κ s M H locs) (hl : lv_has ls 4 [(0, .ref (κ.1 + v0)), (1, .int v1), (2, .int v2)]) : W p l e (xRm 6 0 0) s m args below meth c H locs 0 0 (xQf below args s 0 0 κ (some (.int ro)) mo) (F0 m 4 ls []) := by
  refine xit_K (Wh := fun x => ∀ (H : Heap) (locs : List Loc) (ls : Array Slot), xO κ s x.2.2 H locs → lv_has ls 4 [(0, .ref (κ.1 + v0)), (1, .int x.1), (2, .int x.2.1)] → W p l e (xRm 6 0 0) s m args below meth c H locs 0 0 (xQf below args s 0 0 κ (some (.int ro)) mo) (F0 m 4 ls [])) (Kp := (fun o => o = (ro, mo))) ?_ xFU (v1, v2, M) x h hK H locs ls O hl
  intro y x h hK H locs ls O hl
  exact F_X12_keyAt_4_bok X hr hlk v0 y.1 y.2.1 (fun _ _ _ hw => hw) y.2.2 x h hK H locs ls O hl
set_option maxRecDepth 100000 in
set_option maxHeartbeats 4000000 in
theorem T_X12_keyAt (l : Launch) (κ : xQ) (a0 : Nat) (M : xM) (ro : Int32) (mo : xM) (h : F_X12_keyAt a0 M = some (ro, mo)) : xC l yX12_keyAt cX12_keyAt 4 (some .int) 6 0 0 κ [.ref (κ.1 + a0)] M (some (.int ro)) mo := by
  refine xC_of rfl (Nat.le_of_ble_eq_true rfl) fun p e s m args below meth c X hr hlk hnm H locs ls O hl => ?_
  have X : xX p s m args c cX12_keyAt 4 RX12 κ := X
  have hl : lv_has ls 4 [(0, .ref (κ.1 + a0))] := hl
  have hx := X.1
  have hb := X.2.1
  obtain ⟨x, hx0⟩ : ∃ x, (ro, mo) = x := ⟨_, rfl⟩
  rw [hx0] at h
  have hK : x = (ro, mo) := hx0.symm
  unfold F_X12_keyAt at h
  refine lv_iconst (v := (0 : Int32)) hx hb dX12_keyAt_0 (by decide) ?_
  refine lv_istore_n (lv' := [(1, .int (0 : Int32)), (0, .ref (κ.1 + a0))]) hx hb dX12_keyAt_1 rfl hl (by decide) rfl (fun ls hl => ?_)
  refine lv_iconst (v := (1 : Int32)) hx hb dX12_keyAt_2 (by decide) ?_
  refine lv_istore_n (lv' := [(2, .int (1 : Int32)), (1, .int (0 : Int32)), (0, .ref (κ.1 + a0))]) hx hb dX12_keyAt_3 rfl hl (by decide) rfl (fun ls hl => ?_)
  exact F_X12_keyAt_4_ok X hr hlk a0 (0 : Int32) (1 : Int32) M _ h hK H locs ls O (lv_sub hl [2, 1, 0] rfl)
def F_X12_next_34 (v0 : Nat) (M : xM) : Option ((xM) ⊕ (xM)) :=
(xgI M v0 12 6).bind fun t9 =>
(xpI M v0 12 6 (t9 + (1 : Int32))).bind fun t10 =>
some (.inl t10)
def F_X12_next_294 (M : xM) : Option (xM) :=
some M
def F_X12_next_116 (v0 : Nat) (M : xM) : Option (xM) :=
(xck M v0 12).bind fun _ =>
(F_X12_keyAt v0 M).bind fun t51 =>
(xpI t51.2 v0 12 9 t51.1).bind fun t52 =>
F_X12_next_294 t52
def F_X12_next_89b (v0 : Nat) : (xM) → Option ((xM) ⊕ (xM)) := fun M =>
(xgI M v0 12 7).bind fun t44 =>
(xck M v0 12).bind fun _ =>
(F_X12_see v0 t44 M).bind fun t46 =>
(F_X12_isSmall t46.1 t46.2).bind fun t47 =>
if t47.1 = 0 then (
(F_X12_next_116 v0 t47.2).map Sum.inr)
else (
(xgI t47.2 v0 12 7).bind fun t48 =>
(xpI t47.2 v0 12 7 (t48 + (1 : Int32))).bind fun t49 =>
some (.inl t49))
def F_X12_next_89 (v0 : Nat) (M : xM) : Option (xM) := xit (F_X12_next_89b v0) xFU M
def F_X12_next_196 (v0 : Nat) (M : xM) : Option ((xM) ⊕ (xM)) :=
(xgI M v0 12 7).bind fun t39 =>
(xpI M v0 12 7 (t39 + (1 : Int32))).bind fun t40 =>
some (.inl t40)
def F_X12_next_230 (s0 : Int32) (s1 : Nat) (M : xM) : Option (xM) :=
(xpI M s1 12 9 s0).bind fun t43 =>
F_X12_next_294 t43
def F_X12_next_209 (v0 : Nat) (M : xM) : Option (xM) :=
(xgI M v0 12 7).bind fun t41 =>
(xgI M v0 12 6).bind fun t42 =>
if (t41 - t42) ≤ (3 : Int32) then (
F_X12_next_230 (29 : Int32) v0 M)
else (
F_X12_next_230 (31 : Int32) v0 M)
def F_X12_next_146b (v0 : Nat) : (xM) → Option ((xM) ⊕ (xM)) := fun M =>
(xgI M v0 12 7).bind fun t28 =>
(xck M v0 12).bind fun _ =>
(F_X12_see v0 t28 M).bind fun t30 =>
(F_X12_isDigit t30.1 t30.2).bind fun t31 =>
if t31.1 = 0 then (
(F_X12_next_209 v0 t31.2).map Sum.inr)
else (
(xgI t31.2 v0 12 7).bind fun t32 =>
(xgI t31.2 v0 12 6).bind fun t33 =>
if (3 : Int32) ≤ (t32 - t33) then (
F_X12_next_196 v0 t31.2)
else (
(xgI t31.2 v0 12 10).bind fun t34 =>
(xgI t31.2 v0 12 7).bind fun t35 =>
(xck t31.2 v0 12).bind fun _ =>
(F_X12_see v0 t35 t31.2).bind fun t37 =>
(xpI t37.2 v0 12 10 ((((10 : Int32) * t34) + t37.1) - (48 : Int32))).bind fun t38 =>
F_X12_next_196 v0 t38))
def F_X12_next_146 (v0 : Nat) (M : xM) : Option (xM) := xit (F_X12_next_146b v0) xFU M
def F_X12_next_288 (v0 : Nat) (v1 : Int32) (M : xM) : Option ((Int32 × xM) ⊕ (xM)) :=
some (.inl ((v1 + 1), M))
def F_X12_next_254b (v0 : Nat) : (Int32 × xM) → Option ((Int32 × xM) ⊕ (xM)) := fun ⟨v1, M⟩ =>
(xso 29).bind fun _ =>
(F_J0_length_8abf5 29 M).bind fun t54 =>
if t54.1 ≤ v1 then (
(F_X12_next_294 t54.2).map Sum.inr)
else (
(xgI t54.2 v0 12 6).bind fun t55 =>
(xck t54.2 v0 12).bind fun _ =>
(F_X12_see v0 t55 t54.2).bind fun t57 =>
(xso 29).bind fun _ =>
(F_J0_charAt_5068e 29 v1 t57.2).bind fun t59 =>
if t57.1 = t59.1 then (
(xpI t59.2 v0 12 9 ((32 : Int32) + v1)).bind fun t60 =>
F_X12_next_288 v0 v1 t60)
else (
F_X12_next_288 v0 v1 t59.2))
def F_X12_next_254 (v0 : Nat) (v1 : Int32) (M : xM) : Option (xM) := xit (F_X12_next_254b v0) xFU (v1, M)
def F_X12_next_47 (v0 : Nat) (M : xM) : Option (xM) :=
(xgI M v0 12 6).bind fun t11 =>
(xpI M v0 12 7 t11).bind fun t12 =>
(xgI t12 v0 12 6).bind fun t13 =>
(xgI t12 v0 12 8).bind fun t14 =>
if t13 < t14 then (
(xgI t12 v0 12 6).bind fun t15 =>
(xck t12 v0 12).bind fun _ =>
(F_X12_see v0 t15 t12).bind fun t17 =>
(F_X12_isSmall t17.1 t17.2).bind fun t18 =>
if t18.1 = 0 then (
(xgI t18.2 v0 12 6).bind fun t19 =>
(xck t18.2 v0 12).bind fun _ =>
(F_X12_see v0 t19 t18.2).bind fun t21 =>
(F_X12_isDigit t21.1 t21.2).bind fun t22 =>
if t22.1 = 0 then (
(xgI t22.2 v0 12 7).bind fun t23 =>
(xpI t22.2 v0 12 7 (t23 + (1 : Int32))).bind fun t24 =>
(xpI t24 v0 12 9 (31 : Int32)).bind fun t25 =>
F_X12_next_254 v0 (0 : Int32) t25)
else (
(xpI t22.2 v0 12 10 (0 : Int32)).bind fun t26 =>
F_X12_next_146 v0 t26))
else (
F_X12_next_89 v0 t18.2))
else (
(xpI t12 v0 12 9 (30 : Int32)).bind fun t27 =>
F_X12_next_294 t27)
def F_X12_next_8b (v0 : Nat) : (xM) → Option ((xM) ⊕ (xM)) := fun M =>
(xgI M v0 12 6).bind fun t3 =>
(xck M v0 12).bind fun _ =>
(F_X12_see v0 t3 M).bind fun t5 =>
if t5.1 = (10 : Int32) then (
F_X12_next_34 v0 t5.2)
else (
(xgI t5.2 v0 12 6).bind fun t6 =>
(xck t5.2 v0 12).bind fun _ =>
(F_X12_see v0 t6 t5.2).bind fun t8 =>
if t8.1 = (32 : Int32) then (
F_X12_next_34 v0 t8.2)
else (
(F_X12_next_47 v0 t8.2).map Sum.inr))
def F_X12_next_8 (v0 : Nat) (M : xM) : Option (xM) := xit (F_X12_next_8b v0) xFU M
def F_X12_next (a0 : Nat) (M : xM) : Option (xM) :=
(xgI M a0 12 7).bind fun t1 =>
(xpI M a0 12 6 t1).bind fun t2 =>
F_X12_next_8 a0 t2
set_option maxRecDepth 100000 in
set_option maxHeartbeats 4000000 in
theorem F_X12_next_34_ok (X : xX p s m args c cX12_next 2 RX12 κ) (hr : meth.sig.returnType = none) (hlk : meth.locks = false) {mo : xM} (v0 : Nat) {W8 : xM → Prop} (hW8 : ∀ (M : xM), W8 M → ∀ (H : Heap) (locs : List Loc) (ls : Array Slot), xO κ s M H locs → lv_has ls 2 [(0, .ref (κ.1 + v0))] → W p l e (xRm 7 0 0) s m args below meth c H locs 0 0 (xQf below args s 0 0 κ none mo) (F0 m 8 ls [])) (M : xM) (x : (xM) ⊕ (xM)) (h : F_X12_next_34 v0 M = some x) (hK : (xKl W8 (fun o => o = mo)) x) (H : Heap) (locs : List Loc) (ls : Array Slot) (O : xO κ s M H locs) (hl : lv_has ls 2 [(0, .ref (κ.1 + v0))]) : W p l e (xRm 7 0 0) s m args below meth c H locs 0 0 (xQf below args s 0 0 κ none mo) (F0 m 34 ls []) := by
  unfold F_X12_next_34 at h
  have hx := X.1
  have hb := X.2.1
  refine lv_aload_n hx hb dX12_next_34 rfl (lv_at hl 0 rfl) ?_
  refine lv_dup hx hb dX12_next_35 rfl ?_
  obtain ⟨t9, ht9, h⟩ := Option.bind_eq_some_iff.mp h
  refine xr_getI X O ht9 fl_X12_101 (Or.inl rfl) dX12_next_36 ?_
  refine lv_iconst (v := (1 : Int32)) hx hb dX12_next_39 (by decide) ?_
  refine lv_iadd hx hb dX12_next_40 ?_
  obtain ⟨t10, ht10, h⟩ := Option.bind_eq_some_iff.mp h
  refine xr_putI X O ht10 fl_X12_101 dX12_next_41 (fun H locs O => ?_)
  refine lv_goto (tgt := 8) hx hb dX12_next_44 (by decide) ?_
  rw [← Option.some.inj h] at hK
  exact hW8 t10 hK H locs ls O (lv_sub hl [0] rfl)
set_option maxRecDepth 100000 in
set_option maxHeartbeats 4000000 in
theorem F_X12_next_294_ok (X : xX p s m args c cX12_next 2 RX12 κ) (hr : meth.sig.returnType = none) (hlk : meth.locks = false) {mo : xM} (M : xM) (x : xM) (h : F_X12_next_294 M = some x) (hK : (fun o => o = mo) x) (H : Heap) (locs : List Loc) (ls : Array Slot) (O : xO κ s M H locs) (hl : lv_has ls 2 []) : W p l e (xRm 7 0 0) s m args below meth c H locs 0 0 (xQf below args s 0 0 κ none mo) (F0 m 294 ls []) := by
  unfold F_X12_next_294 at h
  have hx := X.1
  have hb := X.2.1
  rw [← Option.some.inj h] at hK
  have hK : M = mo := hK
  rw [hK] at O
  exact xr_vret X hr hlk O dX12_next_294
set_option maxRecDepth 100000 in
set_option maxHeartbeats 4000000 in
theorem F_X12_next_116_ok (X : xX p s m args c cX12_next 2 RX12 κ) (hr : meth.sig.returnType = none) (hlk : meth.locks = false) {mo : xM} (v0 : Nat) (M : xM) (x : xM) (h : F_X12_next_116 v0 M = some x) (hK : (fun o => o = mo) x) (H : Heap) (locs : List Loc) (ls : Array Slot) (O : xO κ s M H locs) (hl : lv_has ls 2 [(0, .ref (κ.1 + v0))]) : W p l e (xRm 7 0 0) s m args below meth c H locs 0 0 (xQf below args s 0 0 κ none mo) (F0 m 116 ls []) := by
  unfold F_X12_next_116 at h
  have hx := X.1
  have hb := X.2.1
  refine lv_aload_n hx hb dX12_next_116 rfl (lv_at hl 0 rfl) ?_
  refine lv_aload_n hx hb dX12_next_117 rfl (lv_at hl 0 rfl) ?_
  obtain ⟨_, hut50, h⟩ := Option.bind_eq_some_iff.mp h
  obtain ⟨t51, ht51, h⟩ := Option.bind_eq_some_iff.mp h
  refine xr_callV (rest := [.ref (κ.1 + v0)]) X O (T_X12_keyAt l κ v0 M _ _ ht51) lk_X12_118 hut50 (Nat.le_of_ble_eq_true rfl) rfl hl.1 rfl (Nat.le_of_ble_eq_true rfl) dX12_next_118 ⟨Nat.le_of_ble_eq_true rfl, Nat.le_of_ble_eq_true rfl⟩ (fun H locs O => ?_)
  refine W.eq (g2 := F0 m 121 ls [.int t51.1, .ref (κ.1 + v0)]) rfl ?_
  obtain ⟨t52, ht52, h⟩ := Option.bind_eq_some_iff.mp h
  refine xr_putI X O ht52 fl_X12_111 dX12_next_121 (fun H locs O => ?_)
  refine lv_goto (tgt := 294) hx hb dX12_next_124 (by decide) ?_
  exact F_X12_next_294_ok X hr hlk  t52 _ h hK H locs ls O (lv_sub hl [] rfl)
set_option maxRecDepth 100000 in
set_option maxHeartbeats 4000000 in
theorem F_X12_next_89_bok (X : xX p s m args c cX12_next 2 RX12 κ) (hr : meth.sig.returnType = none) (hlk : meth.locks = false) {mo : xM} (v0 : Nat) {W89 : xM → Prop} (hW89 : ∀ (M : xM), W89 M → ∀ (H : Heap) (locs : List Loc) (ls : Array Slot), xO κ s M H locs → lv_has ls 2 [(0, .ref (κ.1 + v0))] → W p l e (xRm 7 0 0) s m args below meth c H locs 0 0 (xQf below args s 0 0 κ none mo) (F0 m 89 ls [])) (M : xM) (x : (xM) ⊕ (xM)) (h : F_X12_next_89b v0 M = some x) (hK : (xKl W89 (fun o => o = mo)) x) (H : Heap) (locs : List Loc) (ls : Array Slot) (O : xO κ s M H locs) (hl : lv_has ls 2 [(0, .ref (κ.1 + v0))]) : W p l e (xRm 7 0 0) s m args below meth c H locs 0 0 (xQf below args s 0 0 κ none mo) (F0 m 89 ls []) := by
  unfold F_X12_next_89b at h
  have hx := X.1
  have hb := X.2.1
  refine lv_aload_n hx hb dX12_next_89 rfl (lv_at hl 0 rfl) ?_
  refine lv_aload_n hx hb dX12_next_90 rfl (lv_at hl 0 rfl) ?_
  obtain ⟨t44, ht44, h⟩ := Option.bind_eq_some_iff.mp h
  refine xr_getI X O ht44 fl_X12_104 (Or.inl rfl) dX12_next_91 ?_
  obtain ⟨_, hut45, h⟩ := Option.bind_eq_some_iff.mp h
  obtain ⟨t46, ht46, h⟩ := Option.bind_eq_some_iff.mp h
  refine xr_callV (rest := []) X O (T_X12_see l κ v0 t44 M _ _ ht46) lk_X12_107 hut45 (Nat.le_of_ble_eq_true rfl) rfl hl.1 rfl (Nat.le_of_ble_eq_true rfl) dX12_next_94 ⟨Nat.le_of_ble_eq_true rfl, Nat.le_of_ble_eq_true rfl⟩ (fun H locs O => ?_)
  refine W.eq (g2 := F0 m 97 ls [.int t46.1]) rfl ?_
  obtain ⟨t47, ht47, h⟩ := Option.bind_eq_some_iff.mp h
  refine xr_callS (rest := []) X O (T_X12_isSmall l κ t46.1 t46.2 _ _ ht47) lk_X12_114 (Nat.le_of_ble_eq_true rfl) rfl hl.1 rfl (Nat.le_of_ble_eq_true rfl) dX12_next_97 ⟨Nat.le_of_ble_eq_true rfl, Nat.le_of_ble_eq_true rfl⟩ (fun H locs O => ?_)
  refine W.eq (g2 := F0 m 100 ls [.int t47.1]) rfl ?_
  refine lv_if_eq (tgt := 116) hx hb dX12_next_100 (by decide) (fun hc100 => ?_) (fun hc100 => ?_)
  · rw [if_pos hc100] at h
    obtain ⟨_, hw0, ew0⟩ := Option.map_eq_some_iff.mp h
    rw [← ew0] at hK
    have h := hw0
    exact F_X12_next_116_ok X hr hlk v0 t47.2 _ h hK H locs ls O (lv_sub hl [0] rfl)
  rw [if_neg hc100] at h
  refine lv_aload_n hx hb dX12_next_103 rfl (lv_at hl 0 rfl) ?_
  refine lv_dup hx hb dX12_next_104 rfl ?_
  obtain ⟨t48, ht48, h⟩ := Option.bind_eq_some_iff.mp h
  refine xr_getI X O ht48 fl_X12_104 (Or.inl rfl) dX12_next_105 ?_
  refine lv_iconst (v := (1 : Int32)) hx hb dX12_next_108 (by decide) ?_
  refine lv_iadd hx hb dX12_next_109 ?_
  obtain ⟨t49, ht49, h⟩ := Option.bind_eq_some_iff.mp h
  refine xr_putI X O ht49 fl_X12_104 dX12_next_110 (fun H locs O => ?_)
  refine lv_goto (tgt := 89) hx hb dX12_next_113 (by decide) ?_
  rw [← Option.some.inj h] at hK
  exact hW89 t49 hK H locs ls O (lv_sub hl [0] rfl)
set_option maxRecDepth 100000 in
set_option maxHeartbeats 4000000 in
theorem F_X12_next_89_ok (X : xX p s m args c cX12_next 2 RX12 κ) (hr : meth.sig.returnType = none) (hlk : meth.locks = false) {mo : xM} (v0 : Nat) (M : xM) (x : xM) (h : F_X12_next_89 v0 M = some x) (hK : (fun o => o = mo) x) (H : Heap) (locs : List Loc) (ls : Array Slot) (O : xO κ s M H locs) (hl : lv_has ls 2 [(0, .ref (κ.1 + v0))]) : W p l e (xRm 7 0 0) s m args below meth c H locs 0 0 (xQf below args s 0 0 κ none mo) (F0 m 89 ls []) := by
  refine xit_K (Wh := fun x => ∀ (H : Heap) (locs : List Loc) (ls : Array Slot), xO κ s x H locs → lv_has ls 2 [(0, .ref (κ.1 + v0))] → W p l e (xRm 7 0 0) s m args below meth c H locs 0 0 (xQf below args s 0 0 κ none mo) (F0 m 89 ls [])) (Kp := (fun o => o = mo)) ?_ xFU M x h hK H locs ls O hl
  intro y x h hK H locs ls O hl
  exact F_X12_next_89_bok X hr hlk v0 (fun  _ hw => hw) y x h hK H locs ls O hl
set_option maxRecDepth 100000 in
set_option maxHeartbeats 4000000 in
theorem F_X12_next_196_ok (X : xX p s m args c cX12_next 2 RX12 κ) (hr : meth.sig.returnType = none) (hlk : meth.locks = false) {mo : xM} (v0 : Nat) {W146 : xM → Prop} (hW146 : ∀ (M : xM), W146 M → ∀ (H : Heap) (locs : List Loc) (ls : Array Slot), xO κ s M H locs → lv_has ls 2 [(0, .ref (κ.1 + v0))] → W p l e (xRm 7 0 0) s m args below meth c H locs 0 0 (xQf below args s 0 0 κ none mo) (F0 m 146 ls [])) (M : xM) (x : (xM) ⊕ (xM)) (h : F_X12_next_196 v0 M = some x) (hK : (xKl W146 (fun o => o = mo)) x) (H : Heap) (locs : List Loc) (ls : Array Slot) (O : xO κ s M H locs) (hl : lv_has ls 2 [(0, .ref (κ.1 + v0))]) : W p l e (xRm 7 0 0) s m args below meth c H locs 0 0 (xQf below args s 0 0 κ none mo) (F0 m 196 ls []) := by
  unfold F_X12_next_196 at h
  have hx := X.1
  have hb := X.2.1
  refine lv_aload_n hx hb dX12_next_196 rfl (lv_at hl 0 rfl) ?_
  refine lv_dup hx hb dX12_next_197 rfl ?_
  obtain ⟨t39, ht39, h⟩ := Option.bind_eq_some_iff.mp h
  refine xr_getI X O ht39 fl_X12_104 (Or.inl rfl) dX12_next_198 ?_
  refine lv_iconst (v := (1 : Int32)) hx hb dX12_next_201 (by decide) ?_
  refine lv_iadd hx hb dX12_next_202 ?_
  obtain ⟨t40, ht40, h⟩ := Option.bind_eq_some_iff.mp h
  refine xr_putI X O ht40 fl_X12_104 dX12_next_203 (fun H locs O => ?_)
  refine lv_goto (tgt := 146) hx hb dX12_next_206 (by decide) ?_
  rw [← Option.some.inj h] at hK
  exact hW146 t40 hK H locs ls O (lv_sub hl [0] rfl)
set_option maxRecDepth 100000 in
set_option maxHeartbeats 4000000 in
theorem F_X12_next_230_ok (X : xX p s m args c cX12_next 2 RX12 κ) (hr : meth.sig.returnType = none) (hlk : meth.locks = false) {mo : xM} (s0 : Int32) (s1 : Nat) (M : xM) (x : xM) (h : F_X12_next_230 s0 s1 M = some x) (hK : (fun o => o = mo) x) (H : Heap) (locs : List Loc) (ls : Array Slot) (O : xO κ s M H locs) (hl : lv_has ls 2 []) : W p l e (xRm 7 0 0) s m args below meth c H locs 0 0 (xQf below args s 0 0 κ none mo) (F0 m 230 ls [.int s0, .ref (κ.1 + s1)]) := by
  unfold F_X12_next_230 at h
  have hx := X.1
  have hb := X.2.1
  obtain ⟨t43, ht43, h⟩ := Option.bind_eq_some_iff.mp h
  refine xr_putI X O ht43 fl_X12_111 dX12_next_230 (fun H locs O => ?_)
  refine lv_goto (tgt := 294) hx hb dX12_next_233 (by decide) ?_
  exact F_X12_next_294_ok X hr hlk  t43 _ h hK H locs ls O (lv_sub hl [] rfl)
set_option maxRecDepth 100000 in
set_option maxHeartbeats 4000000 in
theorem F_X12_next_209_ok (X : xX p s m args c cX12_next 2 RX12 κ) (hr : meth.sig.returnType = none) (hlk : meth.locks = false) {mo : xM} (v0 : Nat) (M : xM) (x : xM) (h : F_X12_next_209 v0 M = some x) (hK : (fun o => o = mo) x) (H : Heap) (locs : List Loc) (ls : Array Slot) (O : xO κ s M H locs) (hl : lv_has ls 2 [(0, .ref (κ.1 + v0))]) : W p l e (xRm 7 0 0) s m args below meth c H locs 0 0 (xQf below args s 0 0 κ none mo) (F0 m 209 ls []) := by
  unfold F_X12_next_209 at h
  have hx := X.1
  have hb := X.2.1
  refine lv_aload_n hx hb dX12_next_209 rfl (lv_at hl 0 rfl) ?_
  refine lv_aload_n hx hb dX12_next_210 rfl (lv_at hl 0 rfl) ?_
  obtain ⟨t41, ht41, h⟩ := Option.bind_eq_some_iff.mp h
  refine xr_getI X O ht41 fl_X12_104 (Or.inl rfl) dX12_next_211 ?_
  refine lv_aload_n hx hb dX12_next_214 rfl (lv_at hl 0 rfl) ?_
  obtain ⟨t42, ht42, h⟩ := Option.bind_eq_some_iff.mp h
  refine xr_getI X O ht42 fl_X12_101 (Or.inl rfl) dX12_next_215 ?_
  refine lv_isub hx hb dX12_next_218 ?_
  refine lv_iconst (v := (3 : Int32)) hx hb dX12_next_219 (by decide) ?_
  refine lv_icmp_le (tgt := 228) hx hb dX12_next_220 (by decide) (fun hc220 => ?_) (fun hc220 => ?_)
  · rw [if_pos hc220] at h
    refine lv_bipush (v := (29 : Int32)) hx hb dX12_next_228 (by decide) ?_
    exact F_X12_next_230_ok X hr hlk (29 : Int32) v0 M _ h hK H locs ls O (lv_sub hl [] rfl)
  rw [if_neg hc220] at h
  refine lv_bipush (v := (31 : Int32)) hx hb dX12_next_223 (by decide) ?_
  refine lv_goto (tgt := 230) hx hb dX12_next_225 (by decide) ?_
  exact F_X12_next_230_ok X hr hlk (31 : Int32) v0 M _ h hK H locs ls O (lv_sub hl [] rfl)
set_option maxRecDepth 100000 in
set_option maxHeartbeats 4000000 in
theorem F_X12_next_146_bok (X : xX p s m args c cX12_next 2 RX12 κ) (hr : meth.sig.returnType = none) (hlk : meth.locks = false) {mo : xM} (v0 : Nat) {W146 : xM → Prop} (hW146 : ∀ (M : xM), W146 M → ∀ (H : Heap) (locs : List Loc) (ls : Array Slot), xO κ s M H locs → lv_has ls 2 [(0, .ref (κ.1 + v0))] → W p l e (xRm 7 0 0) s m args below meth c H locs 0 0 (xQf below args s 0 0 κ none mo) (F0 m 146 ls [])) (M : xM) (x : (xM) ⊕ (xM)) (h : F_X12_next_146b v0 M = some x) (hK : (xKl W146 (fun o => o = mo)) x) (H : Heap) (locs : List Loc) (ls : Array Slot) (O : xO κ s M H locs) (hl : lv_has ls 2 [(0, .ref (κ.1 + v0))]) : W p l e (xRm 7 0 0) s m args below meth c H locs 0 0 (xQf below args s 0 0 κ none mo) (F0 m 146 ls []) := by
  unfold F_X12_next_146b at h
  have hx := X.1
  have hb := X.2.1
  refine lv_aload_n hx hb dX12_next_146 rfl (lv_at hl 0 rfl) ?_
  refine lv_aload_n hx hb dX12_next_147 rfl (lv_at hl 0 rfl) ?_
  obtain ⟨t28, ht28, h⟩ := Option.bind_eq_some_iff.mp h
  refine xr_getI X O ht28 fl_X12_104 (Or.inl rfl) dX12_next_148 ?_
  obtain ⟨_, hut29, h⟩ := Option.bind_eq_some_iff.mp h
  obtain ⟨t30, ht30, h⟩ := Option.bind_eq_some_iff.mp h
  refine xr_callV (rest := []) X O (T_X12_see l κ v0 t28 M _ _ ht30) lk_X12_107 hut29 (Nat.le_of_ble_eq_true rfl) rfl hl.1 rfl (Nat.le_of_ble_eq_true rfl) dX12_next_151 ⟨Nat.le_of_ble_eq_true rfl, Nat.le_of_ble_eq_true rfl⟩ (fun H locs O => ?_)
  refine W.eq (g2 := F0 m 154 ls [.int t30.1]) rfl ?_
  obtain ⟨t31, ht31, h⟩ := Option.bind_eq_some_iff.mp h
  refine xr_callS (rest := []) X O (T_X12_isDigit l κ t30.1 t30.2 _ _ ht31) lk_X12_121 (Nat.le_of_ble_eq_true rfl) rfl hl.1 rfl (Nat.le_of_ble_eq_true rfl) dX12_next_154 ⟨Nat.le_of_ble_eq_true rfl, Nat.le_of_ble_eq_true rfl⟩ (fun H locs O => ?_)
  refine W.eq (g2 := F0 m 157 ls [.int t31.1]) rfl ?_
  refine lv_if_eq (tgt := 209) hx hb dX12_next_157 (by decide) (fun hc157 => ?_) (fun hc157 => ?_)
  · rw [if_pos hc157] at h
    obtain ⟨_, hw0, ew0⟩ := Option.map_eq_some_iff.mp h
    rw [← ew0] at hK
    have h := hw0
    exact F_X12_next_209_ok X hr hlk v0 t31.2 _ h hK H locs ls O (lv_sub hl [0] rfl)
  rw [if_neg hc157] at h
  refine lv_aload_n hx hb dX12_next_160 rfl (lv_at hl 0 rfl) ?_
  obtain ⟨t32, ht32, h⟩ := Option.bind_eq_some_iff.mp h
  refine xr_getI X O ht32 fl_X12_104 (Or.inl rfl) dX12_next_161 ?_
  refine lv_aload_n hx hb dX12_next_164 rfl (lv_at hl 0 rfl) ?_
  obtain ⟨t33, ht33, h⟩ := Option.bind_eq_some_iff.mp h
  refine xr_getI X O ht33 fl_X12_101 (Or.inl rfl) dX12_next_165 ?_
  refine lv_isub hx hb dX12_next_168 ?_
  refine lv_iconst (v := (3 : Int32)) hx hb dX12_next_169 (by decide) ?_
  refine lv_icmp_ge (tgt := 196) hx hb dX12_next_170 (by decide) (fun hc170 => ?_) (fun hc170 => ?_)
  · rw [if_pos hc170] at h
    exact F_X12_next_196_ok X hr hlk v0 hW146 t31.2 _ h hK H locs ls O (lv_sub hl [0] rfl)
  rw [if_neg hc170] at h
  refine lv_aload_n hx hb dX12_next_173 rfl (lv_at hl 0 rfl) ?_
  refine lv_bipush (v := (10 : Int32)) hx hb dX12_next_174 (by decide) ?_
  refine lv_aload_n hx hb dX12_next_176 rfl (lv_at hl 0 rfl) ?_
  obtain ⟨t34, ht34, h⟩ := Option.bind_eq_some_iff.mp h
  refine xr_getI X O ht34 fl_X12_124 (Or.inl rfl) dX12_next_177 ?_
  refine lv_imul hx hb dX12_next_180 ?_
  refine lv_aload_n hx hb dX12_next_181 rfl (lv_at hl 0 rfl) ?_
  refine lv_aload_n hx hb dX12_next_182 rfl (lv_at hl 0 rfl) ?_
  obtain ⟨t35, ht35, h⟩ := Option.bind_eq_some_iff.mp h
  refine xr_getI X O ht35 fl_X12_104 (Or.inl rfl) dX12_next_183 ?_
  obtain ⟨_, hut36, h⟩ := Option.bind_eq_some_iff.mp h
  obtain ⟨t37, ht37, h⟩ := Option.bind_eq_some_iff.mp h
  refine xr_callV (rest := [.int ((10 : Int32) * t34), .ref (κ.1 + v0)]) X O (T_X12_see l κ v0 t35 t31.2 _ _ ht37) lk_X12_107 hut36 (Nat.le_of_ble_eq_true rfl) rfl hl.1 rfl (Nat.le_of_ble_eq_true rfl) dX12_next_186 ⟨Nat.le_of_ble_eq_true rfl, Nat.le_of_ble_eq_true rfl⟩ (fun H locs O => ?_)
  refine W.eq (g2 := F0 m 189 ls [.int t37.1, .int ((10 : Int32) * t34), .ref (κ.1 + v0)]) rfl ?_
  refine lv_iadd hx hb dX12_next_189 ?_
  refine lv_bipush (v := (48 : Int32)) hx hb dX12_next_190 (by decide) ?_
  refine lv_isub hx hb dX12_next_192 ?_
  obtain ⟨t38, ht38, h⟩ := Option.bind_eq_some_iff.mp h
  refine xr_putI X O ht38 fl_X12_124 dX12_next_193 (fun H locs O => ?_)
  exact F_X12_next_196_ok X hr hlk v0 hW146 t38 _ h hK H locs ls O (lv_sub hl [0] rfl)
set_option maxRecDepth 100000 in
set_option maxHeartbeats 4000000 in
theorem F_X12_next_146_ok (X : xX p s m args c cX12_next 2 RX12 κ) (hr : meth.sig.returnType = none) (hlk : meth.locks = false) {mo : xM} (v0 : Nat) (M : xM) (x : xM) (h : F_X12_next_146 v0 M = some x) (hK : (fun o => o = mo) x) (H : Heap) (locs : List Loc) (ls : Array Slot) (O : xO κ s M H locs) (hl : lv_has ls 2 [(0, .ref (κ.1 + v0))]) : W p l e (xRm 7 0 0) s m args below meth c H locs 0 0 (xQf below args s 0 0 κ none mo) (F0 m 146 ls []) := by
  refine xit_K (Wh := fun x => ∀ (H : Heap) (locs : List Loc) (ls : Array Slot), xO κ s x H locs → lv_has ls 2 [(0, .ref (κ.1 + v0))] → W p l e (xRm 7 0 0) s m args below meth c H locs 0 0 (xQf below args s 0 0 κ none mo) (F0 m 146 ls [])) (Kp := (fun o => o = mo)) ?_ xFU M x h hK H locs ls O hl
  intro y x h hK H locs ls O hl
  exact F_X12_next_146_bok X hr hlk v0 (fun  _ hw => hw) y x h hK H locs ls O hl
set_option maxRecDepth 100000 in
set_option maxHeartbeats 4000000 in
theorem F_X12_next_288_ok (X : xX p s m args c cX12_next 2 RX12 κ) (hr : meth.sig.returnType = none) (hlk : meth.locks = false) {mo : xM} (v0 : Nat) (v1 : Int32) {W254 : Int32 × xM → Prop} (hW254 : ∀ (v1 : Int32) (M : xM), W254 (v1, M) → ∀ (H : Heap) (locs : List Loc) (ls : Array Slot), xO κ s M H locs → lv_has ls 2 [(0, .ref (κ.1 + v0)), (1, .int v1)] → W p l e (xRm 7 0 0) s m args below meth c H locs 0 0 (xQf below args s 0 0 κ none mo) (F0 m 254 ls [])) (M : xM) (x : (Int32 × xM) ⊕ (xM)) (h : F_X12_next_288 v0 v1 M = some x) (hK : (xKl W254 (fun o => o = mo)) x) (H : Heap) (locs : List Loc) (ls : Array Slot) (O : xO κ s M H locs) (hl : lv_has ls 2 [(0, .ref (κ.1 + v0)), (1, .int v1)]) : W p l e (xRm 7 0 0) s m args below meth c H locs 0 0 (xQf below args s 0 0 κ none mo) (F0 m 288 ls []) := by
  unfold F_X12_next_288 at h
  have hx := X.1
  have hb := X.2.1
  refine lv_iinc (v := (v1 + 1)) (lv' := [(1, .int (v1 + 1)), (0, .ref (κ.1 + v0))]) hx hb dX12_next_288 hl (k := 1) rfl rfl (by decide) rfl (fun ls hl => ?_)
  refine lv_goto (tgt := 254) hx hb dX12_next_291 (by decide) ?_
  rw [← Option.some.inj h] at hK
  exact hW254 (v1 + 1) M hK H locs ls O (lv_sub hl [1, 0] rfl)
set_option maxRecDepth 100000 in
set_option maxHeartbeats 4000000 in
theorem F_X12_next_254_bok (X : xX p s m args c cX12_next 2 RX12 κ) (hr : meth.sig.returnType = none) (hlk : meth.locks = false) {mo : xM} (v0 : Nat) (v1 : Int32) {W254 : Int32 × xM → Prop} (hW254 : ∀ (v1 : Int32) (M : xM), W254 (v1, M) → ∀ (H : Heap) (locs : List Loc) (ls : Array Slot), xO κ s M H locs → lv_has ls 2 [(0, .ref (κ.1 + v0)), (1, .int v1)] → W p l e (xRm 7 0 0) s m args below meth c H locs 0 0 (xQf below args s 0 0 κ none mo) (F0 m 254 ls [])) (M : xM) (x : (Int32 × xM) ⊕ (xM)) (h : F_X12_next_254b v0 (v1, M) = some x) (hK : (xKl W254 (fun o => o = mo)) x) (H : Heap) (locs : List Loc) (ls : Array Slot) (O : xO κ s M H locs) (hl : lv_has ls 2 [(0, .ref (κ.1 + v0)), (1, .int v1)]) : W p l e (xRm 7 0 0) s m args below meth c H locs 0 0 (xQf below args s 0 0 κ none mo) (F0 m 254 ls []) := by
  unfold F_X12_next_254b at h
  dsimp only at h
  have hx := X.1
  have hb := X.2.1
  refine lv_iload_n hx hb dX12_next_254 rfl (lv_at hl 1 rfl) ?_
  refine va_ldcS hx hb X.2.2.2.1 (X.2.2.2.2.2.2.1 29 _ rfl).1 dX12_next_255 ?_
  obtain ⟨_, hut53, h⟩ := Option.bind_eq_some_iff.mp h
  obtain ⟨t54, ht54, h⟩ := Option.bind_eq_some_iff.mp h
  refine xr_callT (i := 29) (rest := [.int v1]) X O (T_J0_length_8abf5 l κ 29 M _ _ ht54) lk_X12_91 hut53 (Nat.le_of_ble_eq_true rfl) rfl hl.1 rfl (Nat.le_of_ble_eq_true rfl) dX12_next_257 ⟨Nat.le_of_ble_eq_true rfl, Nat.le_of_ble_eq_true rfl⟩ (fun H locs O => ?_)
  refine W.eq (g2 := F0 m 260 ls [.int t54.1, .int v1]) rfl ?_
  refine lv_icmp_ge (tgt := 294) hx hb dX12_next_260 (by decide) (fun hc260 => ?_) (fun hc260 => ?_)
  · rw [if_pos hc260] at h
    obtain ⟨_, hw0, ew0⟩ := Option.map_eq_some_iff.mp h
    rw [← ew0] at hK
    have h := hw0
    exact F_X12_next_294_ok X hr hlk  t54.2 _ h hK H locs ls O (lv_sub hl [] rfl)
  rw [if_neg hc260] at h
  refine lv_aload_n hx hb dX12_next_263 rfl (lv_at hl 0 rfl) ?_
  refine lv_aload_n hx hb dX12_next_264 rfl (lv_at hl 0 rfl) ?_
  obtain ⟨t55, ht55, h⟩ := Option.bind_eq_some_iff.mp h
  refine xr_getI X O ht55 fl_X12_101 (Or.inl rfl) dX12_next_265 ?_
  obtain ⟨_, hut56, h⟩ := Option.bind_eq_some_iff.mp h
  obtain ⟨t57, ht57, h⟩ := Option.bind_eq_some_iff.mp h
  refine xr_callV (rest := []) X O (T_X12_see l κ v0 t55 t54.2 _ _ ht57) lk_X12_107 hut56 (Nat.le_of_ble_eq_true rfl) rfl hl.1 rfl (Nat.le_of_ble_eq_true rfl) dX12_next_268 ⟨Nat.le_of_ble_eq_true rfl, Nat.le_of_ble_eq_true rfl⟩ (fun H locs O => ?_)
  refine W.eq (g2 := F0 m 271 ls [.int t57.1]) rfl ?_
  refine va_ldcS hx hb X.2.2.2.1 (X.2.2.2.2.2.2.1 29 _ rfl).1 dX12_next_271 ?_
  refine lv_iload_n hx hb dX12_next_273 rfl (lv_at hl 1 rfl) ?_
  obtain ⟨_, hut58, h⟩ := Option.bind_eq_some_iff.mp h
  obtain ⟨t59, ht59, h⟩ := Option.bind_eq_some_iff.mp h
  refine xr_callT (i := 29) (rest := [.int t57.1]) X O (T_J0_charAt_5068e l κ 29 v1 t57.2 _ _ ht59) lk_X12_97 hut58 (Nat.le_of_ble_eq_true rfl) rfl hl.1 rfl (Nat.le_of_ble_eq_true rfl) dX12_next_274 ⟨Nat.le_of_ble_eq_true rfl, Nat.le_of_ble_eq_true rfl⟩ (fun H locs O => ?_)
  refine W.eq (g2 := F0 m 277 ls [.int t59.1, .int t57.1]) rfl ?_
  refine lv_icmp_ne (tgt := 288) hx hb dX12_next_277 (by decide) (fun hc277 => ?_) (fun hc277 => ?_)
  · rw [if_neg hc277] at h
    exact F_X12_next_288_ok X hr hlk v0 v1 hW254 t59.2 _ h hK H locs ls O (lv_sub hl [0, 1] rfl)
  rw [if_pos hc277] at h
  refine lv_aload_n hx hb dX12_next_280 rfl (lv_at hl 0 rfl) ?_
  refine lv_bipush (v := (32 : Int32)) hx hb dX12_next_281 (by decide) ?_
  refine lv_iload_n hx hb dX12_next_283 rfl (lv_at hl 1 rfl) ?_
  refine lv_iadd hx hb dX12_next_284 ?_
  obtain ⟨t60, ht60, h⟩ := Option.bind_eq_some_iff.mp h
  refine xr_putI X O ht60 fl_X12_111 dX12_next_285 (fun H locs O => ?_)
  exact F_X12_next_288_ok X hr hlk v0 v1 hW254 t60 _ h hK H locs ls O (lv_sub hl [0, 1] rfl)
set_option maxRecDepth 100000 in
set_option maxHeartbeats 4000000 in
theorem F_X12_next_254_ok (X : xX p s m args c cX12_next 2 RX12 κ) (hr : meth.sig.returnType = none) (hlk : meth.locks = false) {mo : xM} (v0 : Nat) (v1 : Int32) (M : xM) (x : xM) (h : F_X12_next_254 v0 v1 M = some x) (hK : (fun o => o = mo) x) (H : Heap) (locs : List Loc) (ls : Array Slot) (O : xO κ s M H locs) (hl : lv_has ls 2 [(0, .ref (κ.1 + v0)), (1, .int v1)]) : W p l e (xRm 7 0 0) s m args below meth c H locs 0 0 (xQf below args s 0 0 κ none mo) (F0 m 254 ls []) := by
  refine xit_K (Wh := fun x => ∀ (H : Heap) (locs : List Loc) (ls : Array Slot), xO κ s x.2 H locs → lv_has ls 2 [(0, .ref (κ.1 + v0)), (1, .int x.1)] → W p l e (xRm 7 0 0) s m args below meth c H locs 0 0 (xQf below args s 0 0 κ none mo) (F0 m 254 ls [])) (Kp := (fun o => o = mo)) ?_ xFU (v1, M) x h hK H locs ls O hl
  intro y x h hK H locs ls O hl
  exact F_X12_next_254_bok X hr hlk v0 y.1 (fun _ _ hw => hw) y.2 x h hK H locs ls O hl
set_option maxRecDepth 100000 in
set_option maxHeartbeats 4000000 in
theorem F_X12_next_47_ok (X : xX p s m args c cX12_next 2 RX12 κ) (hr : meth.sig.returnType = none) (hlk : meth.locks = false) {mo : xM} (v0 : Nat) (M : xM) (x : xM) (h : F_X12_next_47 v0 M = some x) (hK : (fun o => o = mo) x) (H : Heap) (locs : List Loc) (ls : Array Slot) (O : xO κ s M H locs) (hl : lv_has ls 2 [(0, .ref (κ.1 + v0))]) : W p l e (xRm 7 0 0) s m args below meth c H locs 0 0 (xQf below args s 0 0 κ none mo) (F0 m 47 ls []) := by
  unfold F_X12_next_47 at h
  have hx := X.1
  have hb := X.2.1
  refine lv_aload_n hx hb dX12_next_47 rfl (lv_at hl 0 rfl) ?_
  refine lv_aload_n hx hb dX12_next_48 rfl (lv_at hl 0 rfl) ?_
  obtain ⟨t11, ht11, h⟩ := Option.bind_eq_some_iff.mp h
  refine xr_getI X O ht11 fl_X12_101 (Or.inl rfl) dX12_next_49 ?_
  obtain ⟨t12, ht12, h⟩ := Option.bind_eq_some_iff.mp h
  refine xr_putI X O ht12 fl_X12_104 dX12_next_52 (fun H locs O => ?_)
  refine lv_aload_n hx hb dX12_next_55 rfl (lv_at hl 0 rfl) ?_
  obtain ⟨t13, ht13, h⟩ := Option.bind_eq_some_iff.mp h
  refine xr_getI X O ht13 fl_X12_101 (Or.inl rfl) dX12_next_56 ?_
  refine lv_aload_n hx hb dX12_next_59 rfl (lv_at hl 0 rfl) ?_
  obtain ⟨t14, ht14, h⟩ := Option.bind_eq_some_iff.mp h
  refine xr_getI X O ht14 fl_X12_86 (Or.inl rfl) dX12_next_60 ?_
  refine lv_icmp_lt (tgt := 75) hx hb dX12_next_63 (by decide) (fun hc63 => ?_) (fun hc63 => ?_)
  · rw [if_pos hc63] at h
    refine lv_aload_n hx hb dX12_next_75 rfl (lv_at hl 0 rfl) ?_
    refine lv_aload_n hx hb dX12_next_76 rfl (lv_at hl 0 rfl) ?_
    obtain ⟨t15, ht15, h⟩ := Option.bind_eq_some_iff.mp h
    refine xr_getI X O ht15 fl_X12_101 (Or.inl rfl) dX12_next_77 ?_
    obtain ⟨_, hut16, h⟩ := Option.bind_eq_some_iff.mp h
    obtain ⟨t17, ht17, h⟩ := Option.bind_eq_some_iff.mp h
    refine xr_callV (rest := []) X O (T_X12_see l κ v0 t15 t12 _ _ ht17) lk_X12_107 hut16 (Nat.le_of_ble_eq_true rfl) rfl hl.1 rfl (Nat.le_of_ble_eq_true rfl) dX12_next_80 ⟨Nat.le_of_ble_eq_true rfl, Nat.le_of_ble_eq_true rfl⟩ (fun H locs O => ?_)
    refine W.eq (g2 := F0 m 83 ls [.int t17.1]) rfl ?_
    obtain ⟨t18, ht18, h⟩ := Option.bind_eq_some_iff.mp h
    refine xr_callS (rest := []) X O (T_X12_isSmall l κ t17.1 t17.2 _ _ ht18) lk_X12_114 (Nat.le_of_ble_eq_true rfl) rfl hl.1 rfl (Nat.le_of_ble_eq_true rfl) dX12_next_83 ⟨Nat.le_of_ble_eq_true rfl, Nat.le_of_ble_eq_true rfl⟩ (fun H locs O => ?_)
    refine W.eq (g2 := F0 m 86 ls [.int t18.1]) rfl ?_
    refine lv_if_eq (tgt := 127) hx hb dX12_next_86 (by decide) (fun hc86 => ?_) (fun hc86 => ?_)
    · rw [if_pos hc86] at h
      refine lv_aload_n hx hb dX12_next_127 rfl (lv_at hl 0 rfl) ?_
      refine lv_aload_n hx hb dX12_next_128 rfl (lv_at hl 0 rfl) ?_
      obtain ⟨t19, ht19, h⟩ := Option.bind_eq_some_iff.mp h
      refine xr_getI X O ht19 fl_X12_101 (Or.inl rfl) dX12_next_129 ?_
      obtain ⟨_, hut20, h⟩ := Option.bind_eq_some_iff.mp h
      obtain ⟨t21, ht21, h⟩ := Option.bind_eq_some_iff.mp h
      refine xr_callV (rest := []) X O (T_X12_see l κ v0 t19 t18.2 _ _ ht21) lk_X12_107 hut20 (Nat.le_of_ble_eq_true rfl) rfl hl.1 rfl (Nat.le_of_ble_eq_true rfl) dX12_next_132 ⟨Nat.le_of_ble_eq_true rfl, Nat.le_of_ble_eq_true rfl⟩ (fun H locs O => ?_)
      refine W.eq (g2 := F0 m 135 ls [.int t21.1]) rfl ?_
      obtain ⟨t22, ht22, h⟩ := Option.bind_eq_some_iff.mp h
      refine xr_callS (rest := []) X O (T_X12_isDigit l κ t21.1 t21.2 _ _ ht22) lk_X12_121 (Nat.le_of_ble_eq_true rfl) rfl hl.1 rfl (Nat.le_of_ble_eq_true rfl) dX12_next_135 ⟨Nat.le_of_ble_eq_true rfl, Nat.le_of_ble_eq_true rfl⟩ (fun H locs O => ?_)
      refine W.eq (g2 := F0 m 138 ls [.int t22.1]) rfl ?_
      refine lv_if_eq (tgt := 236) hx hb dX12_next_138 (by decide) (fun hc138 => ?_) (fun hc138 => ?_)
      · rw [if_pos hc138] at h
        refine lv_aload_n hx hb dX12_next_236 rfl (lv_at hl 0 rfl) ?_
        refine lv_dup hx hb dX12_next_237 rfl ?_
        obtain ⟨t23, ht23, h⟩ := Option.bind_eq_some_iff.mp h
        refine xr_getI X O ht23 fl_X12_104 (Or.inl rfl) dX12_next_238 ?_
        refine lv_iconst (v := (1 : Int32)) hx hb dX12_next_241 (by decide) ?_
        refine lv_iadd hx hb dX12_next_242 ?_
        obtain ⟨t24, ht24, h⟩ := Option.bind_eq_some_iff.mp h
        refine xr_putI X O ht24 fl_X12_104 dX12_next_243 (fun H locs O => ?_)
        refine lv_aload_n hx hb dX12_next_246 rfl (lv_at hl 0 rfl) ?_
        refine lv_bipush (v := (31 : Int32)) hx hb dX12_next_247 (by decide) ?_
        obtain ⟨t25, ht25, h⟩ := Option.bind_eq_some_iff.mp h
        refine xr_putI X O ht25 fl_X12_111 dX12_next_249 (fun H locs O => ?_)
        refine lv_iconst (v := (0 : Int32)) hx hb dX12_next_252 (by decide) ?_
        refine lv_istore_n (lv' := [(1, .int (0 : Int32)), (0, .ref (κ.1 + v0))]) hx hb dX12_next_253 rfl hl (by decide) rfl (fun ls hl => ?_)
        exact F_X12_next_254_ok X hr hlk v0 (0 : Int32) t25 _ h hK H locs ls O (lv_sub hl [1, 0] rfl)
      rw [if_neg hc138] at h
      refine lv_aload_n hx hb dX12_next_141 rfl (lv_at hl 0 rfl) ?_
      refine lv_iconst (v := (0 : Int32)) hx hb dX12_next_142 (by decide) ?_
      obtain ⟨t26, ht26, h⟩ := Option.bind_eq_some_iff.mp h
      refine xr_putI X O ht26 fl_X12_124 dX12_next_143 (fun H locs O => ?_)
      exact F_X12_next_146_ok X hr hlk v0 t26 _ h hK H locs ls O (lv_sub hl [0] rfl)
    rw [if_neg hc86] at h
    exact F_X12_next_89_ok X hr hlk v0 t18.2 _ h hK H locs ls O (lv_sub hl [0] rfl)
  rw [if_neg hc63] at h
  refine lv_aload_n hx hb dX12_next_66 rfl (lv_at hl 0 rfl) ?_
  refine lv_bipush (v := (30 : Int32)) hx hb dX12_next_67 (by decide) ?_
  obtain ⟨t27, ht27, h⟩ := Option.bind_eq_some_iff.mp h
  refine xr_putI X O ht27 fl_X12_111 dX12_next_69 (fun H locs O => ?_)
  refine lv_goto (tgt := 294) hx hb dX12_next_72 (by decide) ?_
  exact F_X12_next_294_ok X hr hlk  t27 _ h hK H locs ls O (lv_sub hl [] rfl)
set_option maxRecDepth 100000 in
set_option maxHeartbeats 4000000 in
theorem F_X12_next_8_bok (X : xX p s m args c cX12_next 2 RX12 κ) (hr : meth.sig.returnType = none) (hlk : meth.locks = false) {mo : xM} (v0 : Nat) {W8 : xM → Prop} (hW8 : ∀ (M : xM), W8 M → ∀ (H : Heap) (locs : List Loc) (ls : Array Slot), xO κ s M H locs → lv_has ls 2 [(0, .ref (κ.1 + v0))] → W p l e (xRm 7 0 0) s m args below meth c H locs 0 0 (xQf below args s 0 0 κ none mo) (F0 m 8 ls [])) (M : xM) (x : (xM) ⊕ (xM)) (h : F_X12_next_8b v0 M = some x) (hK : (xKl W8 (fun o => o = mo)) x) (H : Heap) (locs : List Loc) (ls : Array Slot) (O : xO κ s M H locs) (hl : lv_has ls 2 [(0, .ref (κ.1 + v0))]) : W p l e (xRm 7 0 0) s m args below meth c H locs 0 0 (xQf below args s 0 0 κ none mo) (F0 m 8 ls []) := by
  unfold F_X12_next_8b at h
  have hx := X.1
  have hb := X.2.1
  refine lv_aload_n hx hb dX12_next_8 rfl (lv_at hl 0 rfl) ?_
  refine lv_aload_n hx hb dX12_next_9 rfl (lv_at hl 0 rfl) ?_
  obtain ⟨t3, ht3, h⟩ := Option.bind_eq_some_iff.mp h
  refine xr_getI X O ht3 fl_X12_101 (Or.inl rfl) dX12_next_10 ?_
  obtain ⟨_, hut4, h⟩ := Option.bind_eq_some_iff.mp h
  obtain ⟨t5, ht5, h⟩ := Option.bind_eq_some_iff.mp h
  refine xr_callV (rest := []) X O (T_X12_see l κ v0 t3 M _ _ ht5) lk_X12_107 hut4 (Nat.le_of_ble_eq_true rfl) rfl hl.1 rfl (Nat.le_of_ble_eq_true rfl) dX12_next_13 ⟨Nat.le_of_ble_eq_true rfl, Nat.le_of_ble_eq_true rfl⟩ (fun H locs O => ?_)
  refine W.eq (g2 := F0 m 16 ls [.int t5.1]) rfl ?_
  refine lv_bipush (v := (10 : Int32)) hx hb dX12_next_16 (by decide) ?_
  refine lv_icmp_eq (tgt := 34) hx hb dX12_next_18 (by decide) (fun hc18 => ?_) (fun hc18 => ?_)
  · rw [if_pos hc18] at h
    exact F_X12_next_34_ok X hr hlk v0 hW8 t5.2 _ h hK H locs ls O (lv_sub hl [0] rfl)
  rw [if_neg hc18] at h
  refine lv_aload_n hx hb dX12_next_21 rfl (lv_at hl 0 rfl) ?_
  refine lv_aload_n hx hb dX12_next_22 rfl (lv_at hl 0 rfl) ?_
  obtain ⟨t6, ht6, h⟩ := Option.bind_eq_some_iff.mp h
  refine xr_getI X O ht6 fl_X12_101 (Or.inl rfl) dX12_next_23 ?_
  obtain ⟨_, hut7, h⟩ := Option.bind_eq_some_iff.mp h
  obtain ⟨t8, ht8, h⟩ := Option.bind_eq_some_iff.mp h
  refine xr_callV (rest := []) X O (T_X12_see l κ v0 t6 t5.2 _ _ ht8) lk_X12_107 hut7 (Nat.le_of_ble_eq_true rfl) rfl hl.1 rfl (Nat.le_of_ble_eq_true rfl) dX12_next_26 ⟨Nat.le_of_ble_eq_true rfl, Nat.le_of_ble_eq_true rfl⟩ (fun H locs O => ?_)
  refine W.eq (g2 := F0 m 29 ls [.int t8.1]) rfl ?_
  refine lv_bipush (v := (32 : Int32)) hx hb dX12_next_29 (by decide) ?_
  refine lv_icmp_ne (tgt := 47) hx hb dX12_next_31 (by decide) (fun hc31 => ?_) (fun hc31 => ?_)
  · rw [if_neg hc31] at h
    obtain ⟨_, hw0, ew0⟩ := Option.map_eq_some_iff.mp h
    rw [← ew0] at hK
    have h := hw0
    exact F_X12_next_47_ok X hr hlk v0 t8.2 _ h hK H locs ls O (lv_sub hl [0] rfl)
  rw [if_pos hc31] at h
  exact F_X12_next_34_ok X hr hlk v0 hW8 t8.2 _ h hK H locs ls O (lv_sub hl [0] rfl)
set_option maxRecDepth 100000 in
set_option maxHeartbeats 4000000 in
theorem F_X12_next_8_ok (X : xX p s m args c cX12_next 2 RX12 κ) (hr : meth.sig.returnType = none) (hlk : meth.locks = false) {mo : xM} (v0 : Nat) (M : xM) (x : xM) (h : F_X12_next_8 v0 M = some x) (hK : (fun o => o = mo) x) (H : Heap) (locs : List Loc) (ls : Array Slot) (O : xO κ s M H locs) (hl : lv_has ls 2 [(0, .ref (κ.1 + v0))]) : W p l e (xRm 7 0 0) s m args below meth c H locs 0 0 (xQf below args s 0 0 κ none mo) (F0 m 8 ls []) := by
  refine xit_K (Wh := fun x => ∀ (H : Heap) (locs : List Loc) (ls : Array Slot), xO κ s x H locs → lv_has ls 2 [(0, .ref (κ.1 + v0))] → W p l e (xRm 7 0 0) s m args below meth c H locs 0 0 (xQf below args s 0 0 κ none mo) (F0 m 8 ls [])) (Kp := (fun o => o = mo)) ?_ xFU M x h hK H locs ls O hl
  intro y x h hK H locs ls O hl
  exact F_X12_next_8_bok X hr hlk v0 (fun  _ hw => hw) y x h hK H locs ls O hl
set_option maxRecDepth 100000 in
set_option maxHeartbeats 4000000 in
theorem T_X12_next (l : Launch) (κ : xQ) (a0 : Nat) (M : xM) (mo : xM) (h : F_X12_next a0 M = some mo) : xC l yX12_next cX12_next 2 none 7 0 0 κ [.ref (κ.1 + a0)] M none mo := by
  refine xC_of rfl (Nat.le_of_ble_eq_true rfl) fun p e s m args below meth c X hr hlk hnm H locs ls O hl => ?_
  have X : xX p s m args c cX12_next 2 RX12 κ := X
  have hl : lv_has ls 2 [(0, .ref (κ.1 + a0))] := hl
  have hx := X.1
  have hb := X.2.1
  obtain ⟨x, hx0⟩ : ∃ x, mo = x := ⟨_, rfl⟩
  rw [hx0] at h
  have hK : x = mo := hx0.symm
  unfold F_X12_next at h
  refine lv_aload_n hx hb dX12_next_0 rfl (lv_at hl 0 rfl) ?_
  refine lv_aload_n hx hb dX12_next_1 rfl (lv_at hl 0 rfl) ?_
  obtain ⟨t1, ht1, h⟩ := Option.bind_eq_some_iff.mp h
  refine xr_getI X O ht1 fl_X12_104 (Or.inl rfl) dX12_next_2 ?_
  obtain ⟨t2, ht2, h⟩ := Option.bind_eq_some_iff.mp h
  refine xr_putI X O ht2 fl_X12_101 dX12_next_5 (fun H locs O => ?_)
  exact F_X12_next_8_ok X hr hlk a0 t2 _ h hK H locs ls O (lv_sub hl [0] rfl)
def F_X12_fails_23 (v0 : Nat) (s0 : Int32) (s1 : Nat) (M : xM) : Option (xM) :=
(xpI M s1 12 11 s0).bind fun t3 =>
(xgI t3 v0 12 6).bind fun t4 =>
(xpI t3 v0 12 12 t4).bind fun t5 =>
some t5
def F_X12_fails (a0 : Nat) (a1 : Int32) (M : xM) : Option (xM) :=
(xgI M a0 12 11).bind fun t1 =>
if t1 = 0 then (
(xgI M a0 12 9).bind fun t2 =>
if t2 = (31 : Int32) then (
F_X12_fails_23 a0 (1 : Int32) a0 M)
else (
F_X12_fails_23 a0 a1 a0 M))
else (
some M)
set_option maxRecDepth 100000 in
set_option maxHeartbeats 4000000 in
theorem F_X12_fails_23_ok (X : xX p s m args c cX12_fails 2 RX12 κ) (hr : meth.sig.returnType = none) (hlk : meth.locks = false) {mo : xM} (v0 : Nat) (s0 : Int32) (s1 : Nat) (M : xM) (x : xM) (h : F_X12_fails_23 v0 s0 s1 M = some x) (hK : (fun o => o = mo) x) (H : Heap) (locs : List Loc) (ls : Array Slot) (O : xO κ s M H locs) (hl : lv_has ls 2 [(0, .ref (κ.1 + v0))]) : W p l e (xRm 2 0 0) s m args below meth c H locs 0 0 (xQf below args s 0 0 κ none mo) (F0 m 23 ls [.int s0, .ref (κ.1 + s1)]) := by
  unfold F_X12_fails_23 at h
  have hx := X.1
  have hb := X.2.1
  obtain ⟨t3, ht3, h⟩ := Option.bind_eq_some_iff.mp h
  refine xr_putI X O ht3 fl_X12_129 dX12_fails_23 (fun H locs O => ?_)
  refine lv_aload_n hx hb dX12_fails_26 rfl (lv_at hl 0 rfl) ?_
  refine lv_aload_n hx hb dX12_fails_27 rfl (lv_at hl 0 rfl) ?_
  obtain ⟨t4, ht4, h⟩ := Option.bind_eq_some_iff.mp h
  refine xr_getI X O ht4 fl_X12_101 (Or.inl rfl) dX12_fails_28 ?_
  obtain ⟨t5, ht5, h⟩ := Option.bind_eq_some_iff.mp h
  refine xr_putI X O ht5 fl_X12_132 dX12_fails_31 (fun H locs O => ?_)
  rw [← Option.some.inj h] at hK
  have hK : t5 = mo := hK
  rw [hK] at O
  exact xr_vret X hr hlk O dX12_fails_34
set_option maxRecDepth 100000 in
set_option maxHeartbeats 4000000 in
theorem T_X12_fails (l : Launch) (κ : xQ) (a0 : Nat) (a1 : Int32) (M : xM) (mo : xM) (h : F_X12_fails a0 a1 M = some mo) : xC l yX12_fails cX12_fails 2 none 2 0 0 κ [.ref (κ.1 + a0), .int a1] M none mo := by
  refine xC_of rfl (Nat.le_of_ble_eq_true rfl) fun p e s m args below meth c X hr hlk hnm H locs ls O hl => ?_
  have X : xX p s m args c cX12_fails 2 RX12 κ := X
  have hl : lv_has ls 2 [(0, .ref (κ.1 + a0)), (1, .int a1)] := hl
  have hx := X.1
  have hb := X.2.1
  obtain ⟨x, hx0⟩ : ∃ x, mo = x := ⟨_, rfl⟩
  rw [hx0] at h
  have hK : x = mo := hx0.symm
  unfold F_X12_fails at h
  refine lv_aload_n hx hb dX12_fails_0 rfl (lv_at hl 0 rfl) ?_
  obtain ⟨t1, ht1, h⟩ := Option.bind_eq_some_iff.mp h
  refine xr_getI X O ht1 fl_X12_129 (Or.inl rfl) dX12_fails_1 ?_
  refine lv_if_eq (tgt := 8) hx hb dX12_fails_4 (by decide) (fun hc4 => ?_) (fun hc4 => ?_)
  · rw [if_pos hc4] at h
    refine lv_aload_n hx hb dX12_fails_8 rfl (lv_at hl 0 rfl) ?_
    refine lv_aload_n hx hb dX12_fails_9 rfl (lv_at hl 0 rfl) ?_
    obtain ⟨t2, ht2, h⟩ := Option.bind_eq_some_iff.mp h
    refine xr_getI X O ht2 fl_X12_111 (Or.inl rfl) dX12_fails_10 ?_
    refine lv_bipush (v := (31 : Int32)) hx hb dX12_fails_13 (by decide) ?_
    refine lv_icmp_ne (tgt := 22) hx hb dX12_fails_15 (by decide) (fun hc15 => ?_) (fun hc15 => ?_)
    · rw [if_neg hc15] at h
      refine lv_iload_n hx hb dX12_fails_22 rfl (lv_at hl 1 rfl) ?_
      exact F_X12_fails_23_ok X hr hlk a0 a1 a0 M _ h hK H locs ls O (lv_sub hl [0] rfl)
    rw [if_pos hc15] at h
    refine lv_iconst (v := (1 : Int32)) hx hb dX12_fails_18 (by decide) ?_
    refine lv_goto (tgt := 23) hx hb dX12_fails_19 (by decide) ?_
    exact F_X12_fails_23_ok X hr hlk a0 (1 : Int32) a0 M _ h hK H locs ls O (lv_sub hl [0] rfl)
  rw [if_neg hc4] at h
  rw [← Option.some.inj h] at hK
  have hK : M = mo := hK
  rw [hK] at O
  exact xr_vret X hr hlk O dX12_fails_7
def F_X12_is_19 (M : xM) : Option (Int32 × xM) :=
(xz (0 : Int32)).bind fun t4 =>
some (t4, M)
def F_X12_is (a0 : Nat) (a1 : Int32) (M : xM) : Option (Int32 × xM) :=
(xgI M a0 12 11).bind fun t1 =>
if t1 = 0 then (
(xgI M a0 12 9).bind fun t2 =>
if t2 = a1 then (
(xz (1 : Int32)).bind fun t3 =>
some (t3, M))
else (
F_X12_is_19 M))
else (
F_X12_is_19 M)
set_option maxRecDepth 100000 in
set_option maxHeartbeats 4000000 in
theorem F_X12_is_19_ok (X : xX p s m args c cX12_is 2 RX12 κ) (hr : meth.sig.returnType = (some .boolean)) (hlk : meth.locks = false) {ro : Int32} {mo : xM} (M : xM) (x : Int32 × xM) (h : F_X12_is_19 M = some x) (hK : (fun o => o = (ro, mo)) x) (H : Heap) (locs : List Loc) (ls : Array Slot) (O : xO κ s M H locs) (hl : lv_has ls 2 []) : W p l e (xRm 2 0 0) s m args below meth c H locs 0 0 (xQf below args s 0 0 κ (some (.int ro)) mo) (F0 m 19 ls []) := by
  unfold F_X12_is_19 at h
  have hx := X.1
  have hb := X.2.1
  refine lv_iconst (v := (0 : Int32)) hx hb dX12_is_19 (by decide) ?_
  obtain ⟨t4, ht4, h⟩ := Option.bind_eq_some_iff.mp h
  rw [← Option.some.inj h] at hK
  have hK : (t4, M) = (ro, mo) := hK
  obtain ⟨hK1, hK2⟩ := Prod.mk.inj hK
  rw [hK1] at ht4
  rw [hK2] at O
  exact xr_zret X hr hlk O ht4 dX12_is_20
set_option maxRecDepth 100000 in
set_option maxHeartbeats 4000000 in
theorem T_X12_is (l : Launch) (κ : xQ) (a0 : Nat) (a1 : Int32) (M : xM) (ro : Int32) (mo : xM) (h : F_X12_is a0 a1 M = some (ro, mo)) : xC l yX12_is cX12_is 2 (some .boolean) 2 0 0 κ [.ref (κ.1 + a0), .int a1] M (some (.int ro)) mo := by
  refine xC_of rfl (Nat.le_of_ble_eq_true rfl) fun p e s m args below meth c X hr hlk hnm H locs ls O hl => ?_
  have X : xX p s m args c cX12_is 2 RX12 κ := X
  have hl : lv_has ls 2 [(0, .ref (κ.1 + a0)), (1, .int a1)] := hl
  have hx := X.1
  have hb := X.2.1
  obtain ⟨x, hx0⟩ : ∃ x, (ro, mo) = x := ⟨_, rfl⟩
  rw [hx0] at h
  have hK : x = (ro, mo) := hx0.symm
  unfold F_X12_is at h
  refine lv_aload_n hx hb dX12_is_0 rfl (lv_at hl 0 rfl) ?_
  obtain ⟨t1, ht1, h⟩ := Option.bind_eq_some_iff.mp h
  refine xr_getI X O ht1 fl_X12_129 (Or.inl rfl) dX12_is_1 ?_
  refine lv_if_ne (tgt := 19) hx hb dX12_is_4 (by decide) (fun hc4 => ?_) (fun hc4 => ?_)
  · rw [if_neg hc4] at h
    exact F_X12_is_19_ok X hr hlk  M _ h hK H locs ls O (lv_sub hl [] rfl)
  rw [if_pos hc4] at h
  refine lv_aload_n hx hb dX12_is_7 rfl (lv_at hl 0 rfl) ?_
  obtain ⟨t2, ht2, h⟩ := Option.bind_eq_some_iff.mp h
  refine xr_getI X O ht2 fl_X12_111 (Or.inl rfl) dX12_is_8 ?_
  refine lv_iload_n hx hb dX12_is_11 rfl (lv_at hl 1 rfl) ?_
  refine lv_icmp_ne (tgt := 19) hx hb dX12_is_12 (by decide) (fun hc12 => ?_) (fun hc12 => ?_)
  · rw [if_neg hc12] at h
    exact F_X12_is_19_ok X hr hlk  M _ h hK H locs ls O (lv_sub hl [] rfl)
  rw [if_pos hc12] at h
  refine lv_iconst (v := (1 : Int32)) hx hb dX12_is_15 (by decide) ?_
  refine lv_goto (tgt := 20) hx hb dX12_is_16 (by decide) ?_
  obtain ⟨t3, ht3, h⟩ := Option.bind_eq_some_iff.mp h
  rw [← Option.some.inj h] at hK
  have hK : (t3, M) = (ro, mo) := hK
  obtain ⟨hK1, hK2⟩ := Prod.mk.inj hK
  rw [hK1] at ht3
  rw [hK2] at O
  exact xr_zret X hr hlk O ht3 dX12_is_20
def F_X12_eats (a0 : Nat) (a1 : Int32) (M : xM) : Option (Int32 × xM) :=
(xck M a0 12).bind fun _ =>
(F_X12_is a0 a1 M).bind fun t2 =>
if t2.1 = 0 then (
(xz (0 : Int32)).bind fun t6 =>
some (t6, t2.2))
else (
(xck t2.2 a0 12).bind fun _ =>
(F_X12_next a0 t2.2).bind fun t4 =>
(xz (1 : Int32)).bind fun t5 =>
some (t5, t4))
set_option maxRecDepth 100000 in
set_option maxHeartbeats 4000000 in
theorem T_X12_eats (l : Launch) (κ : xQ) (a0 : Nat) (a1 : Int32) (M : xM) (ro : Int32) (mo : xM) (h : F_X12_eats a0 a1 M = some (ro, mo)) : xC l yX12_eats cX12_eats 2 (some .boolean) 8 0 0 κ [.ref (κ.1 + a0), .int a1] M (some (.int ro)) mo := by
  refine xC_of rfl (Nat.le_of_ble_eq_true rfl) fun p e s m args below meth c X hr hlk hnm H locs ls O hl => ?_
  have X : xX p s m args c cX12_eats 2 RX12 κ := X
  have hl : lv_has ls 2 [(0, .ref (κ.1 + a0)), (1, .int a1)] := hl
  have hx := X.1
  have hb := X.2.1
  obtain ⟨x, hx0⟩ : ∃ x, (ro, mo) = x := ⟨_, rfl⟩
  rw [hx0] at h
  have hK : x = (ro, mo) := hx0.symm
  unfold F_X12_eats at h
  refine lv_aload_n hx hb dX12_eats_0 rfl (lv_at hl 0 rfl) ?_
  refine lv_iload_n hx hb dX12_eats_1 rfl (lv_at hl 1 rfl) ?_
  obtain ⟨_, hut1, h⟩ := Option.bind_eq_some_iff.mp h
  obtain ⟨t2, ht2, h⟩ := Option.bind_eq_some_iff.mp h
  refine xr_callV (rest := []) X O (T_X12_is l κ a0 a1 M _ _ ht2) lk_X12_135 hut1 (Nat.le_of_ble_eq_true rfl) rfl hl.1 rfl (Nat.le_of_ble_eq_true rfl) dX12_eats_2 ⟨Nat.le_of_ble_eq_true rfl, Nat.le_of_ble_eq_true rfl⟩ (fun H locs O => ?_)
  refine W.eq (g2 := F0 m 5 ls [.int t2.1]) rfl ?_
  refine lv_if_ne (tgt := 10) hx hb dX12_eats_5 (by decide) (fun hc5 => ?_) (fun hc5 => ?_)
  · rw [if_neg hc5] at h
    refine lv_aload_n hx hb dX12_eats_10 rfl (lv_at hl 0 rfl) ?_
    obtain ⟨_, hut3, h⟩ := Option.bind_eq_some_iff.mp h
    obtain ⟨t4, ht4, h⟩ := Option.bind_eq_some_iff.mp h
    refine xr_callV (rest := []) X O (T_X12_next l κ a0 t2.2 _ ht4) lk_X12_138 hut3 (Nat.le_of_ble_eq_true rfl) rfl hl.1 rfl (Nat.le_of_ble_eq_true rfl) dX12_eats_11 ⟨Nat.le_of_ble_eq_true rfl, Nat.le_of_ble_eq_true rfl⟩ (fun H locs O => ?_)
    refine W.eq (g2 := F0 m 14 ls []) rfl ?_
    refine lv_iconst (v := (1 : Int32)) hx hb dX12_eats_14 (by decide) ?_
    obtain ⟨t5, ht5, h⟩ := Option.bind_eq_some_iff.mp h
    rw [← Option.some.inj h] at hK
    have hK : (t5, t4) = (ro, mo) := hK
    obtain ⟨hK1, hK2⟩ := Prod.mk.inj hK
    rw [hK1] at ht5
    rw [hK2] at O
    exact xr_zret X hr hlk O ht5 dX12_eats_15
  rw [if_pos hc5] at h
  refine lv_iconst (v := (0 : Int32)) hx hb dX12_eats_8 (by decide) ?_
  obtain ⟨t6, ht6, h⟩ := Option.bind_eq_some_iff.mp h
  rw [← Option.some.inj h] at hK
  have hK : (t6, t2.2) = (ro, mo) := hK
  obtain ⟨hK1, hK2⟩ := Prod.mk.inj hK
  rw [hK1] at ht6
  rw [hK2] at O
  exact xr_zret X hr hlk O ht6 dX12_eats_9
def F_X12_takes_37 (v0 : Nat) (M : xM) : Option (Int32 × xM) :=
(xgI M v0 12 10).bind fun t9 =>
(xgI M v0 12 11).bind fun t10 =>
if t10 = 0 then (
(xck M v0 12).bind fun _ =>
(F_X12_next v0 M).bind fun t12 =>
some (t9, t12))
else (
some (t9, M))
def F_X12_takes (a0 : Nat) (a1 : Int32) (a2 : Int32) (M : xM) : Option (Int32 × xM) :=
(xck M a0 12).bind fun _ =>
(F_X12_is a0 (29 : Int32) M).bind fun t2 =>
if t2.1 = 0 then (
(xck t2.2 a0 12).bind fun _ =>
(F_X12_fails a0 (2 : Int32) t2.2).bind fun t8 =>
F_X12_takes_37 a0 t8)
else (
(xgI t2.2 a0 12 10).bind fun t3 =>
(F_X12_within t3.toInt64 a1.toInt64 a2.toInt64 t2.2).bind fun t4 =>
if t4.1 = 0 then (
(xck t4.2 a0 12).bind fun _ =>
(F_X12_fails a0 (3 : Int32) t4.2).bind fun t6 =>
F_X12_takes_37 a0 t6)
else (
F_X12_takes_37 a0 t4.2))
set_option maxRecDepth 100000 in
set_option maxHeartbeats 4000000 in
theorem F_X12_takes_37_ok (X : xX p s m args c cX12_takes 4 RX12 κ) (hr : meth.sig.returnType = (some .int)) (hlk : meth.locks = false) {ro : Int32} {mo : xM} (v0 : Nat) (M : xM) (x : Int32 × xM) (h : F_X12_takes_37 v0 M = some x) (hK : (fun o => o = (ro, mo)) x) (H : Heap) (locs : List Loc) (ls : Array Slot) (O : xO κ s M H locs) (hl : lv_has ls 4 [(0, .ref (κ.1 + v0))]) : W p l e (xRm 8 0 0) s m args below meth c H locs 0 0 (xQf below args s 0 0 κ (some (.int ro)) mo) (F0 m 37 ls []) := by
  unfold F_X12_takes_37 at h
  have hx := X.1
  have hb := X.2.1
  refine lv_aload_n hx hb dX12_takes_37 rfl (lv_at hl 0 rfl) ?_
  obtain ⟨t9, ht9, h⟩ := Option.bind_eq_some_iff.mp h
  refine xr_getI X O ht9 fl_X12_124 (Or.inl rfl) dX12_takes_38 ?_
  refine lv_istore_n (lv' := [(3, .int t9), (0, .ref (κ.1 + v0))]) hx hb dX12_takes_41 rfl hl (by decide) rfl (fun ls hl => ?_)
  refine lv_aload_n hx hb dX12_takes_42 rfl (lv_at hl 1 rfl) ?_
  obtain ⟨t10, ht10, h⟩ := Option.bind_eq_some_iff.mp h
  refine xr_getI X O ht10 fl_X12_129 (Or.inl rfl) dX12_takes_43 ?_
  refine lv_if_ne (tgt := 53) hx hb dX12_takes_46 (by decide) (fun hc46 => ?_) (fun hc46 => ?_)
  · rw [if_neg hc46] at h
    refine lv_iload_n hx hb dX12_takes_53 rfl (lv_at hl 0 rfl) ?_
    rw [← Option.some.inj h] at hK
    have hK : (t9, M) = (ro, mo) := hK
    obtain ⟨hK1, hK2⟩ := Prod.mk.inj hK
    rw [hK2] at O
    refine xr_top (w := .int ro) (by rw [hK1]) ?_
    exact xr_iret X hr hlk O dX12_takes_54
  rw [if_pos hc46] at h
  refine lv_aload_n hx hb dX12_takes_49 rfl (lv_at hl 1 rfl) ?_
  obtain ⟨_, hut11, h⟩ := Option.bind_eq_some_iff.mp h
  obtain ⟨t12, ht12, h⟩ := Option.bind_eq_some_iff.mp h
  refine xr_callV (rest := []) X O (T_X12_next l κ v0 M _ ht12) lk_X12_138 hut11 (Nat.le_of_ble_eq_true rfl) rfl hl.1 rfl (Nat.le_of_ble_eq_true rfl) dX12_takes_50 ⟨Nat.le_of_ble_eq_true rfl, Nat.le_of_ble_eq_true rfl⟩ (fun H locs O => ?_)
  refine W.eq (g2 := F0 m 53 ls []) rfl ?_
  refine lv_iload_n hx hb dX12_takes_53 rfl (lv_at hl 0 rfl) ?_
  rw [← Option.some.inj h] at hK
  have hK : (t9, t12) = (ro, mo) := hK
  obtain ⟨hK1, hK2⟩ := Prod.mk.inj hK
  rw [hK2] at O
  refine xr_top (w := .int ro) (by rw [hK1]) ?_
  exact xr_iret X hr hlk O dX12_takes_54
set_option maxRecDepth 100000 in
set_option maxHeartbeats 4000000 in
theorem T_X12_takes (l : Launch) (κ : xQ) (a0 : Nat) (a1 : Int32) (a2 : Int32) (M : xM) (ro : Int32) (mo : xM) (h : F_X12_takes a0 a1 a2 M = some (ro, mo)) : xC l yX12_takes cX12_takes 4 (some .int) 8 0 0 κ [.ref (κ.1 + a0), .int a1, .int a2] M (some (.int ro)) mo := by
  refine xC_of rfl (Nat.le_of_ble_eq_true rfl) fun p e s m args below meth c X hr hlk hnm H locs ls O hl => ?_
  have X : xX p s m args c cX12_takes 4 RX12 κ := X
  have hl : lv_has ls 4 [(0, .ref (κ.1 + a0)), (1, .int a1), (2, .int a2)] := hl
  have hx := X.1
  have hb := X.2.1
  obtain ⟨x, hx0⟩ : ∃ x, (ro, mo) = x := ⟨_, rfl⟩
  rw [hx0] at h
  have hK : x = (ro, mo) := hx0.symm
  unfold F_X12_takes at h
  refine lv_aload_n hx hb dX12_takes_0 rfl (lv_at hl 0 rfl) ?_
  refine lv_bipush (v := (29 : Int32)) hx hb dX12_takes_1 (by decide) ?_
  obtain ⟨_, hut1, h⟩ := Option.bind_eq_some_iff.mp h
  obtain ⟨t2, ht2, h⟩ := Option.bind_eq_some_iff.mp h
  refine xr_callV (rest := []) X O (T_X12_is l κ a0 (29 : Int32) M _ _ ht2) lk_X12_135 hut1 (Nat.le_of_ble_eq_true rfl) rfl hl.1 rfl (Nat.le_of_ble_eq_true rfl) dX12_takes_3 ⟨Nat.le_of_ble_eq_true rfl, Nat.le_of_ble_eq_true rfl⟩ (fun H locs O => ?_)
  refine W.eq (g2 := F0 m 6 ls [.int t2.1]) rfl ?_
  refine lv_if_ne (tgt := 17) hx hb dX12_takes_6 (by decide) (fun hc6 => ?_) (fun hc6 => ?_)
  · rw [if_neg hc6] at h
    refine lv_aload_n hx hb dX12_takes_17 rfl (lv_at hl 0 rfl) ?_
    obtain ⟨t3, ht3, h⟩ := Option.bind_eq_some_iff.mp h
    refine xr_getI X O ht3 fl_X12_124 (Or.inl rfl) dX12_takes_18 ?_
    refine lv_i2l (v := t3.toInt64) hx hb dX12_takes_21 rfl ?_
    refine lv_iload_n hx hb dX12_takes_22 rfl (lv_at hl 1 rfl) ?_
    refine lv_i2l (v := a1.toInt64) hx hb dX12_takes_23 rfl ?_
    refine lv_iload_n hx hb dX12_takes_24 rfl (lv_at hl 2 rfl) ?_
    refine lv_i2l (v := a2.toInt64) hx hb dX12_takes_25 rfl ?_
    obtain ⟨t4, ht4, h⟩ := Option.bind_eq_some_iff.mp h
    refine xr_callS (rest := []) X O (T_X12_within l κ t3.toInt64 a1.toInt64 a2.toInt64 t2.2 _ _ ht4) lk_X12_145 (Nat.le_of_ble_eq_true rfl) rfl hl.1 rfl (Nat.le_of_ble_eq_true rfl) dX12_takes_26 ⟨Nat.le_of_ble_eq_true rfl, Nat.le_of_ble_eq_true rfl⟩ (fun H locs O => ?_)
    refine W.eq (g2 := F0 m 29 ls [.int t4.1]) rfl ?_
    refine lv_if_ne (tgt := 37) hx hb dX12_takes_29 (by decide) (fun hc29 => ?_) (fun hc29 => ?_)
    · rw [if_neg hc29] at h
      exact F_X12_takes_37_ok X hr hlk a0 t4.2 _ h hK H locs ls O (lv_sub hl [0] rfl)
    rw [if_pos hc29] at h
    refine lv_aload_n hx hb dX12_takes_32 rfl (lv_at hl 0 rfl) ?_
    refine lv_iconst (v := (3 : Int32)) hx hb dX12_takes_33 (by decide) ?_
    obtain ⟨_, hut5, h⟩ := Option.bind_eq_some_iff.mp h
    obtain ⟨t6, ht6, h⟩ := Option.bind_eq_some_iff.mp h
    refine xr_callV (rest := []) X O (T_X12_fails l κ a0 (3 : Int32) t4.2 _ ht6) lk_X12_141 hut5 (Nat.le_of_ble_eq_true rfl) rfl hl.1 rfl (Nat.le_of_ble_eq_true rfl) dX12_takes_34 ⟨Nat.le_of_ble_eq_true rfl, Nat.le_of_ble_eq_true rfl⟩ (fun H locs O => ?_)
    refine W.eq (g2 := F0 m 37 ls []) rfl ?_
    exact F_X12_takes_37_ok X hr hlk a0 t6 _ h hK H locs ls O (lv_sub hl [0] rfl)
  rw [if_pos hc6] at h
  refine lv_aload_n hx hb dX12_takes_9 rfl (lv_at hl 0 rfl) ?_
  refine lv_iconst (v := (2 : Int32)) hx hb dX12_takes_10 (by decide) ?_
  obtain ⟨_, hut7, h⟩ := Option.bind_eq_some_iff.mp h
  obtain ⟨t8, ht8, h⟩ := Option.bind_eq_some_iff.mp h
  refine xr_callV (rest := []) X O (T_X12_fails l κ a0 (2 : Int32) t2.2 _ ht8) lk_X12_141 hut7 (Nat.le_of_ble_eq_true rfl) rfl hl.1 rfl (Nat.le_of_ble_eq_true rfl) dX12_takes_11 ⟨Nat.le_of_ble_eq_true rfl, Nat.le_of_ble_eq_true rfl⟩ (fun H locs O => ?_)
  refine W.eq (g2 := F0 m 14 ls []) rfl ?_
  refine lv_goto (tgt := 37) hx hb dX12_takes_14 (by decide) ?_
  exact F_X12_takes_37_ok X hr hlk a0 t8 _ h hK H locs ls O (lv_sub hl [0] rfl)
def F_X12_isIn (a0 : Int64) (a1 : Int32) (M : xM) : Option (Int32 × xM) :=
if (lg_cmp ((a0 >>> (a1.toInt64 &&& 63)) &&& (1 : Int64)) (1 : Int64)) = 0 then (
(xz (1 : Int32)).bind fun t2 =>
some (t2, M))
else (
(xz (0 : Int32)).bind fun t1 =>
some (t1, M))
set_option maxRecDepth 100000 in
set_option maxHeartbeats 4000000 in
theorem T_X12_isIn (l : Launch) (κ : xQ) (a0 : Int64) (a1 : Int32) (M : xM) (ro : Int32) (mo : xM) (h : F_X12_isIn a0 a1 M = some (ro, mo)) : xC l yX12_isIn cX12_isIn 3 (some .boolean) 2 0 0 κ [.long a0, .int a1] M (some (.int ro)) mo := by
  refine xC_of rfl (Nat.le_of_ble_eq_true rfl) fun p e s m args below meth c X hr hlk hnm H locs ls O hl => ?_
  have X : xX p s m args c cX12_isIn 3 RX12 κ := X
  have hl : lv_has ls 3 [(0, .long a0), (2, .int a1)] := hl
  have hx := X.1
  have hb := X.2.1
  obtain ⟨x, hx0⟩ : ∃ x, (ro, mo) = x := ⟨_, rfl⟩
  rw [hx0] at h
  have hK : x = (ro, mo) := hx0.symm
  unfold F_X12_isIn at h
  refine lv_lload_n hx hb dX12_isIn_0 rfl (lv_at hl 0 rfl) ?_
  refine lv_iload_n hx hb dX12_isIn_1 rfl (lv_at hl 1 rfl) ?_
  refine lv_lshr (v := (a0 >>> (a1.toInt64 &&& 63))) hx hb dX12_isIn_2 rfl ?_
  refine lv_lconst (v := (1 : Int64)) hx hb dX12_isIn_3 (by decide) ?_
  refine lv_land hx hb dX12_isIn_4 ?_
  refine lv_lconst (v := (1 : Int64)) hx hb dX12_isIn_5 (by decide) ?_
  refine W.lcmp hx hb dX12_isIn_6 ?_
  refine lv_if_ne (tgt := 14) hx hb dX12_isIn_7 (by decide) (fun hc7 => ?_) (fun hc7 => ?_)
  · rw [if_neg hc7] at h
    refine lv_iconst (v := (0 : Int32)) hx hb dX12_isIn_14 (by decide) ?_
    obtain ⟨t1, ht1, h⟩ := Option.bind_eq_some_iff.mp h
    rw [← Option.some.inj h] at hK
    have hK : (t1, M) = (ro, mo) := hK
    obtain ⟨hK1, hK2⟩ := Prod.mk.inj hK
    rw [hK1] at ht1
    rw [hK2] at O
    exact xr_zret X hr hlk O ht1 dX12_isIn_15
  rw [if_pos hc7] at h
  refine lv_iconst (v := (1 : Int32)) hx hb dX12_isIn_10 (by decide) ?_
  refine lv_goto (tgt := 15) hx hb dX12_isIn_11 (by decide) ?_
  obtain ⟨t2, ht2, h⟩ := Option.bind_eq_some_iff.mp h
  rw [← Option.some.inj h] at hK
  have hK : (t2, M) = (ro, mo) := hK
  obtain ⟨hK1, hK2⟩ := Prod.mk.inj hK
  rw [hK1] at ht2
  rw [hK2] at O
  exact xr_zret X hr hlk O ht2 dX12_isIn_15
def F_X12_wordOf_61 (M : xM) : Option (Int32 × xM) :=
some ((-1 : Int32), M)
def F_X12_wordOf (a0 : Nat) (a1 : Int32) (M : xM) : Option (Int32 × xM) :=
if a1 = (11 : Int32) then (
some ((1 : Int32), M))
else if a1 = (19 : Int32) then (
some ((0 : Int32), M))
else (
(xgI M a0 12 15).bind fun t1 =>
if t1 = (1 : Int32) then (
if a1 < (20 : Int32) then (
F_X12_wordOf_61 M)
else (
if (23 : Int32) < a1 then (
F_X12_wordOf_61 M)
else (
some ((((2 : Int32) + a1) - (20 : Int32)), M))))
else (
F_X12_wordOf_61 M))
set_option maxRecDepth 100000 in
set_option maxHeartbeats 4000000 in
theorem F_X12_wordOf_61_ok (X : xX p s m args c cX12_wordOf 2 RX12 κ) (hr : meth.sig.returnType = (some .int)) (hlk : meth.locks = false) {ro : Int32} {mo : xM} (M : xM) (x : Int32 × xM) (h : F_X12_wordOf_61 M = some x) (hK : (fun o => o = (ro, mo)) x) (H : Heap) (locs : List Loc) (ls : Array Slot) (O : xO κ s M H locs) (hl : lv_has ls 2 []) : W p l e (xRm 2 0 0) s m args below meth c H locs 0 0 (xQf below args s 0 0 κ (some (.int ro)) mo) (F0 m 61 ls []) := by
  unfold F_X12_wordOf_61 at h
  have hx := X.1
  have hb := X.2.1
  refine lv_iconst (v := (-1 : Int32)) hx hb dX12_wordOf_61 (by decide) ?_
  rw [← Option.some.inj h] at hK
  have hK : ((-1 : Int32), M) = (ro, mo) := hK
  obtain ⟨hK1, hK2⟩ := Prod.mk.inj hK
  rw [hK2] at O
  refine xr_top (w := .int ro) (by rw [hK1]) ?_
  exact xr_iret X hr hlk O dX12_wordOf_62
set_option maxRecDepth 100000 in
set_option maxHeartbeats 4000000 in
theorem T_X12_wordOf (l : Launch) (κ : xQ) (a0 : Nat) (a1 : Int32) (M : xM) (ro : Int32) (mo : xM) (h : F_X12_wordOf a0 a1 M = some (ro, mo)) : xC l yX12_wordOf cX12_wordOf 2 (some .int) 2 0 0 κ [.ref (κ.1 + a0), .int a1] M (some (.int ro)) mo := by
  refine xC_of rfl (Nat.le_of_ble_eq_true rfl) fun p e s m args below meth c X hr hlk hnm H locs ls O hl => ?_
  have X : xX p s m args c cX12_wordOf 2 RX12 κ := X
  have hl : lv_has ls 2 [(0, .ref (κ.1 + a0)), (1, .int a1)] := hl
  have hx := X.1
  have hb := X.2.1
  obtain ⟨x, hx0⟩ : ∃ x, (ro, mo) = x := ⟨_, rfl⟩
  rw [hx0] at h
  have hK : x = (ro, mo) := hx0.symm
  unfold F_X12_wordOf at h
  refine lv_iload_n hx hb dX12_wordOf_0 rfl (lv_at hl 1 rfl) ?_
  by_cases hs1_11 : a1 = (11 : Int32)
  · rw [if_pos hs1_11] at h
    refine xr_lupIn (tgt := 30) (off := 29) X dX12_wordOf_1 hs1_11 (by decide +kernel) (by decide +kernel) (by decide) ?_
    refine lv_iconst (v := (1 : Int32)) hx hb dX12_wordOf_30 (by decide) ?_
    rw [← Option.some.inj h] at hK
    have hK : ((1 : Int32), M) = (ro, mo) := hK
    obtain ⟨hK1, hK2⟩ := Prod.mk.inj hK
    rw [hK2] at O
    refine xr_top (w := .int ro) (by rw [hK1]) ?_
    exact xr_iret X hr hlk O dX12_wordOf_31
  rw [if_neg hs1_11] at h
  by_cases hs1_19 : a1 = (19 : Int32)
  · rw [if_pos hs1_19] at h
    refine xr_lupIn (tgt := 28) (off := 27) X dX12_wordOf_1 hs1_19 (by decide +kernel) (by decide +kernel) (by decide) ?_
    refine lv_iconst (v := (0 : Int32)) hx hb dX12_wordOf_28 (by decide) ?_
    rw [← Option.some.inj h] at hK
    have hK : ((0 : Int32), M) = (ro, mo) := hK
    obtain ⟨hK1, hK2⟩ := Prod.mk.inj hK
    rw [hK2] at O
    refine xr_top (w := .int ro) (by rw [hK1]) ?_
    exact xr_iret X hr hlk O dX12_wordOf_29
  rw [if_neg hs1_19] at h
  have ihs1_11 := xr_nei (k := 11) (by decide) hs1_11
  have ihs1_19 := xr_nei (k := 19) (by decide) hs1_19
  refine xr_lupOut (tgt := 32) (off := 31) X dX12_wordOf_1 (by decide +kernel) (by simp [Op.lookupswitch.offset, Ne.symm ihs1_11, Ne.symm ihs1_19]) (by decide) ?_
  refine lv_aload_n hx hb dX12_wordOf_32 rfl (lv_at hl 0 rfl) ?_
  obtain ⟨t1, ht1, h⟩ := Option.bind_eq_some_iff.mp h
  refine xr_getI X O ht1 fl_X12_149 (Or.inl rfl) dX12_wordOf_33 ?_
  refine lv_iconst (v := (1 : Int32)) hx hb dX12_wordOf_36 (by decide) ?_
  refine lv_icmp_ne (tgt := 61) hx hb dX12_wordOf_37 (by decide) (fun hc37 => ?_) (fun hc37 => ?_)
  · rw [if_neg hc37] at h
    exact F_X12_wordOf_61_ok X hr hlk  M _ h hK H locs ls O (lv_sub hl [] rfl)
  rw [if_pos hc37] at h
  refine lv_iload_n hx hb dX12_wordOf_40 rfl (lv_at hl 1 rfl) ?_
  refine lv_bipush (v := (20 : Int32)) hx hb dX12_wordOf_41 (by decide) ?_
  refine lv_icmp_lt (tgt := 61) hx hb dX12_wordOf_43 (by decide) (fun hc43 => ?_) (fun hc43 => ?_)
  · rw [if_pos hc43] at h
    exact F_X12_wordOf_61_ok X hr hlk  M _ h hK H locs ls O (lv_sub hl [] rfl)
  rw [if_neg hc43] at h
  refine lv_iload_n hx hb dX12_wordOf_46 rfl (lv_at hl 1 rfl) ?_
  refine lv_bipush (v := (23 : Int32)) hx hb dX12_wordOf_47 (by decide) ?_
  refine lv_icmp_gt (tgt := 61) hx hb dX12_wordOf_49 (by decide) (fun hc49 => ?_) (fun hc49 => ?_)
  · rw [if_pos hc49] at h
    exact F_X12_wordOf_61_ok X hr hlk  M _ h hK H locs ls O (lv_sub hl [] rfl)
  rw [if_neg hc49] at h
  refine lv_iconst (v := (2 : Int32)) hx hb dX12_wordOf_52 (by decide) ?_
  refine lv_iload_n hx hb dX12_wordOf_53 rfl (lv_at hl 1 rfl) ?_
  refine lv_iadd hx hb dX12_wordOf_54 ?_
  refine lv_bipush (v := (20 : Int32)) hx hb dX12_wordOf_55 (by decide) ?_
  refine lv_isub hx hb dX12_wordOf_57 ?_
  refine lv_goto (tgt := 62) hx hb dX12_wordOf_58 (by decide) ?_
  rw [← Option.some.inj h] at hK
  have hK : ((((2 : Int32) + a1) - (20 : Int32)), M) = (ro, mo) := hK
  obtain ⟨hK1, hK2⟩ := Prod.mk.inj hK
  rw [hK2] at O
  refine xr_top (w := .int ro) (by rw [hK1]) ?_
  exact xr_iret X hr hlk O dX12_wordOf_62
def F_X12_codes (a0 : Nat) (a1 : Int32) (M : xM) : Option (xM) :=
(xgI M a0 12 11).bind fun t1 =>
if t1 = 0 then (
(xgP M a0 12 4).bind fun t2 =>
(xgP M a0 12 4).bind fun t3 =>
(xaI M 20 t3 (519 : Int32)).bind fun t4 =>
(xsI M t2 ((520 : Int32) + t4) a1).bind fun t5 =>
(xgP t5 a0 12 4).bind fun t6 =>
(xaI t5 20 t6 (519 : Int32)).bind fun t7 =>
(xsI t5 t6 (519 : Int32) (t7 + (1 : Int32))).bind fun t8 =>
some t8)
else (
some M)
set_option maxRecDepth 100000 in
set_option maxHeartbeats 4000000 in
theorem T_X12_codes (l : Launch) (κ : xQ) (a0 : Nat) (a1 : Int32) (M : xM) (mo : xM) (h : F_X12_codes a0 a1 M = some mo) : xC l yX12_codes cX12_codes 2 none 2 0 0 κ [.ref (κ.1 + a0), .int a1] M none mo := by
  refine xC_of rfl (Nat.le_of_ble_eq_true rfl) fun p e s m args below meth c X hr hlk hnm H locs ls O hl => ?_
  have X : xX p s m args c cX12_codes 2 RX12 κ := X
  have hl : lv_has ls 2 [(0, .ref (κ.1 + a0)), (1, .int a1)] := hl
  have hx := X.1
  have hb := X.2.1
  obtain ⟨x, hx0⟩ : ∃ x, mo = x := ⟨_, rfl⟩
  rw [hx0] at h
  have hK : x = mo := hx0.symm
  unfold F_X12_codes at h
  refine lv_aload_n hx hb dX12_codes_0 rfl (lv_at hl 0 rfl) ?_
  obtain ⟨t1, ht1, h⟩ := Option.bind_eq_some_iff.mp h
  refine xr_getI X O ht1 fl_X12_129 (Or.inl rfl) dX12_codes_1 ?_
  refine lv_if_eq (tgt := 8) hx hb dX12_codes_4 (by decide) (fun hc4 => ?_) (fun hc4 => ?_)
  · rw [if_pos hc4] at h
    refine lv_aload_n hx hb dX12_codes_8 rfl (lv_at hl 0 rfl) ?_
    obtain ⟨t2, ht2, h⟩ := Option.bind_eq_some_iff.mp h
    refine xr_getP X O ht2 fl_X12_24 dX12_codes_9 ?_
    refine lv_sipush (v := (520 : Int32)) hx hb dX12_codes_12 (by decide) ?_
    refine lv_aload_n hx hb dX12_codes_15 rfl (lv_at hl 0 rfl) ?_
    obtain ⟨t3, ht3, h⟩ := Option.bind_eq_some_iff.mp h
    refine xr_getP X O ht3 fl_X12_24 dX12_codes_16 ?_
    refine lv_sipush (v := (519 : Int32)) hx hb dX12_codes_19 (by decide) ?_
    obtain ⟨t4, ht4, h⟩ := Option.bind_eq_some_iff.mp h
    refine xr_aldI X O ht4 dX12_codes_22 ?_
    refine lv_iadd hx hb dX12_codes_23 ?_
    refine lv_iload_n hx hb dX12_codes_24 rfl (lv_at hl 1 rfl) ?_
    obtain ⟨t5, ht5, h⟩ := Option.bind_eq_some_iff.mp h
    refine xr_stI X O ht5 dX12_codes_25 (fun H locs O => ?_)
    refine lv_aload_n hx hb dX12_codes_26 rfl (lv_at hl 0 rfl) ?_
    obtain ⟨t6, ht6, h⟩ := Option.bind_eq_some_iff.mp h
    refine xr_getP X O ht6 fl_X12_24 dX12_codes_27 ?_
    refine lv_sipush (v := (519 : Int32)) hx hb dX12_codes_30 (by decide) ?_
    refine lv_dup2_11 hx hb dX12_codes_33 rfl rfl ?_
    obtain ⟨t7, ht7, h⟩ := Option.bind_eq_some_iff.mp h
    refine xr_aldI X O ht7 dX12_codes_34 ?_
    refine lv_iconst (v := (1 : Int32)) hx hb dX12_codes_35 (by decide) ?_
    refine lv_iadd hx hb dX12_codes_36 ?_
    obtain ⟨t8, ht8, h⟩ := Option.bind_eq_some_iff.mp h
    refine xr_stI X O ht8 dX12_codes_37 (fun H locs O => ?_)
    rw [← Option.some.inj h] at hK
    have hK : t8 = mo := hK
    rw [hK] at O
    exact xr_vret X hr hlk O dX12_codes_38
  rw [if_neg hc4] at h
  rw [← Option.some.inj h] at hK
  have hK : M = mo := hK
  rw [hK] at O
  exact xr_vret X hr hlk O dX12_codes_7
def F_X12_goesIn_22 (v0 : Nat) (M : xM) : Option (Int32 × xM) :=
(xgI M v0 12 11).bind fun t6 =>
if t6 = 0 then (
(xz (1 : Int32)).bind fun t8 =>
some (t8, M))
else (
(xz (0 : Int32)).bind fun t7 =>
some (t7, M))
def F_X12_goesIn_11 (v0 : Nat) (M : xM) : Option (Int32 × xM) :=
(xgI M v0 12 11).bind fun t3 =>
if t3 = 0 then (
(xck M v0 12).bind fun _ =>
(F_X12_next v0 M).bind fun t5 =>
F_X12_goesIn_22 v0 t5)
else (
F_X12_goesIn_22 v0 M)
def F_X12_goesIn (a0 : Nat) (a1 : Int32) (M : xM) : Option (Int32 × xM) :=
if a1 = (6 : Int32) then (
(xck M a0 12).bind fun _ =>
(F_X12_fails a0 (4 : Int32) M).bind fun t2 =>
F_X12_goesIn_11 a0 t2)
else (
F_X12_goesIn_11 a0 M)
set_option maxRecDepth 100000 in
set_option maxHeartbeats 4000000 in
theorem F_X12_goesIn_22_ok (X : xX p s m args c cX12_goesIn 2 RX12 κ) (hr : meth.sig.returnType = (some .boolean)) (hlk : meth.locks = false) {ro : Int32} {mo : xM} (v0 : Nat) (M : xM) (x : Int32 × xM) (h : F_X12_goesIn_22 v0 M = some x) (hK : (fun o => o = (ro, mo)) x) (H : Heap) (locs : List Loc) (ls : Array Slot) (O : xO κ s M H locs) (hl : lv_has ls 2 [(0, .ref (κ.1 + v0))]) : W p l e (xRm 8 0 0) s m args below meth c H locs 0 0 (xQf below args s 0 0 κ (some (.int ro)) mo) (F0 m 22 ls []) := by
  unfold F_X12_goesIn_22 at h
  have hx := X.1
  have hb := X.2.1
  refine lv_aload_n hx hb dX12_goesIn_22 rfl (lv_at hl 0 rfl) ?_
  obtain ⟨t6, ht6, h⟩ := Option.bind_eq_some_iff.mp h
  refine xr_getI X O ht6 fl_X12_129 (Or.inl rfl) dX12_goesIn_23 ?_
  refine lv_if_ne (tgt := 33) hx hb dX12_goesIn_26 (by decide) (fun hc26 => ?_) (fun hc26 => ?_)
  · rw [if_neg hc26] at h
    refine lv_iconst (v := (0 : Int32)) hx hb dX12_goesIn_33 (by decide) ?_
    obtain ⟨t7, ht7, h⟩ := Option.bind_eq_some_iff.mp h
    rw [← Option.some.inj h] at hK
    have hK : (t7, M) = (ro, mo) := hK
    obtain ⟨hK1, hK2⟩ := Prod.mk.inj hK
    rw [hK1] at ht7
    rw [hK2] at O
    exact xr_zret X hr hlk O ht7 dX12_goesIn_34
  rw [if_pos hc26] at h
  refine lv_iconst (v := (1 : Int32)) hx hb dX12_goesIn_29 (by decide) ?_
  refine lv_goto (tgt := 34) hx hb dX12_goesIn_30 (by decide) ?_
  obtain ⟨t8, ht8, h⟩ := Option.bind_eq_some_iff.mp h
  rw [← Option.some.inj h] at hK
  have hK : (t8, M) = (ro, mo) := hK
  obtain ⟨hK1, hK2⟩ := Prod.mk.inj hK
  rw [hK1] at ht8
  rw [hK2] at O
  exact xr_zret X hr hlk O ht8 dX12_goesIn_34
set_option maxRecDepth 100000 in
set_option maxHeartbeats 4000000 in
theorem F_X12_goesIn_11_ok (X : xX p s m args c cX12_goesIn 2 RX12 κ) (hr : meth.sig.returnType = (some .boolean)) (hlk : meth.locks = false) {ro : Int32} {mo : xM} (v0 : Nat) (M : xM) (x : Int32 × xM) (h : F_X12_goesIn_11 v0 M = some x) (hK : (fun o => o = (ro, mo)) x) (H : Heap) (locs : List Loc) (ls : Array Slot) (O : xO κ s M H locs) (hl : lv_has ls 2 [(0, .ref (κ.1 + v0))]) : W p l e (xRm 8 0 0) s m args below meth c H locs 0 0 (xQf below args s 0 0 κ (some (.int ro)) mo) (F0 m 11 ls []) := by
  unfold F_X12_goesIn_11 at h
  have hx := X.1
  have hb := X.2.1
  refine lv_aload_n hx hb dX12_goesIn_11 rfl (lv_at hl 0 rfl) ?_
  obtain ⟨t3, ht3, h⟩ := Option.bind_eq_some_iff.mp h
  refine xr_getI X O ht3 fl_X12_129 (Or.inl rfl) dX12_goesIn_12 ?_
  refine lv_if_ne (tgt := 22) hx hb dX12_goesIn_15 (by decide) (fun hc15 => ?_) (fun hc15 => ?_)
  · rw [if_neg hc15] at h
    exact F_X12_goesIn_22_ok X hr hlk v0 M _ h hK H locs ls O (lv_sub hl [0] rfl)
  rw [if_pos hc15] at h
  refine lv_aload_n hx hb dX12_goesIn_18 rfl (lv_at hl 0 rfl) ?_
  obtain ⟨_, hut4, h⟩ := Option.bind_eq_some_iff.mp h
  obtain ⟨t5, ht5, h⟩ := Option.bind_eq_some_iff.mp h
  refine xr_callV (rest := []) X O (T_X12_next l κ v0 M _ ht5) lk_X12_138 hut4 (Nat.le_of_ble_eq_true rfl) rfl hl.1 rfl (Nat.le_of_ble_eq_true rfl) dX12_goesIn_19 ⟨Nat.le_of_ble_eq_true rfl, Nat.le_of_ble_eq_true rfl⟩ (fun H locs O => ?_)
  refine W.eq (g2 := F0 m 22 ls []) rfl ?_
  exact F_X12_goesIn_22_ok X hr hlk v0 t5 _ h hK H locs ls O (lv_sub hl [0] rfl)
set_option maxRecDepth 100000 in
set_option maxHeartbeats 4000000 in
theorem T_X12_goesIn (l : Launch) (κ : xQ) (a0 : Nat) (a1 : Int32) (M : xM) (ro : Int32) (mo : xM) (h : F_X12_goesIn a0 a1 M = some (ro, mo)) : xC l yX12_goesIn cX12_goesIn 2 (some .boolean) 8 0 0 κ [.ref (κ.1 + a0), .int a1] M (some (.int ro)) mo := by
  refine xC_of rfl (Nat.le_of_ble_eq_true rfl) fun p e s m args below meth c X hr hlk hnm H locs ls O hl => ?_
  have X : xX p s m args c cX12_goesIn 2 RX12 κ := X
  have hl : lv_has ls 2 [(0, .ref (κ.1 + a0)), (1, .int a1)] := hl
  have hx := X.1
  have hb := X.2.1
  obtain ⟨x, hx0⟩ : ∃ x, (ro, mo) = x := ⟨_, rfl⟩
  rw [hx0] at h
  have hK : x = (ro, mo) := hx0.symm
  unfold F_X12_goesIn at h
  refine lv_iload_n hx hb dX12_goesIn_0 rfl (lv_at hl 1 rfl) ?_
  refine lv_bipush (v := (6 : Int32)) hx hb dX12_goesIn_1 (by decide) ?_
  refine lv_icmp_ne (tgt := 11) hx hb dX12_goesIn_3 (by decide) (fun hc3 => ?_) (fun hc3 => ?_)
  · rw [if_neg hc3] at h
    exact F_X12_goesIn_11_ok X hr hlk a0 M _ h hK H locs ls O (lv_sub hl [0] rfl)
  rw [if_pos hc3] at h
  refine lv_aload_n hx hb dX12_goesIn_6 rfl (lv_at hl 0 rfl) ?_
  refine lv_iconst (v := (4 : Int32)) hx hb dX12_goesIn_7 (by decide) ?_
  obtain ⟨_, hut1, h⟩ := Option.bind_eq_some_iff.mp h
  obtain ⟨t2, ht2, h⟩ := Option.bind_eq_some_iff.mp h
  refine xr_callV (rest := []) X O (T_X12_fails l κ a0 (4 : Int32) M _ ht2) lk_X12_141 hut1 (Nat.le_of_ble_eq_true rfl) rfl hl.1 rfl (Nat.le_of_ble_eq_true rfl) dX12_goesIn_8 ⟨Nat.le_of_ble_eq_true rfl, Nat.le_of_ble_eq_true rfl⟩ (fun H locs O => ?_)
  refine W.eq (g2 := F0 m 11 ls []) rfl ?_
  exact F_X12_goesIn_11_ok X hr hlk a0 t2 _ h hK H locs ls O (lv_sub hl [0] rfl)
def F_X12_readAtom_66 (rc : Nat → Nat → Int32 → xM → Option (xM)) (v0 : Nat) (v1 : Int32) (M : xM) : Option (xM) :=
(xck M v0 12).bind fun _ =>
(F_X12_is v0 (37 : Int32) M).bind fun t20 =>
if t20.1 = 0 then (
(xck t20.2 v0 12).bind fun _ =>
(F_X12_is v0 (15 : Int32) t20.2).bind fun t22 =>
if t22.1 = 0 then (
(xck t22.2 v0 12).bind fun _ =>
(F_X12_fails v0 (2 : Int32) t22.2).bind fun t24 =>
some t24)
else (
(xck t22.2 v0 12).bind fun _ =>
(rc 2 v0 v1 t22.2).bind fun t26 =>
some t26))
else (
(xck t20.2 v0 12).bind fun _ =>
(F_X12_goesIn v0 v1 t20.2).bind fun t28 =>
if t28.1 = 0 then (
some t28.2)
else (
(xck t28.2 v0 12).bind fun _ =>
(rc 3 v0 (v1 + (1 : Int32)) t28.2).bind fun t30 =>
(xck t30 v0 12).bind fun _ =>
(F_X12_eats v0 (38 : Int32) t30).bind fun t32 =>
if t32.1 = 0 then (
(xck t32.2 v0 12).bind fun _ =>
(F_X12_fails v0 (2 : Int32) t32.2).bind fun t34 =>
some t34)
else (
some t32.2)))
def F_X12_readAtom (rc : Nat → Nat → Int32 → xM → Option (xM)) (a0 : Nat) (a1 : Int32) (M : xM) : Option (xM) :=
(xck M a0 12).bind fun _ =>
(F_X12_is a0 (29 : Int32) M).bind fun t2 =>
if t2.1 = 0 then (
(xgI t2.2 a0 12 11).bind fun t3 =>
if t3 = 0 then (
(xgI t2.2 a0 12 9).bind fun t4 =>
(xck t2.2 a0 12).bind fun _ =>
(F_X12_wordOf a0 t4 t2.2).bind fun t6 =>
if t6.1 = (-1 : Int32) then (
F_X12_readAtom_66 rc a0 a1 t6.2)
else (
(xgI t6.2 a0 12 9).bind fun t7 =>
(xck t6.2 a0 12).bind fun _ =>
(F_X12_wordOf a0 t7 t6.2).bind fun t9 =>
(xck t9.2 a0 12).bind fun _ =>
(F_X12_codes a0 ((1000 : Int32) + t9.1) t9.2).bind fun t11 =>
(xck t11 a0 12).bind fun _ =>
(F_X12_next a0 t11).bind fun t13 =>
some t13))
else (
F_X12_readAtom_66 rc a0 a1 t2.2))
else (
(xgI t2.2 a0 12 10).bind fun t14 =>
(xck t2.2 a0 12).bind fun _ =>
(F_X12_codes a0 t14 t2.2).bind fun t16 =>
(xck t16 a0 12).bind fun _ =>
(F_X12_next a0 t16).bind fun t18 =>
some t18)
def F_X12_readBoth_29 (rc : Nat → Nat → Int32 → xM → Option (xM)) (M : xM) : Option (xM) :=
some M
def F_X12_readBoth_5b (rc : Nat → Nat → Int32 → xM → Option (xM)) (v0 : Nat) (v1 : Int32) : (xM) → Option ((xM) ⊕ (xM)) := fun M =>
(xck M v0 12).bind fun _ =>
(F_X12_eats v0 (24 : Int32) M).bind fun t4 =>
if t4.1 = 0 then (
(F_X12_readBoth_29 rc t4.2).map Sum.inr)
else (
(xck t4.2 v0 12).bind fun _ =>
(rc 6 v0 v1 t4.2).bind fun t6 =>
(xck t6 v0 12).bind fun _ =>
(F_X12_codes v0 (3007 : Int32) t6).bind fun t8 =>
some (.inl t8))
def F_X12_readBoth_5 (rc : Nat → Nat → Int32 → xM → Option (xM)) (v0 : Nat) (v1 : Int32) (M : xM) : Option (xM) := xit (F_X12_readBoth_5b rc v0 v1) xFU M
def F_X12_readBoth (rc : Nat → Nat → Int32 → xM → Option (xM)) (a0 : Nat) (a1 : Int32) (M : xM) : Option (xM) :=
(xck M a0 12).bind fun _ =>
(rc 6 a0 a1 M).bind fun t2 =>
F_X12_readBoth_5 rc a0 a1 t2
def F_X12_readIf_72 (rc : Nat → Nat → Int32 → xM → Option (xM)) (v0 : Nat) (M : xM) : Option (xM) :=
(xck M v0 12).bind fun _ =>
(F_X12_codes v0 (3009 : Int32) M).bind fun t22 =>
some t22
def F_X12_readIf_51 (rc : Nat → Nat → Int32 → xM → Option (xM)) (v0 : Nat) (v1 : Int32) (M : xM) : Option (xM) :=
(xck M v0 12).bind fun _ =>
(rc 3 v0 (v1 + (1 : Int32)) M).bind fun t16 =>
(xck t16 v0 12).bind fun _ =>
(F_X12_eats v0 (18 : Int32) t16).bind fun t18 =>
if t18.1 = 0 then (
(xck t18.2 v0 12).bind fun _ =>
(F_X12_fails v0 (2 : Int32) t18.2).bind fun t20 =>
F_X12_readIf_72 rc v0 t20)
else (
F_X12_readIf_72 rc v0 t18.2)
def F_X12_readIf_30 (rc : Nat → Nat → Int32 → xM → Option (xM)) (v0 : Nat) (v1 : Int32) (M : xM) : Option (xM) :=
(xck M v0 12).bind fun _ =>
(rc 3 v0 (v1 + (1 : Int32)) M).bind fun t10 =>
(xck t10 v0 12).bind fun _ =>
(F_X12_eats v0 (17 : Int32) t10).bind fun t12 =>
if t12.1 = 0 then (
(xck t12.2 v0 12).bind fun _ =>
(F_X12_fails v0 (2 : Int32) t12.2).bind fun t14 =>
F_X12_readIf_51 rc v0 v1 t14)
else (
F_X12_readIf_51 rc v0 v1 t12.2)
def F_X12_readIf (rc : Nat → Nat → Int32 → xM → Option (xM)) (a0 : Nat) (a1 : Int32) (M : xM) : Option (xM) :=
(xck M a0 12).bind fun _ =>
(F_X12_goesIn a0 a1 M).bind fun t2 =>
if t2.1 = 0 then (
some t2.2)
else (
(xck t2.2 a0 12).bind fun _ =>
(rc 5 a0 (a1 + (1 : Int32)) t2.2).bind fun t4 =>
(xck t4 a0 12).bind fun _ =>
(F_X12_eats a0 (16 : Int32) t4).bind fun t6 =>
if t6.1 = 0 then (
(xck t6.2 a0 12).bind fun _ =>
(F_X12_fails a0 (2 : Int32) t6.2).bind fun t8 =>
F_X12_readIf_30 rc a0 a1 t8)
else (
F_X12_readIf_30 rc a0 a1 t6.2))
def F_X12_readSum_41 (rc : Nat → Nat → Int32 → xM → Option (xM)) (v0 : Nat) (v1 : Int32) (s0 : Int32) (M : xM) : Option ((xM) ⊕ (xM)) :=
(xck M v0 12).bind fun _ =>
(F_X12_next v0 M).bind fun t9 =>
(xck t9 v0 12).bind fun _ =>
(rc 4 v0 v1 t9).bind fun t11 =>
(xck t11 v0 12).bind fun _ =>
(F_X12_codes v0 s0 t11).bind fun t13 =>
some (.inl t13)
def F_X12_readSum_23 (rc : Nat → Nat → Int32 → xM → Option (xM)) (v0 : Nat) (v1 : Int32) (M : xM) : Option ((xM) ⊕ (xM)) :=
(xgI M v0 12 9).bind fun t7 =>
if t7 = (34 : Int32) then (
F_X12_readSum_41 rc v0 v1 (3000 : Int32) M)
else (
F_X12_readSum_41 rc v0 v1 (3001 : Int32) M)
def F_X12_readSum_59 (rc : Nat → Nat → Int32 → xM → Option (xM)) (M : xM) : Option (xM) :=
some M
def F_X12_readSum_5b (rc : Nat → Nat → Int32 → xM → Option (xM)) (v0 : Nat) (v1 : Int32) : (xM) → Option ((xM) ⊕ (xM)) := fun M =>
(xck M v0 12).bind fun _ =>
(F_X12_is v0 (34 : Int32) M).bind fun t4 =>
if t4.1 = 0 then (
(xck t4.2 v0 12).bind fun _ =>
(F_X12_is v0 (35 : Int32) t4.2).bind fun t6 =>
if t6.1 = 0 then (
(F_X12_readSum_59 rc t6.2).map Sum.inr)
else (
F_X12_readSum_23 rc v0 v1 t6.2))
else (
F_X12_readSum_23 rc v0 v1 t4.2)
def F_X12_readSum_5 (rc : Nat → Nat → Int32 → xM → Option (xM)) (v0 : Nat) (v1 : Int32) (M : xM) : Option (xM) := xit (F_X12_readSum_5b rc v0 v1) xFU M
def F_X12_readSum (rc : Nat → Nat → Int32 → xM → Option (xM)) (a0 : Nat) (a1 : Int32) (M : xM) : Option (xM) :=
(xck M a0 12).bind fun _ =>
(rc 4 a0 a1 M).bind fun t2 =>
F_X12_readSum_5 rc a0 a1 t2
def F_X12_readTerm_29 (rc : Nat → Nat → Int32 → xM → Option (xM)) (M : xM) : Option (xM) :=
some M
def F_X12_readTerm_5b (rc : Nat → Nat → Int32 → xM → Option (xM)) (v0 : Nat) (v1 : Int32) : (xM) → Option ((xM) ⊕ (xM)) := fun M =>
(xck M v0 12).bind fun _ =>
(F_X12_eats v0 (36 : Int32) M).bind fun t4 =>
if t4.1 = 0 then (
(F_X12_readTerm_29 rc t4.2).map Sum.inr)
else (
(xck t4.2 v0 12).bind fun _ =>
(rc 0 v0 v1 t4.2).bind fun t6 =>
(xck t6 v0 12).bind fun _ =>
(F_X12_codes v0 (3002 : Int32) t6).bind fun t8 =>
some (.inl t8))
def F_X12_readTerm_5 (rc : Nat → Nat → Int32 → xM → Option (xM)) (v0 : Nat) (v1 : Int32) (M : xM) : Option (xM) := xit (F_X12_readTerm_5b rc v0 v1) xFU M
def F_X12_readTerm (rc : Nat → Nat → Int32 → xM → Option (xM)) (a0 : Nat) (a1 : Int32) (M : xM) : Option (xM) :=
(xck M a0 12).bind fun _ =>
(rc 0 a0 a1 M).bind fun t2 =>
F_X12_readTerm_5 rc a0 a1 t2
def F_X12_readTruth_29 (rc : Nat → Nat → Int32 → xM → Option (xM)) (M : xM) : Option (xM) :=
some M
def F_X12_readTruth_5b (rc : Nat → Nat → Int32 → xM → Option (xM)) (v0 : Nat) (v1 : Int32) : (xM) → Option ((xM) ⊕ (xM)) := fun M =>
(xck M v0 12).bind fun _ =>
(F_X12_eats v0 (25 : Int32) M).bind fun t4 =>
if t4.1 = 0 then (
(F_X12_readTruth_29 rc t4.2).map Sum.inr)
else (
(xck t4.2 v0 12).bind fun _ =>
(rc 1 v0 v1 t4.2).bind fun t6 =>
(xck t6 v0 12).bind fun _ =>
(F_X12_codes v0 (3008 : Int32) t6).bind fun t8 =>
some (.inl t8))
def F_X12_readTruth_5 (rc : Nat → Nat → Int32 → xM → Option (xM)) (v0 : Nat) (v1 : Int32) (M : xM) : Option (xM) := xit (F_X12_readTruth_5b rc v0 v1) xFU M
def F_X12_readTruth (rc : Nat → Nat → Int32 → xM → Option (xM)) (a0 : Nat) (a1 : Int32) (M : xM) : Option (xM) :=
(xck M a0 12).bind fun _ =>
(rc 1 a0 a1 M).bind fun t2 =>
F_X12_readTruth_5 rc a0 a1 t2
def F_X12_readUnit_151 (rc : Nat → Nat → Int32 → xM → Option (xM)) (v0 : Nat) (v1 : Int32) (v2 : Int32) (M : xM) : Option (xM) :=
(xck M v0 12).bind fun _ =>
(rc 3 v0 v1 M).bind fun t36 =>
(xck t36 v0 12).bind fun _ =>
(F_X12_codes v0 v2 t36).bind fun t38 =>
some t38
def F_X12_readUnit_139 (rc : Nat → Nat → Int32 → xM → Option (xM)) (v0 : Nat) (v1 : Int32) (v2 : Int32) (M : xM) : Option (xM) :=
(xck M v0 12).bind fun _ =>
(F_X12_next v0 M).bind fun t34 =>
F_X12_readUnit_151 rc v0 v1 v2 t34
def F_X12_readUnit_111 (rc : Nat → Nat → Int32 → xM → Option (xM)) (v0 : Nat) (v1 : Int32) (s0 : Int32) (M : xM) : Option (xM) :=
(xck M v0 12).bind fun _ =>
(F_X12_is v0 (41 : Int32) M).bind fun t26 =>
if t26.1 = 0 then (
(xck t26.2 v0 12).bind fun _ =>
(F_X12_is v0 (42 : Int32) t26.2).bind fun t28 =>
if t28.1 = 0 then (
(xck t28.2 v0 12).bind fun _ =>
(F_X12_is v0 (43 : Int32) t28.2).bind fun t30 =>
if t30.1 = 0 then (
(xck t30.2 v0 12).bind fun _ =>
(F_X12_fails v0 (2 : Int32) t30.2).bind fun t32 =>
F_X12_readUnit_151 rc v0 v1 s0 t32)
else (
F_X12_readUnit_139 rc v0 v1 s0 t30.2))
else (
F_X12_readUnit_139 rc v0 v1 s0 t28.2))
else (
F_X12_readUnit_139 rc v0 v1 s0 t26.2)
def F_X12_readUnit (rc : Nat → Nat → Int32 → xM → Option (xM)) (a0 : Nat) (a1 : Int32) (M : xM) : Option (xM) :=
(xck M a0 12).bind fun _ =>
(F_X12_is a0 (26 : Int32) M).bind fun t2 =>
if t2.1 = 0 then (
(xck t2.2 a0 12).bind fun _ =>
(F_X12_is a0 (39 : Int32) t2.2).bind fun t4 =>
if t4.1 = 0 then (
(xck t4.2 a0 12).bind fun _ =>
(rc 3 a0 a1 t4.2).bind fun t6 =>
(xck t6 a0 12).bind fun _ =>
(F_X12_is a0 (41 : Int32) t6).bind fun t8 =>
if t8.1 = 0 then (
(xck t8.2 a0 12).bind fun _ =>
(F_X12_is a0 (42 : Int32) t8.2).bind fun t10 =>
if t10.1 = 0 then (
F_X12_readUnit_111 rc a0 a1 (3005 : Int32) t10.2)
else (
F_X12_readUnit_111 rc a0 a1 (3004 : Int32) t10.2))
else (
F_X12_readUnit_111 rc a0 a1 (3003 : Int32) t8.2))
else (
(xck t4.2 a0 12).bind fun _ =>
(F_X12_goesIn a0 a1 t4.2).bind fun t12 =>
if t12.1 = 0 then (
some t12.2)
else (
(xck t12.2 a0 12).bind fun _ =>
(rc 5 a0 (a1 + (1 : Int32)) t12.2).bind fun t14 =>
(xck t14 a0 12).bind fun _ =>
(F_X12_eats a0 (40 : Int32) t14).bind fun t16 =>
if t16.1 = 0 then (
(xck t16.2 a0 12).bind fun _ =>
(F_X12_fails a0 (2 : Int32) t16.2).bind fun t18 =>
some t18)
else (
some t16.2))))
else (
(xck t2.2 a0 12).bind fun _ =>
(F_X12_goesIn a0 a1 t2.2).bind fun t20 =>
if t20.1 = 0 then (
some t20.2)
else (
(xck t20.2 a0 12).bind fun _ =>
(rc 6 a0 (a1 + (1 : Int32)) t20.2).bind fun t22 =>
(xck t22 a0 12).bind fun _ =>
(F_X12_codes a0 (3006 : Int32) t22).bind fun t24 =>
some t24))
def R_X12_readAtom : Nat → Nat → Nat → Int32 → xM → Option (xM)
  | 0 => fun _ _ _ _ => none
  | n + 1 => fun q => match q with
    | 0 => F_X12_readAtom (R_X12_readAtom n)
    | 1 => F_X12_readBoth (R_X12_readAtom n)
    | 2 => F_X12_readIf (R_X12_readAtom n)
    | 3 => F_X12_readSum (R_X12_readAtom n)
    | 4 => F_X12_readTerm (R_X12_readAtom n)
    | 5 => F_X12_readTruth (R_X12_readAtom n)
    | _ => F_X12_readUnit (R_X12_readAtom n)
def Fx_X12_readAtom (a0 : Nat) (a1 : Int32) (M : xM) : Option (xM) := R_X12_readAtom 60 0 a0 a1 M
def Fx_X12_readBoth (a0 : Nat) (a1 : Int32) (M : xM) : Option (xM) := R_X12_readAtom 60 1 a0 a1 M
def Fx_X12_readIf (a0 : Nat) (a1 : Int32) (M : xM) : Option (xM) := R_X12_readAtom 60 2 a0 a1 M
def Fx_X12_readSum (a0 : Nat) (a1 : Int32) (M : xM) : Option (xM) := R_X12_readAtom 60 3 a0 a1 M
def Fx_X12_readTerm (a0 : Nat) (a1 : Int32) (M : xM) : Option (xM) := R_X12_readAtom 60 4 a0 a1 M
def Fx_X12_readTruth (a0 : Nat) (a1 : Int32) (M : xM) : Option (xM) := R_X12_readAtom 60 5 a0 a1 M
def Fx_X12_readUnit (a0 : Nat) (a1 : Int32) (M : xM) : Option (xM) := R_X12_readAtom 60 6 a0 a1 M
set_option maxRecDepth 100000 in
set_option maxHeartbeats 4000000 in
theorem F_X12_readAtom_66_ok {dd : Nat} (hdd : 8 ≤ dd) {rc : Nat → Nat → Int32 → xM → Option (xM)} (hrc0 : ∀ (κ : xQ) (a0 : Nat) (a1 : Int32) (M mo : xM), rc 0 a0 a1 M = some mo → xC l yX12_readAtom cX12_readAtom 2 none dd 0 0 κ [.ref (κ.1 + a0), .int a1] M none mo) (hrc1 : ∀ (κ : xQ) (a0 : Nat) (a1 : Int32) (M mo : xM), rc 1 a0 a1 M = some mo → xC l yX12_readBoth cX12_readBoth 2 none dd 0 0 κ [.ref (κ.1 + a0), .int a1] M none mo) (hrc2 : ∀ (κ : xQ) (a0 : Nat) (a1 : Int32) (M mo : xM), rc 2 a0 a1 M = some mo → xC l yX12_readIf cX12_readIf 2 none dd 0 0 κ [.ref (κ.1 + a0), .int a1] M none mo) (hrc3 : ∀ (κ : xQ) (a0 : Nat) (a1 : Int32) (M mo : xM), rc 3 a0 a1 M = some mo → xC l yX12_readSum cX12_readSum 3 none dd 0 0 κ [.ref (κ.1 + a0), .int a1] M none mo) (hrc4 : ∀ (κ : xQ) (a0 : Nat) (a1 : Int32) (M mo : xM), rc 4 a0 a1 M = some mo → xC l yX12_readTerm cX12_readTerm 2 none dd 0 0 κ [.ref (κ.1 + a0), .int a1] M none mo) (hrc5 : ∀ (κ : xQ) (a0 : Nat) (a1 : Int32) (M mo : xM), rc 5 a0 a1 M = some mo → xC l yX12_readTruth cX12_readTruth 2 none dd 0 0 κ [.ref (κ.1 + a0), .int a1] M none mo) (hrc6 : ∀ (κ : xQ) (a0 : Nat) (a1 : Int32) (M mo : xM), rc 6 a0 a1 M = some mo → xC l yX12_readUnit cX12_readUnit 3 none dd 0 0 κ [.ref (κ.1 + a0), .int a1] M none mo) (X : xX p s m args c cX12_readAtom 2 RX12 κ) (hr : meth.sig.returnType = none) (hlk : meth.locks = false) {mo : xM} (v0 : Nat) (v1 : Int32) (M : xM) (x : xM) (h : F_X12_readAtom_66 rc v0 v1 M = some x) (hK : (fun o => o = mo) x) (H : Heap) (locs : List Loc) (ls : Array Slot) (O : xO κ s M H locs) (hl : lv_has ls 2 [(0, .ref (κ.1 + v0)), (1, .int v1)]) : W p l e (xRm (dd + 1) 0 0) s m args below meth c H locs 0 0 (xQf below args s 0 0 κ none mo) (F0 m 66 ls []) := by
  unfold F_X12_readAtom_66 at h
  have hx := X.1
  have hb := X.2.1
  refine lv_aload_n hx hb dX12_readAtom_66 rfl (lv_at hl 0 rfl) ?_
  refine lv_bipush (v := (37 : Int32)) hx hb dX12_readAtom_67 (by decide) ?_
  obtain ⟨_, hut19, h⟩ := Option.bind_eq_some_iff.mp h
  obtain ⟨t20, ht20, h⟩ := Option.bind_eq_some_iff.mp h
  refine xr_callV (rest := []) X O (T_X12_is l κ v0 (37 : Int32) M _ _ ht20) lk_X12_135 hut19 (by omega) rfl hl.1 rfl (Nat.le_of_ble_eq_true rfl) dX12_readAtom_69 ⟨Nat.le_of_ble_eq_true rfl, Nat.le_of_ble_eq_true rfl⟩ (fun H locs O => ?_)
  refine W.eq (g2 := F0 m 72 ls [.int t20.1]) rfl ?_
  refine lv_if_eq (tgt := 108) hx hb dX12_readAtom_72 (by decide) (fun hc72 => ?_) (fun hc72 => ?_)
  · rw [if_pos hc72] at h
    refine lv_aload_n hx hb dX12_readAtom_108 rfl (lv_at hl 0 rfl) ?_
    refine lv_bipush (v := (15 : Int32)) hx hb dX12_readAtom_109 (by decide) ?_
    obtain ⟨_, hut21, h⟩ := Option.bind_eq_some_iff.mp h
    obtain ⟨t22, ht22, h⟩ := Option.bind_eq_some_iff.mp h
    refine xr_callV (rest := []) X O (T_X12_is l κ v0 (15 : Int32) t20.2 _ _ ht22) lk_X12_135 hut21 (by omega) rfl hl.1 rfl (Nat.le_of_ble_eq_true rfl) dX12_readAtom_111 ⟨Nat.le_of_ble_eq_true rfl, Nat.le_of_ble_eq_true rfl⟩ (fun H locs O => ?_)
    refine W.eq (g2 := F0 m 114 ls [.int t22.1]) rfl ?_
    refine lv_if_eq (tgt := 125) hx hb dX12_readAtom_114 (by decide) (fun hc114 => ?_) (fun hc114 => ?_)
    · rw [if_pos hc114] at h
      refine lv_aload_n hx hb dX12_readAtom_125 rfl (lv_at hl 0 rfl) ?_
      refine lv_iconst (v := (2 : Int32)) hx hb dX12_readAtom_126 (by decide) ?_
      obtain ⟨_, hut23, h⟩ := Option.bind_eq_some_iff.mp h
      obtain ⟨t24, ht24, h⟩ := Option.bind_eq_some_iff.mp h
      refine xr_callV (rest := []) X O (T_X12_fails l κ v0 (2 : Int32) t22.2 _ ht24) lk_X12_141 hut23 (by omega) rfl hl.1 rfl (Nat.le_of_ble_eq_true rfl) dX12_readAtom_127 ⟨Nat.le_of_ble_eq_true rfl, Nat.le_of_ble_eq_true rfl⟩ (fun H locs O => ?_)
      refine W.eq (g2 := F0 m 130 ls []) rfl ?_
      rw [← Option.some.inj h] at hK
      have hK : t24 = mo := hK
      rw [hK] at O
      exact xr_vret X hr hlk O dX12_readAtom_130
    rw [if_neg hc114] at h
    refine lv_aload_n hx hb dX12_readAtom_117 rfl (lv_at hl 0 rfl) ?_
    refine lv_iload_n hx hb dX12_readAtom_118 rfl (lv_at hl 1 rfl) ?_
    obtain ⟨_, hut25, h⟩ := Option.bind_eq_some_iff.mp h
    obtain ⟨t26, ht26, h⟩ := Option.bind_eq_some_iff.mp h
    refine xr_callV (rest := []) X O (hrc2 κ v0 v1 t22.2 _ ht26) lk_X12_167 hut25 (Nat.le_refl _) rfl hl.1 rfl (Nat.le_of_ble_eq_true rfl) dX12_readAtom_119 ⟨Nat.le_of_ble_eq_true rfl, Nat.le_of_ble_eq_true rfl⟩ (fun H locs O => ?_)
    refine W.eq (g2 := F0 m 122 ls []) rfl ?_
    refine lv_goto (tgt := 130) hx hb dX12_readAtom_122 (by decide) ?_
    rw [← Option.some.inj h] at hK
    have hK : t26 = mo := hK
    rw [hK] at O
    exact xr_vret X hr hlk O dX12_readAtom_130
  rw [if_neg hc72] at h
  refine lv_aload_n hx hb dX12_readAtom_75 rfl (lv_at hl 0 rfl) ?_
  refine lv_iload_n hx hb dX12_readAtom_76 rfl (lv_at hl 1 rfl) ?_
  obtain ⟨_, hut27, h⟩ := Option.bind_eq_some_iff.mp h
  obtain ⟨t28, ht28, h⟩ := Option.bind_eq_some_iff.mp h
  refine xr_callV (rest := []) X O (T_X12_goesIn l κ v0 v1 t20.2 _ _ ht28) lk_X12_158 hut27 (by omega) rfl hl.1 rfl (Nat.le_of_ble_eq_true rfl) dX12_readAtom_77 ⟨Nat.le_of_ble_eq_true rfl, Nat.le_of_ble_eq_true rfl⟩ (fun H locs O => ?_)
  refine W.eq (g2 := F0 m 80 ls [.int t28.1]) rfl ?_
  refine lv_if_ne (tgt := 84) hx hb dX12_readAtom_80 (by decide) (fun hc80 => ?_) (fun hc80 => ?_)
  · rw [if_neg hc80] at h
    refine lv_aload_n hx hb dX12_readAtom_84 rfl (lv_at hl 0 rfl) ?_
    refine lv_iload_n hx hb dX12_readAtom_85 rfl (lv_at hl 1 rfl) ?_
    refine lv_iconst (v := (1 : Int32)) hx hb dX12_readAtom_86 (by decide) ?_
    refine lv_iadd hx hb dX12_readAtom_87 ?_
    obtain ⟨_, hut29, h⟩ := Option.bind_eq_some_iff.mp h
    obtain ⟨t30, ht30, h⟩ := Option.bind_eq_some_iff.mp h
    refine xr_callV (rest := []) X O (hrc3 κ v0 (v1 + (1 : Int32)) t28.2 _ ht30) lk_X12_161 hut29 (Nat.le_refl _) rfl hl.1 rfl (Nat.le_of_ble_eq_true rfl) dX12_readAtom_88 ⟨Nat.le_of_ble_eq_true rfl, Nat.le_of_ble_eq_true rfl⟩ (fun H locs O => ?_)
    refine W.eq (g2 := F0 m 91 ls []) rfl ?_
    refine lv_aload_n hx hb dX12_readAtom_91 rfl (lv_at hl 0 rfl) ?_
    refine lv_bipush (v := (38 : Int32)) hx hb dX12_readAtom_92 (by decide) ?_
    obtain ⟨_, hut31, h⟩ := Option.bind_eq_some_iff.mp h
    obtain ⟨t32, ht32, h⟩ := Option.bind_eq_some_iff.mp h
    refine xr_callV (rest := []) X O (T_X12_eats l κ v0 (38 : Int32) t30 _ _ ht32) lk_X12_164 hut31 (by omega) rfl hl.1 rfl (Nat.le_of_ble_eq_true rfl) dX12_readAtom_94 ⟨Nat.le_of_ble_eq_true rfl, Nat.le_of_ble_eq_true rfl⟩ (fun H locs O => ?_)
    refine W.eq (g2 := F0 m 97 ls [.int t32.1]) rfl ?_
    refine lv_if_ne (tgt := 130) hx hb dX12_readAtom_97 (by decide) (fun hc97 => ?_) (fun hc97 => ?_)
    · rw [if_neg hc97] at h
      rw [← Option.some.inj h] at hK
      have hK : t32.2 = mo := hK
      rw [hK] at O
      exact xr_vret X hr hlk O dX12_readAtom_130
    rw [if_pos hc97] at h
    refine lv_aload_n hx hb dX12_readAtom_100 rfl (lv_at hl 0 rfl) ?_
    refine lv_iconst (v := (2 : Int32)) hx hb dX12_readAtom_101 (by decide) ?_
    obtain ⟨_, hut33, h⟩ := Option.bind_eq_some_iff.mp h
    obtain ⟨t34, ht34, h⟩ := Option.bind_eq_some_iff.mp h
    refine xr_callV (rest := []) X O (T_X12_fails l κ v0 (2 : Int32) t32.2 _ ht34) lk_X12_141 hut33 (by omega) rfl hl.1 rfl (Nat.le_of_ble_eq_true rfl) dX12_readAtom_102 ⟨Nat.le_of_ble_eq_true rfl, Nat.le_of_ble_eq_true rfl⟩ (fun H locs O => ?_)
    refine W.eq (g2 := F0 m 105 ls []) rfl ?_
    refine lv_goto (tgt := 130) hx hb dX12_readAtom_105 (by decide) ?_
    rw [← Option.some.inj h] at hK
    have hK : t34 = mo := hK
    rw [hK] at O
    exact xr_vret X hr hlk O dX12_readAtom_130
  rw [if_pos hc80] at h
  rw [← Option.some.inj h] at hK
  have hK : t28.2 = mo := hK
  rw [hK] at O
  exact xr_vret X hr hlk O dX12_readAtom_83
set_option maxRecDepth 100000 in
set_option maxHeartbeats 4000000 in
theorem To_X12_readAtom (l : Launch) {dd : Nat} (hdd : 8 ≤ dd) {rc : Nat → Nat → Int32 → xM → Option (xM)} (hrc0 : ∀ (κ : xQ) (a0 : Nat) (a1 : Int32) (M mo : xM), rc 0 a0 a1 M = some mo → xC l yX12_readAtom cX12_readAtom 2 none dd 0 0 κ [.ref (κ.1 + a0), .int a1] M none mo) (hrc1 : ∀ (κ : xQ) (a0 : Nat) (a1 : Int32) (M mo : xM), rc 1 a0 a1 M = some mo → xC l yX12_readBoth cX12_readBoth 2 none dd 0 0 κ [.ref (κ.1 + a0), .int a1] M none mo) (hrc2 : ∀ (κ : xQ) (a0 : Nat) (a1 : Int32) (M mo : xM), rc 2 a0 a1 M = some mo → xC l yX12_readIf cX12_readIf 2 none dd 0 0 κ [.ref (κ.1 + a0), .int a1] M none mo) (hrc3 : ∀ (κ : xQ) (a0 : Nat) (a1 : Int32) (M mo : xM), rc 3 a0 a1 M = some mo → xC l yX12_readSum cX12_readSum 3 none dd 0 0 κ [.ref (κ.1 + a0), .int a1] M none mo) (hrc4 : ∀ (κ : xQ) (a0 : Nat) (a1 : Int32) (M mo : xM), rc 4 a0 a1 M = some mo → xC l yX12_readTerm cX12_readTerm 2 none dd 0 0 κ [.ref (κ.1 + a0), .int a1] M none mo) (hrc5 : ∀ (κ : xQ) (a0 : Nat) (a1 : Int32) (M mo : xM), rc 5 a0 a1 M = some mo → xC l yX12_readTruth cX12_readTruth 2 none dd 0 0 κ [.ref (κ.1 + a0), .int a1] M none mo) (hrc6 : ∀ (κ : xQ) (a0 : Nat) (a1 : Int32) (M mo : xM), rc 6 a0 a1 M = some mo → xC l yX12_readUnit cX12_readUnit 3 none dd 0 0 κ [.ref (κ.1 + a0), .int a1] M none mo) (κ : xQ) (a0 : Nat) (a1 : Int32) (M : xM) (mo : xM) (h : F_X12_readAtom rc a0 a1 M = some mo) : xC l yX12_readAtom cX12_readAtom 2 none (dd + 1) 0 0 κ [.ref (κ.1 + a0), .int a1] M none mo := by
  refine xC_of rfl (Nat.le_of_ble_eq_true rfl) fun p e s m args below meth c X hr hlk hnm H locs ls O hl => ?_
  have X : xX p s m args c cX12_readAtom 2 RX12 κ := X
  have hl : lv_has ls 2 [(0, .ref (κ.1 + a0)), (1, .int a1)] := hl
  have hx := X.1
  have hb := X.2.1
  obtain ⟨x, hx0⟩ : ∃ x, mo = x := ⟨_, rfl⟩
  rw [hx0] at h
  have hK : x = mo := hx0.symm
  unfold F_X12_readAtom at h
  refine lv_aload_n hx hb dX12_readAtom_0 rfl (lv_at hl 0 rfl) ?_
  refine lv_bipush (v := (29 : Int32)) hx hb dX12_readAtom_1 (by decide) ?_
  obtain ⟨_, hut1, h⟩ := Option.bind_eq_some_iff.mp h
  obtain ⟨t2, ht2, h⟩ := Option.bind_eq_some_iff.mp h
  refine xr_callV (rest := []) X O (T_X12_is l κ a0 (29 : Int32) M _ _ ht2) lk_X12_135 hut1 (by omega) rfl hl.1 rfl (Nat.le_of_ble_eq_true rfl) dX12_readAtom_3 ⟨Nat.le_of_ble_eq_true rfl, Nat.le_of_ble_eq_true rfl⟩ (fun H locs O => ?_)
  refine W.eq (g2 := F0 m 6 ls [.int t2.1]) rfl ?_
  refine lv_if_eq (tgt := 24) hx hb dX12_readAtom_6 (by decide) (fun hc6 => ?_) (fun hc6 => ?_)
  · rw [if_pos hc6] at h
    refine lv_aload_n hx hb dX12_readAtom_24 rfl (lv_at hl 0 rfl) ?_
    obtain ⟨t3, ht3, h⟩ := Option.bind_eq_some_iff.mp h
    refine xr_getI X O ht3 fl_X12_129 (Or.inl rfl) dX12_readAtom_25 ?_
    refine lv_if_ne (tgt := 66) hx hb dX12_readAtom_28 (by decide) (fun hc28 => ?_) (fun hc28 => ?_)
    · rw [if_neg hc28] at h
      exact F_X12_readAtom_66_ok hdd hrc0 hrc1 hrc2 hrc3 hrc4 hrc5 hrc6 X hr hlk a0 a1 t2.2 _ h hK H locs ls O (lv_sub hl [0, 1] rfl)
    rw [if_pos hc28] at h
    refine lv_aload_n hx hb dX12_readAtom_31 rfl (lv_at hl 0 rfl) ?_
    refine lv_aload_n hx hb dX12_readAtom_32 rfl (lv_at hl 0 rfl) ?_
    obtain ⟨t4, ht4, h⟩ := Option.bind_eq_some_iff.mp h
    refine xr_getI X O ht4 fl_X12_111 (Or.inl rfl) dX12_readAtom_33 ?_
    obtain ⟨_, hut5, h⟩ := Option.bind_eq_some_iff.mp h
    obtain ⟨t6, ht6, h⟩ := Option.bind_eq_some_iff.mp h
    refine xr_callV (rest := []) X O (T_X12_wordOf l κ a0 t4 t2.2 _ _ ht6) lk_X12_155 hut5 (by omega) rfl hl.1 rfl (Nat.le_of_ble_eq_true rfl) dX12_readAtom_36 ⟨Nat.le_of_ble_eq_true rfl, Nat.le_of_ble_eq_true rfl⟩ (fun H locs O => ?_)
    refine W.eq (g2 := F0 m 39 ls [.int t6.1]) rfl ?_
    refine lv_iconst (v := (-1 : Int32)) hx hb dX12_readAtom_39 (by decide) ?_
    refine lv_icmp_eq (tgt := 66) hx hb dX12_readAtom_40 (by decide) (fun hc40 => ?_) (fun hc40 => ?_)
    · rw [if_pos hc40] at h
      exact F_X12_readAtom_66_ok hdd hrc0 hrc1 hrc2 hrc3 hrc4 hrc5 hrc6 X hr hlk a0 a1 t6.2 _ h hK H locs ls O (lv_sub hl [0, 1] rfl)
    rw [if_neg hc40] at h
    refine lv_aload_n hx hb dX12_readAtom_43 rfl (lv_at hl 0 rfl) ?_
    refine lv_sipush (v := (1000 : Int32)) hx hb dX12_readAtom_44 (by decide) ?_
    refine lv_aload_n hx hb dX12_readAtom_47 rfl (lv_at hl 0 rfl) ?_
    refine lv_aload_n hx hb dX12_readAtom_48 rfl (lv_at hl 0 rfl) ?_
    obtain ⟨t7, ht7, h⟩ := Option.bind_eq_some_iff.mp h
    refine xr_getI X O ht7 fl_X12_111 (Or.inl rfl) dX12_readAtom_49 ?_
    obtain ⟨_, hut8, h⟩ := Option.bind_eq_some_iff.mp h
    obtain ⟨t9, ht9, h⟩ := Option.bind_eq_some_iff.mp h
    refine xr_callV (rest := [.int (1000 : Int32), .ref (κ.1 + a0)]) X O (T_X12_wordOf l κ a0 t7 t6.2 _ _ ht9) lk_X12_155 hut8 (by omega) rfl hl.1 rfl (Nat.le_of_ble_eq_true rfl) dX12_readAtom_52 ⟨Nat.le_of_ble_eq_true rfl, Nat.le_of_ble_eq_true rfl⟩ (fun H locs O => ?_)
    refine W.eq (g2 := F0 m 55 ls [.int t9.1, .int (1000 : Int32), .ref (κ.1 + a0)]) rfl ?_
    refine lv_iadd hx hb dX12_readAtom_55 ?_
    obtain ⟨_, hut10, h⟩ := Option.bind_eq_some_iff.mp h
    obtain ⟨t11, ht11, h⟩ := Option.bind_eq_some_iff.mp h
    refine xr_callV (rest := []) X O (T_X12_codes l κ a0 ((1000 : Int32) + t9.1) t9.2 _ ht11) lk_X12_152 hut10 (by omega) rfl hl.1 rfl (Nat.le_of_ble_eq_true rfl) dX12_readAtom_56 ⟨Nat.le_of_ble_eq_true rfl, Nat.le_of_ble_eq_true rfl⟩ (fun H locs O => ?_)
    refine W.eq (g2 := F0 m 59 ls []) rfl ?_
    refine lv_aload_n hx hb dX12_readAtom_59 rfl (lv_at hl 0 rfl) ?_
    obtain ⟨_, hut12, h⟩ := Option.bind_eq_some_iff.mp h
    obtain ⟨t13, ht13, h⟩ := Option.bind_eq_some_iff.mp h
    refine xr_callV (rest := []) X O (T_X12_next l κ a0 t11 _ ht13) lk_X12_138 hut12 (by omega) rfl hl.1 rfl (Nat.le_of_ble_eq_true rfl) dX12_readAtom_60 ⟨Nat.le_of_ble_eq_true rfl, Nat.le_of_ble_eq_true rfl⟩ (fun H locs O => ?_)
    refine W.eq (g2 := F0 m 63 ls []) rfl ?_
    refine lv_goto (tgt := 130) hx hb dX12_readAtom_63 (by decide) ?_
    rw [← Option.some.inj h] at hK
    have hK : t13 = mo := hK
    rw [hK] at O
    exact xr_vret X hr hlk O dX12_readAtom_130
  rw [if_neg hc6] at h
  refine lv_aload_n hx hb dX12_readAtom_9 rfl (lv_at hl 0 rfl) ?_
  refine lv_aload_n hx hb dX12_readAtom_10 rfl (lv_at hl 0 rfl) ?_
  obtain ⟨t14, ht14, h⟩ := Option.bind_eq_some_iff.mp h
  refine xr_getI X O ht14 fl_X12_124 (Or.inl rfl) dX12_readAtom_11 ?_
  obtain ⟨_, hut15, h⟩ := Option.bind_eq_some_iff.mp h
  obtain ⟨t16, ht16, h⟩ := Option.bind_eq_some_iff.mp h
  refine xr_callV (rest := []) X O (T_X12_codes l κ a0 t14 t2.2 _ ht16) lk_X12_152 hut15 (by omega) rfl hl.1 rfl (Nat.le_of_ble_eq_true rfl) dX12_readAtom_14 ⟨Nat.le_of_ble_eq_true rfl, Nat.le_of_ble_eq_true rfl⟩ (fun H locs O => ?_)
  refine W.eq (g2 := F0 m 17 ls []) rfl ?_
  refine lv_aload_n hx hb dX12_readAtom_17 rfl (lv_at hl 0 rfl) ?_
  obtain ⟨_, hut17, h⟩ := Option.bind_eq_some_iff.mp h
  obtain ⟨t18, ht18, h⟩ := Option.bind_eq_some_iff.mp h
  refine xr_callV (rest := []) X O (T_X12_next l κ a0 t16 _ ht18) lk_X12_138 hut17 (by omega) rfl hl.1 rfl (Nat.le_of_ble_eq_true rfl) dX12_readAtom_18 ⟨Nat.le_of_ble_eq_true rfl, Nat.le_of_ble_eq_true rfl⟩ (fun H locs O => ?_)
  refine W.eq (g2 := F0 m 21 ls []) rfl ?_
  refine lv_goto (tgt := 130) hx hb dX12_readAtom_21 (by decide) ?_
  rw [← Option.some.inj h] at hK
  have hK : t18 = mo := hK
  rw [hK] at O
  exact xr_vret X hr hlk O dX12_readAtom_130
set_option maxRecDepth 100000 in
set_option maxHeartbeats 4000000 in
theorem F_X12_readBoth_29_ok {dd : Nat} (hdd : 8 ≤ dd) {rc : Nat → Nat → Int32 → xM → Option (xM)} (hrc0 : ∀ (κ : xQ) (a0 : Nat) (a1 : Int32) (M mo : xM), rc 0 a0 a1 M = some mo → xC l yX12_readAtom cX12_readAtom 2 none dd 0 0 κ [.ref (κ.1 + a0), .int a1] M none mo) (hrc1 : ∀ (κ : xQ) (a0 : Nat) (a1 : Int32) (M mo : xM), rc 1 a0 a1 M = some mo → xC l yX12_readBoth cX12_readBoth 2 none dd 0 0 κ [.ref (κ.1 + a0), .int a1] M none mo) (hrc2 : ∀ (κ : xQ) (a0 : Nat) (a1 : Int32) (M mo : xM), rc 2 a0 a1 M = some mo → xC l yX12_readIf cX12_readIf 2 none dd 0 0 κ [.ref (κ.1 + a0), .int a1] M none mo) (hrc3 : ∀ (κ : xQ) (a0 : Nat) (a1 : Int32) (M mo : xM), rc 3 a0 a1 M = some mo → xC l yX12_readSum cX12_readSum 3 none dd 0 0 κ [.ref (κ.1 + a0), .int a1] M none mo) (hrc4 : ∀ (κ : xQ) (a0 : Nat) (a1 : Int32) (M mo : xM), rc 4 a0 a1 M = some mo → xC l yX12_readTerm cX12_readTerm 2 none dd 0 0 κ [.ref (κ.1 + a0), .int a1] M none mo) (hrc5 : ∀ (κ : xQ) (a0 : Nat) (a1 : Int32) (M mo : xM), rc 5 a0 a1 M = some mo → xC l yX12_readTruth cX12_readTruth 2 none dd 0 0 κ [.ref (κ.1 + a0), .int a1] M none mo) (hrc6 : ∀ (κ : xQ) (a0 : Nat) (a1 : Int32) (M mo : xM), rc 6 a0 a1 M = some mo → xC l yX12_readUnit cX12_readUnit 3 none dd 0 0 κ [.ref (κ.1 + a0), .int a1] M none mo) (X : xX p s m args c cX12_readBoth 2 RX12 κ) (hr : meth.sig.returnType = none) (hlk : meth.locks = false) {mo : xM} (M : xM) (x : xM) (h : F_X12_readBoth_29 rc M = some x) (hK : (fun o => o = mo) x) (H : Heap) (locs : List Loc) (ls : Array Slot) (O : xO κ s M H locs) (hl : lv_has ls 2 []) : W p l e (xRm (dd + 1) 0 0) s m args below meth c H locs 0 0 (xQf below args s 0 0 κ none mo) (F0 m 29 ls []) := by
  unfold F_X12_readBoth_29 at h
  have hx := X.1
  have hb := X.2.1
  rw [← Option.some.inj h] at hK
  have hK : M = mo := hK
  rw [hK] at O
  exact xr_vret X hr hlk O dX12_readBoth_29
set_option maxRecDepth 100000 in
set_option maxHeartbeats 4000000 in
theorem F_X12_readBoth_5_bok {dd : Nat} (hdd : 8 ≤ dd) {rc : Nat → Nat → Int32 → xM → Option (xM)} (hrc0 : ∀ (κ : xQ) (a0 : Nat) (a1 : Int32) (M mo : xM), rc 0 a0 a1 M = some mo → xC l yX12_readAtom cX12_readAtom 2 none dd 0 0 κ [.ref (κ.1 + a0), .int a1] M none mo) (hrc1 : ∀ (κ : xQ) (a0 : Nat) (a1 : Int32) (M mo : xM), rc 1 a0 a1 M = some mo → xC l yX12_readBoth cX12_readBoth 2 none dd 0 0 κ [.ref (κ.1 + a0), .int a1] M none mo) (hrc2 : ∀ (κ : xQ) (a0 : Nat) (a1 : Int32) (M mo : xM), rc 2 a0 a1 M = some mo → xC l yX12_readIf cX12_readIf 2 none dd 0 0 κ [.ref (κ.1 + a0), .int a1] M none mo) (hrc3 : ∀ (κ : xQ) (a0 : Nat) (a1 : Int32) (M mo : xM), rc 3 a0 a1 M = some mo → xC l yX12_readSum cX12_readSum 3 none dd 0 0 κ [.ref (κ.1 + a0), .int a1] M none mo) (hrc4 : ∀ (κ : xQ) (a0 : Nat) (a1 : Int32) (M mo : xM), rc 4 a0 a1 M = some mo → xC l yX12_readTerm cX12_readTerm 2 none dd 0 0 κ [.ref (κ.1 + a0), .int a1] M none mo) (hrc5 : ∀ (κ : xQ) (a0 : Nat) (a1 : Int32) (M mo : xM), rc 5 a0 a1 M = some mo → xC l yX12_readTruth cX12_readTruth 2 none dd 0 0 κ [.ref (κ.1 + a0), .int a1] M none mo) (hrc6 : ∀ (κ : xQ) (a0 : Nat) (a1 : Int32) (M mo : xM), rc 6 a0 a1 M = some mo → xC l yX12_readUnit cX12_readUnit 3 none dd 0 0 κ [.ref (κ.1 + a0), .int a1] M none mo) (X : xX p s m args c cX12_readBoth 2 RX12 κ) (hr : meth.sig.returnType = none) (hlk : meth.locks = false) {mo : xM} (v0 : Nat) (v1 : Int32) {W5 : xM → Prop} (hW5 : ∀ (M : xM), W5 M → ∀ (H : Heap) (locs : List Loc) (ls : Array Slot), xO κ s M H locs → lv_has ls 2 [(0, .ref (κ.1 + v0)), (1, .int v1)] → W p l e (xRm (dd + 1) 0 0) s m args below meth c H locs 0 0 (xQf below args s 0 0 κ none mo) (F0 m 5 ls [])) (M : xM) (x : (xM) ⊕ (xM)) (h : F_X12_readBoth_5b rc v0 v1 M = some x) (hK : (xKl W5 (fun o => o = mo)) x) (H : Heap) (locs : List Loc) (ls : Array Slot) (O : xO κ s M H locs) (hl : lv_has ls 2 [(0, .ref (κ.1 + v0)), (1, .int v1)]) : W p l e (xRm (dd + 1) 0 0) s m args below meth c H locs 0 0 (xQf below args s 0 0 κ none mo) (F0 m 5 ls []) := by
  unfold F_X12_readBoth_5b at h
  have hx := X.1
  have hb := X.2.1
  refine lv_aload_n hx hb dX12_readBoth_5 rfl (lv_at hl 0 rfl) ?_
  refine lv_bipush (v := (24 : Int32)) hx hb dX12_readBoth_6 (by decide) ?_
  obtain ⟨_, hut3, h⟩ := Option.bind_eq_some_iff.mp h
  obtain ⟨t4, ht4, h⟩ := Option.bind_eq_some_iff.mp h
  refine xr_callV (rest := []) X O (T_X12_eats l κ v0 (24 : Int32) M _ _ ht4) lk_X12_164 hut3 (by omega) rfl hl.1 rfl (Nat.le_of_ble_eq_true rfl) dX12_readBoth_8 ⟨Nat.le_of_ble_eq_true rfl, Nat.le_of_ble_eq_true rfl⟩ (fun H locs O => ?_)
  refine W.eq (g2 := F0 m 11 ls [.int t4.1]) rfl ?_
  refine lv_if_eq (tgt := 29) hx hb dX12_readBoth_11 (by decide) (fun hc11 => ?_) (fun hc11 => ?_)
  · rw [if_pos hc11] at h
    obtain ⟨_, hw0, ew0⟩ := Option.map_eq_some_iff.mp h
    rw [← ew0] at hK
    have h := hw0
    exact F_X12_readBoth_29_ok hdd hrc0 hrc1 hrc2 hrc3 hrc4 hrc5 hrc6 X hr hlk  t4.2 _ h hK H locs ls O (lv_sub hl [] rfl)
  rw [if_neg hc11] at h
  refine lv_aload_n hx hb dX12_readBoth_14 rfl (lv_at hl 0 rfl) ?_
  refine lv_iload_n hx hb dX12_readBoth_15 rfl (lv_at hl 1 rfl) ?_
  obtain ⟨_, hut5, h⟩ := Option.bind_eq_some_iff.mp h
  obtain ⟨t6, ht6, h⟩ := Option.bind_eq_some_iff.mp h
  refine xr_callV (rest := []) X O (hrc6 κ v0 v1 t4.2 _ ht6) lk_X12_179 hut5 (Nat.le_refl _) rfl hl.1 rfl (Nat.le_of_ble_eq_true rfl) dX12_readBoth_16 ⟨Nat.le_of_ble_eq_true rfl, Nat.le_of_ble_eq_true rfl⟩ (fun H locs O => ?_)
  refine W.eq (g2 := F0 m 19 ls []) rfl ?_
  refine lv_aload_n hx hb dX12_readBoth_19 rfl (lv_at hl 0 rfl) ?_
  refine lv_sipush (v := (3007 : Int32)) hx hb dX12_readBoth_20 (by decide) ?_
  obtain ⟨_, hut7, h⟩ := Option.bind_eq_some_iff.mp h
  obtain ⟨t8, ht8, h⟩ := Option.bind_eq_some_iff.mp h
  refine xr_callV (rest := []) X O (T_X12_codes l κ v0 (3007 : Int32) t6 _ ht8) lk_X12_152 hut7 (by omega) rfl hl.1 rfl (Nat.le_of_ble_eq_true rfl) dX12_readBoth_23 ⟨Nat.le_of_ble_eq_true rfl, Nat.le_of_ble_eq_true rfl⟩ (fun H locs O => ?_)
  refine W.eq (g2 := F0 m 26 ls []) rfl ?_
  refine lv_goto (tgt := 5) hx hb dX12_readBoth_26 (by decide) ?_
  rw [← Option.some.inj h] at hK
  exact hW5 t8 hK H locs ls O (lv_sub hl [0, 1] rfl)
set_option maxRecDepth 100000 in
set_option maxHeartbeats 4000000 in
theorem F_X12_readBoth_5_ok {dd : Nat} (hdd : 8 ≤ dd) {rc : Nat → Nat → Int32 → xM → Option (xM)} (hrc0 : ∀ (κ : xQ) (a0 : Nat) (a1 : Int32) (M mo : xM), rc 0 a0 a1 M = some mo → xC l yX12_readAtom cX12_readAtom 2 none dd 0 0 κ [.ref (κ.1 + a0), .int a1] M none mo) (hrc1 : ∀ (κ : xQ) (a0 : Nat) (a1 : Int32) (M mo : xM), rc 1 a0 a1 M = some mo → xC l yX12_readBoth cX12_readBoth 2 none dd 0 0 κ [.ref (κ.1 + a0), .int a1] M none mo) (hrc2 : ∀ (κ : xQ) (a0 : Nat) (a1 : Int32) (M mo : xM), rc 2 a0 a1 M = some mo → xC l yX12_readIf cX12_readIf 2 none dd 0 0 κ [.ref (κ.1 + a0), .int a1] M none mo) (hrc3 : ∀ (κ : xQ) (a0 : Nat) (a1 : Int32) (M mo : xM), rc 3 a0 a1 M = some mo → xC l yX12_readSum cX12_readSum 3 none dd 0 0 κ [.ref (κ.1 + a0), .int a1] M none mo) (hrc4 : ∀ (κ : xQ) (a0 : Nat) (a1 : Int32) (M mo : xM), rc 4 a0 a1 M = some mo → xC l yX12_readTerm cX12_readTerm 2 none dd 0 0 κ [.ref (κ.1 + a0), .int a1] M none mo) (hrc5 : ∀ (κ : xQ) (a0 : Nat) (a1 : Int32) (M mo : xM), rc 5 a0 a1 M = some mo → xC l yX12_readTruth cX12_readTruth 2 none dd 0 0 κ [.ref (κ.1 + a0), .int a1] M none mo) (hrc6 : ∀ (κ : xQ) (a0 : Nat) (a1 : Int32) (M mo : xM), rc 6 a0 a1 M = some mo → xC l yX12_readUnit cX12_readUnit 3 none dd 0 0 κ [.ref (κ.1 + a0), .int a1] M none mo) (X : xX p s m args c cX12_readBoth 2 RX12 κ) (hr : meth.sig.returnType = none) (hlk : meth.locks = false) {mo : xM} (v0 : Nat) (v1 : Int32) (M : xM) (x : xM) (h : F_X12_readBoth_5 rc v0 v1 M = some x) (hK : (fun o => o = mo) x) (H : Heap) (locs : List Loc) (ls : Array Slot) (O : xO κ s M H locs) (hl : lv_has ls 2 [(0, .ref (κ.1 + v0)), (1, .int v1)]) : W p l e (xRm (dd + 1) 0 0) s m args below meth c H locs 0 0 (xQf below args s 0 0 κ none mo) (F0 m 5 ls []) := by
  refine xit_K (Wh := fun x => ∀ (H : Heap) (locs : List Loc) (ls : Array Slot), xO κ s x H locs → lv_has ls 2 [(0, .ref (κ.1 + v0)), (1, .int v1)] → W p l e (xRm (dd + 1) 0 0) s m args below meth c H locs 0 0 (xQf below args s 0 0 κ none mo) (F0 m 5 ls [])) (Kp := (fun o => o = mo)) ?_ xFU M x h hK H locs ls O hl
  intro y x h hK H locs ls O hl
  exact F_X12_readBoth_5_bok hdd hrc0 hrc1 hrc2 hrc3 hrc4 hrc5 hrc6 X hr hlk v0 v1 (fun  _ hw => hw) y x h hK H locs ls O hl
set_option maxRecDepth 100000 in
set_option maxHeartbeats 4000000 in
theorem To_X12_readBoth (l : Launch) {dd : Nat} (hdd : 8 ≤ dd) {rc : Nat → Nat → Int32 → xM → Option (xM)} (hrc0 : ∀ (κ : xQ) (a0 : Nat) (a1 : Int32) (M mo : xM), rc 0 a0 a1 M = some mo → xC l yX12_readAtom cX12_readAtom 2 none dd 0 0 κ [.ref (κ.1 + a0), .int a1] M none mo) (hrc1 : ∀ (κ : xQ) (a0 : Nat) (a1 : Int32) (M mo : xM), rc 1 a0 a1 M = some mo → xC l yX12_readBoth cX12_readBoth 2 none dd 0 0 κ [.ref (κ.1 + a0), .int a1] M none mo) (hrc2 : ∀ (κ : xQ) (a0 : Nat) (a1 : Int32) (M mo : xM), rc 2 a0 a1 M = some mo → xC l yX12_readIf cX12_readIf 2 none dd 0 0 κ [.ref (κ.1 + a0), .int a1] M none mo) (hrc3 : ∀ (κ : xQ) (a0 : Nat) (a1 : Int32) (M mo : xM), rc 3 a0 a1 M = some mo → xC l yX12_readSum cX12_readSum 3 none dd 0 0 κ [.ref (κ.1 + a0), .int a1] M none mo) (hrc4 : ∀ (κ : xQ) (a0 : Nat) (a1 : Int32) (M mo : xM), rc 4 a0 a1 M = some mo → xC l yX12_readTerm cX12_readTerm 2 none dd 0 0 κ [.ref (κ.1 + a0), .int a1] M none mo) (hrc5 : ∀ (κ : xQ) (a0 : Nat) (a1 : Int32) (M mo : xM), rc 5 a0 a1 M = some mo → xC l yX12_readTruth cX12_readTruth 2 none dd 0 0 κ [.ref (κ.1 + a0), .int a1] M none mo) (hrc6 : ∀ (κ : xQ) (a0 : Nat) (a1 : Int32) (M mo : xM), rc 6 a0 a1 M = some mo → xC l yX12_readUnit cX12_readUnit 3 none dd 0 0 κ [.ref (κ.1 + a0), .int a1] M none mo) (κ : xQ) (a0 : Nat) (a1 : Int32) (M : xM) (mo : xM) (h : F_X12_readBoth rc a0 a1 M = some mo) : xC l yX12_readBoth cX12_readBoth 2 none (dd + 1) 0 0 κ [.ref (κ.1 + a0), .int a1] M none mo := by
  refine xC_of rfl (Nat.le_of_ble_eq_true rfl) fun p e s m args below meth c X hr hlk hnm H locs ls O hl => ?_
  have X : xX p s m args c cX12_readBoth 2 RX12 κ := X
  have hl : lv_has ls 2 [(0, .ref (κ.1 + a0)), (1, .int a1)] := hl
  have hx := X.1
  have hb := X.2.1
  obtain ⟨x, hx0⟩ : ∃ x, mo = x := ⟨_, rfl⟩
  rw [hx0] at h
  have hK : x = mo := hx0.symm
  unfold F_X12_readBoth at h
  refine lv_aload_n hx hb dX12_readBoth_0 rfl (lv_at hl 0 rfl) ?_
  refine lv_iload_n hx hb dX12_readBoth_1 rfl (lv_at hl 1 rfl) ?_
  obtain ⟨_, hut1, h⟩ := Option.bind_eq_some_iff.mp h
  obtain ⟨t2, ht2, h⟩ := Option.bind_eq_some_iff.mp h
  refine xr_callV (rest := []) X O (hrc6 κ a0 a1 M _ ht2) lk_X12_179 hut1 (Nat.le_refl _) rfl hl.1 rfl (Nat.le_of_ble_eq_true rfl) dX12_readBoth_2 ⟨Nat.le_of_ble_eq_true rfl, Nat.le_of_ble_eq_true rfl⟩ (fun H locs O => ?_)
  refine W.eq (g2 := F0 m 5 ls []) rfl ?_
  exact F_X12_readBoth_5_ok hdd hrc0 hrc1 hrc2 hrc3 hrc4 hrc5 hrc6 X hr hlk a0 a1 t2 _ h hK H locs ls O (lv_sub hl [0, 1] rfl)
set_option maxRecDepth 100000 in
set_option maxHeartbeats 4000000 in
theorem F_X12_readIf_72_ok {dd : Nat} (hdd : 8 ≤ dd) {rc : Nat → Nat → Int32 → xM → Option (xM)} (hrc0 : ∀ (κ : xQ) (a0 : Nat) (a1 : Int32) (M mo : xM), rc 0 a0 a1 M = some mo → xC l yX12_readAtom cX12_readAtom 2 none dd 0 0 κ [.ref (κ.1 + a0), .int a1] M none mo) (hrc1 : ∀ (κ : xQ) (a0 : Nat) (a1 : Int32) (M mo : xM), rc 1 a0 a1 M = some mo → xC l yX12_readBoth cX12_readBoth 2 none dd 0 0 κ [.ref (κ.1 + a0), .int a1] M none mo) (hrc2 : ∀ (κ : xQ) (a0 : Nat) (a1 : Int32) (M mo : xM), rc 2 a0 a1 M = some mo → xC l yX12_readIf cX12_readIf 2 none dd 0 0 κ [.ref (κ.1 + a0), .int a1] M none mo) (hrc3 : ∀ (κ : xQ) (a0 : Nat) (a1 : Int32) (M mo : xM), rc 3 a0 a1 M = some mo → xC l yX12_readSum cX12_readSum 3 none dd 0 0 κ [.ref (κ.1 + a0), .int a1] M none mo) (hrc4 : ∀ (κ : xQ) (a0 : Nat) (a1 : Int32) (M mo : xM), rc 4 a0 a1 M = some mo → xC l yX12_readTerm cX12_readTerm 2 none dd 0 0 κ [.ref (κ.1 + a0), .int a1] M none mo) (hrc5 : ∀ (κ : xQ) (a0 : Nat) (a1 : Int32) (M mo : xM), rc 5 a0 a1 M = some mo → xC l yX12_readTruth cX12_readTruth 2 none dd 0 0 κ [.ref (κ.1 + a0), .int a1] M none mo) (hrc6 : ∀ (κ : xQ) (a0 : Nat) (a1 : Int32) (M mo : xM), rc 6 a0 a1 M = some mo → xC l yX12_readUnit cX12_readUnit 3 none dd 0 0 κ [.ref (κ.1 + a0), .int a1] M none mo) (X : xX p s m args c cX12_readIf 2 RX12 κ) (hr : meth.sig.returnType = none) (hlk : meth.locks = false) {mo : xM} (v0 : Nat) (M : xM) (x : xM) (h : F_X12_readIf_72 rc v0 M = some x) (hK : (fun o => o = mo) x) (H : Heap) (locs : List Loc) (ls : Array Slot) (O : xO κ s M H locs) (hl : lv_has ls 2 [(0, .ref (κ.1 + v0))]) : W p l e (xRm (dd + 1) 0 0) s m args below meth c H locs 0 0 (xQf below args s 0 0 κ none mo) (F0 m 72 ls []) := by
  unfold F_X12_readIf_72 at h
  have hx := X.1
  have hb := X.2.1
  refine lv_aload_n hx hb dX12_readIf_72 rfl (lv_at hl 0 rfl) ?_
  refine lv_sipush (v := (3009 : Int32)) hx hb dX12_readIf_73 (by decide) ?_
  obtain ⟨_, hut21, h⟩ := Option.bind_eq_some_iff.mp h
  obtain ⟨t22, ht22, h⟩ := Option.bind_eq_some_iff.mp h
  refine xr_callV (rest := []) X O (T_X12_codes l κ v0 (3009 : Int32) M _ ht22) lk_X12_152 hut21 (by omega) rfl hl.1 rfl (Nat.le_of_ble_eq_true rfl) dX12_readIf_76 ⟨Nat.le_of_ble_eq_true rfl, Nat.le_of_ble_eq_true rfl⟩ (fun H locs O => ?_)
  refine W.eq (g2 := F0 m 79 ls []) rfl ?_
  rw [← Option.some.inj h] at hK
  have hK : t22 = mo := hK
  rw [hK] at O
  exact xr_vret X hr hlk O dX12_readIf_79
set_option maxRecDepth 100000 in
set_option maxHeartbeats 4000000 in
theorem F_X12_readIf_51_ok {dd : Nat} (hdd : 8 ≤ dd) {rc : Nat → Nat → Int32 → xM → Option (xM)} (hrc0 : ∀ (κ : xQ) (a0 : Nat) (a1 : Int32) (M mo : xM), rc 0 a0 a1 M = some mo → xC l yX12_readAtom cX12_readAtom 2 none dd 0 0 κ [.ref (κ.1 + a0), .int a1] M none mo) (hrc1 : ∀ (κ : xQ) (a0 : Nat) (a1 : Int32) (M mo : xM), rc 1 a0 a1 M = some mo → xC l yX12_readBoth cX12_readBoth 2 none dd 0 0 κ [.ref (κ.1 + a0), .int a1] M none mo) (hrc2 : ∀ (κ : xQ) (a0 : Nat) (a1 : Int32) (M mo : xM), rc 2 a0 a1 M = some mo → xC l yX12_readIf cX12_readIf 2 none dd 0 0 κ [.ref (κ.1 + a0), .int a1] M none mo) (hrc3 : ∀ (κ : xQ) (a0 : Nat) (a1 : Int32) (M mo : xM), rc 3 a0 a1 M = some mo → xC l yX12_readSum cX12_readSum 3 none dd 0 0 κ [.ref (κ.1 + a0), .int a1] M none mo) (hrc4 : ∀ (κ : xQ) (a0 : Nat) (a1 : Int32) (M mo : xM), rc 4 a0 a1 M = some mo → xC l yX12_readTerm cX12_readTerm 2 none dd 0 0 κ [.ref (κ.1 + a0), .int a1] M none mo) (hrc5 : ∀ (κ : xQ) (a0 : Nat) (a1 : Int32) (M mo : xM), rc 5 a0 a1 M = some mo → xC l yX12_readTruth cX12_readTruth 2 none dd 0 0 κ [.ref (κ.1 + a0), .int a1] M none mo) (hrc6 : ∀ (κ : xQ) (a0 : Nat) (a1 : Int32) (M mo : xM), rc 6 a0 a1 M = some mo → xC l yX12_readUnit cX12_readUnit 3 none dd 0 0 κ [.ref (κ.1 + a0), .int a1] M none mo) (X : xX p s m args c cX12_readIf 2 RX12 κ) (hr : meth.sig.returnType = none) (hlk : meth.locks = false) {mo : xM} (v0 : Nat) (v1 : Int32) (M : xM) (x : xM) (h : F_X12_readIf_51 rc v0 v1 M = some x) (hK : (fun o => o = mo) x) (H : Heap) (locs : List Loc) (ls : Array Slot) (O : xO κ s M H locs) (hl : lv_has ls 2 [(0, .ref (κ.1 + v0)), (1, .int v1)]) : W p l e (xRm (dd + 1) 0 0) s m args below meth c H locs 0 0 (xQf below args s 0 0 κ none mo) (F0 m 51 ls []) := by
  unfold F_X12_readIf_51 at h
  have hx := X.1
  have hb := X.2.1
  refine lv_aload_n hx hb dX12_readIf_51 rfl (lv_at hl 0 rfl) ?_
  refine lv_iload_n hx hb dX12_readIf_52 rfl (lv_at hl 1 rfl) ?_
  refine lv_iconst (v := (1 : Int32)) hx hb dX12_readIf_53 (by decide) ?_
  refine lv_iadd hx hb dX12_readIf_54 ?_
  obtain ⟨_, hut15, h⟩ := Option.bind_eq_some_iff.mp h
  obtain ⟨t16, ht16, h⟩ := Option.bind_eq_some_iff.mp h
  refine xr_callV (rest := []) X O (hrc3 κ v0 (v1 + (1 : Int32)) M _ ht16) lk_X12_161 hut15 (Nat.le_refl _) rfl hl.1 rfl (Nat.le_of_ble_eq_true rfl) dX12_readIf_55 ⟨Nat.le_of_ble_eq_true rfl, Nat.le_of_ble_eq_true rfl⟩ (fun H locs O => ?_)
  refine W.eq (g2 := F0 m 58 ls []) rfl ?_
  refine lv_aload_n hx hb dX12_readIf_58 rfl (lv_at hl 0 rfl) ?_
  refine lv_bipush (v := (18 : Int32)) hx hb dX12_readIf_59 (by decide) ?_
  obtain ⟨_, hut17, h⟩ := Option.bind_eq_some_iff.mp h
  obtain ⟨t18, ht18, h⟩ := Option.bind_eq_some_iff.mp h
  refine xr_callV (rest := []) X O (T_X12_eats l κ v0 (18 : Int32) t16 _ _ ht18) lk_X12_164 hut17 (by omega) rfl hl.1 rfl (Nat.le_of_ble_eq_true rfl) dX12_readIf_61 ⟨Nat.le_of_ble_eq_true rfl, Nat.le_of_ble_eq_true rfl⟩ (fun H locs O => ?_)
  refine W.eq (g2 := F0 m 64 ls [.int t18.1]) rfl ?_
  refine lv_if_ne (tgt := 72) hx hb dX12_readIf_64 (by decide) (fun hc64 => ?_) (fun hc64 => ?_)
  · rw [if_neg hc64] at h
    exact F_X12_readIf_72_ok hdd hrc0 hrc1 hrc2 hrc3 hrc4 hrc5 hrc6 X hr hlk v0 t18.2 _ h hK H locs ls O (lv_sub hl [0] rfl)
  rw [if_pos hc64] at h
  refine lv_aload_n hx hb dX12_readIf_67 rfl (lv_at hl 0 rfl) ?_
  refine lv_iconst (v := (2 : Int32)) hx hb dX12_readIf_68 (by decide) ?_
  obtain ⟨_, hut19, h⟩ := Option.bind_eq_some_iff.mp h
  obtain ⟨t20, ht20, h⟩ := Option.bind_eq_some_iff.mp h
  refine xr_callV (rest := []) X O (T_X12_fails l κ v0 (2 : Int32) t18.2 _ ht20) lk_X12_141 hut19 (by omega) rfl hl.1 rfl (Nat.le_of_ble_eq_true rfl) dX12_readIf_69 ⟨Nat.le_of_ble_eq_true rfl, Nat.le_of_ble_eq_true rfl⟩ (fun H locs O => ?_)
  refine W.eq (g2 := F0 m 72 ls []) rfl ?_
  exact F_X12_readIf_72_ok hdd hrc0 hrc1 hrc2 hrc3 hrc4 hrc5 hrc6 X hr hlk v0 t20 _ h hK H locs ls O (lv_sub hl [0] rfl)
set_option maxRecDepth 100000 in
set_option maxHeartbeats 4000000 in
theorem F_X12_readIf_30_ok {dd : Nat} (hdd : 8 ≤ dd) {rc : Nat → Nat → Int32 → xM → Option (xM)} (hrc0 : ∀ (κ : xQ) (a0 : Nat) (a1 : Int32) (M mo : xM), rc 0 a0 a1 M = some mo → xC l yX12_readAtom cX12_readAtom 2 none dd 0 0 κ [.ref (κ.1 + a0), .int a1] M none mo) (hrc1 : ∀ (κ : xQ) (a0 : Nat) (a1 : Int32) (M mo : xM), rc 1 a0 a1 M = some mo → xC l yX12_readBoth cX12_readBoth 2 none dd 0 0 κ [.ref (κ.1 + a0), .int a1] M none mo) (hrc2 : ∀ (κ : xQ) (a0 : Nat) (a1 : Int32) (M mo : xM), rc 2 a0 a1 M = some mo → xC l yX12_readIf cX12_readIf 2 none dd 0 0 κ [.ref (κ.1 + a0), .int a1] M none mo) (hrc3 : ∀ (κ : xQ) (a0 : Nat) (a1 : Int32) (M mo : xM), rc 3 a0 a1 M = some mo → xC l yX12_readSum cX12_readSum 3 none dd 0 0 κ [.ref (κ.1 + a0), .int a1] M none mo) (hrc4 : ∀ (κ : xQ) (a0 : Nat) (a1 : Int32) (M mo : xM), rc 4 a0 a1 M = some mo → xC l yX12_readTerm cX12_readTerm 2 none dd 0 0 κ [.ref (κ.1 + a0), .int a1] M none mo) (hrc5 : ∀ (κ : xQ) (a0 : Nat) (a1 : Int32) (M mo : xM), rc 5 a0 a1 M = some mo → xC l yX12_readTruth cX12_readTruth 2 none dd 0 0 κ [.ref (κ.1 + a0), .int a1] M none mo) (hrc6 : ∀ (κ : xQ) (a0 : Nat) (a1 : Int32) (M mo : xM), rc 6 a0 a1 M = some mo → xC l yX12_readUnit cX12_readUnit 3 none dd 0 0 κ [.ref (κ.1 + a0), .int a1] M none mo) (X : xX p s m args c cX12_readIf 2 RX12 κ) (hr : meth.sig.returnType = none) (hlk : meth.locks = false) {mo : xM} (v0 : Nat) (v1 : Int32) (M : xM) (x : xM) (h : F_X12_readIf_30 rc v0 v1 M = some x) (hK : (fun o => o = mo) x) (H : Heap) (locs : List Loc) (ls : Array Slot) (O : xO κ s M H locs) (hl : lv_has ls 2 [(0, .ref (κ.1 + v0)), (1, .int v1)]) : W p l e (xRm (dd + 1) 0 0) s m args below meth c H locs 0 0 (xQf below args s 0 0 κ none mo) (F0 m 30 ls []) := by
  unfold F_X12_readIf_30 at h
  have hx := X.1
  have hb := X.2.1
  refine lv_aload_n hx hb dX12_readIf_30 rfl (lv_at hl 0 rfl) ?_
  refine lv_iload_n hx hb dX12_readIf_31 rfl (lv_at hl 1 rfl) ?_
  refine lv_iconst (v := (1 : Int32)) hx hb dX12_readIf_32 (by decide) ?_
  refine lv_iadd hx hb dX12_readIf_33 ?_
  obtain ⟨_, hut9, h⟩ := Option.bind_eq_some_iff.mp h
  obtain ⟨t10, ht10, h⟩ := Option.bind_eq_some_iff.mp h
  refine xr_callV (rest := []) X O (hrc3 κ v0 (v1 + (1 : Int32)) M _ ht10) lk_X12_161 hut9 (Nat.le_refl _) rfl hl.1 rfl (Nat.le_of_ble_eq_true rfl) dX12_readIf_34 ⟨Nat.le_of_ble_eq_true rfl, Nat.le_of_ble_eq_true rfl⟩ (fun H locs O => ?_)
  refine W.eq (g2 := F0 m 37 ls []) rfl ?_
  refine lv_aload_n hx hb dX12_readIf_37 rfl (lv_at hl 0 rfl) ?_
  refine lv_bipush (v := (17 : Int32)) hx hb dX12_readIf_38 (by decide) ?_
  obtain ⟨_, hut11, h⟩ := Option.bind_eq_some_iff.mp h
  obtain ⟨t12, ht12, h⟩ := Option.bind_eq_some_iff.mp h
  refine xr_callV (rest := []) X O (T_X12_eats l κ v0 (17 : Int32) t10 _ _ ht12) lk_X12_164 hut11 (by omega) rfl hl.1 rfl (Nat.le_of_ble_eq_true rfl) dX12_readIf_40 ⟨Nat.le_of_ble_eq_true rfl, Nat.le_of_ble_eq_true rfl⟩ (fun H locs O => ?_)
  refine W.eq (g2 := F0 m 43 ls [.int t12.1]) rfl ?_
  refine lv_if_ne (tgt := 51) hx hb dX12_readIf_43 (by decide) (fun hc43 => ?_) (fun hc43 => ?_)
  · rw [if_neg hc43] at h
    exact F_X12_readIf_51_ok hdd hrc0 hrc1 hrc2 hrc3 hrc4 hrc5 hrc6 X hr hlk v0 v1 t12.2 _ h hK H locs ls O (lv_sub hl [0, 1] rfl)
  rw [if_pos hc43] at h
  refine lv_aload_n hx hb dX12_readIf_46 rfl (lv_at hl 0 rfl) ?_
  refine lv_iconst (v := (2 : Int32)) hx hb dX12_readIf_47 (by decide) ?_
  obtain ⟨_, hut13, h⟩ := Option.bind_eq_some_iff.mp h
  obtain ⟨t14, ht14, h⟩ := Option.bind_eq_some_iff.mp h
  refine xr_callV (rest := []) X O (T_X12_fails l κ v0 (2 : Int32) t12.2 _ ht14) lk_X12_141 hut13 (by omega) rfl hl.1 rfl (Nat.le_of_ble_eq_true rfl) dX12_readIf_48 ⟨Nat.le_of_ble_eq_true rfl, Nat.le_of_ble_eq_true rfl⟩ (fun H locs O => ?_)
  refine W.eq (g2 := F0 m 51 ls []) rfl ?_
  exact F_X12_readIf_51_ok hdd hrc0 hrc1 hrc2 hrc3 hrc4 hrc5 hrc6 X hr hlk v0 v1 t14 _ h hK H locs ls O (lv_sub hl [0, 1] rfl)
set_option maxRecDepth 100000 in
set_option maxHeartbeats 4000000 in
theorem To_X12_readIf (l : Launch) {dd : Nat} (hdd : 8 ≤ dd) {rc : Nat → Nat → Int32 → xM → Option (xM)} (hrc0 : ∀ (κ : xQ) (a0 : Nat) (a1 : Int32) (M mo : xM), rc 0 a0 a1 M = some mo → xC l yX12_readAtom cX12_readAtom 2 none dd 0 0 κ [.ref (κ.1 + a0), .int a1] M none mo) (hrc1 : ∀ (κ : xQ) (a0 : Nat) (a1 : Int32) (M mo : xM), rc 1 a0 a1 M = some mo → xC l yX12_readBoth cX12_readBoth 2 none dd 0 0 κ [.ref (κ.1 + a0), .int a1] M none mo) (hrc2 : ∀ (κ : xQ) (a0 : Nat) (a1 : Int32) (M mo : xM), rc 2 a0 a1 M = some mo → xC l yX12_readIf cX12_readIf 2 none dd 0 0 κ [.ref (κ.1 + a0), .int a1] M none mo) (hrc3 : ∀ (κ : xQ) (a0 : Nat) (a1 : Int32) (M mo : xM), rc 3 a0 a1 M = some mo → xC l yX12_readSum cX12_readSum 3 none dd 0 0 κ [.ref (κ.1 + a0), .int a1] M none mo) (hrc4 : ∀ (κ : xQ) (a0 : Nat) (a1 : Int32) (M mo : xM), rc 4 a0 a1 M = some mo → xC l yX12_readTerm cX12_readTerm 2 none dd 0 0 κ [.ref (κ.1 + a0), .int a1] M none mo) (hrc5 : ∀ (κ : xQ) (a0 : Nat) (a1 : Int32) (M mo : xM), rc 5 a0 a1 M = some mo → xC l yX12_readTruth cX12_readTruth 2 none dd 0 0 κ [.ref (κ.1 + a0), .int a1] M none mo) (hrc6 : ∀ (κ : xQ) (a0 : Nat) (a1 : Int32) (M mo : xM), rc 6 a0 a1 M = some mo → xC l yX12_readUnit cX12_readUnit 3 none dd 0 0 κ [.ref (κ.1 + a0), .int a1] M none mo) (κ : xQ) (a0 : Nat) (a1 : Int32) (M : xM) (mo : xM) (h : F_X12_readIf rc a0 a1 M = some mo) : xC l yX12_readIf cX12_readIf 2 none (dd + 1) 0 0 κ [.ref (κ.1 + a0), .int a1] M none mo := by
  refine xC_of rfl (Nat.le_of_ble_eq_true rfl) fun p e s m args below meth c X hr hlk hnm H locs ls O hl => ?_
  have X : xX p s m args c cX12_readIf 2 RX12 κ := X
  have hl : lv_has ls 2 [(0, .ref (κ.1 + a0)), (1, .int a1)] := hl
  have hx := X.1
  have hb := X.2.1
  obtain ⟨x, hx0⟩ : ∃ x, mo = x := ⟨_, rfl⟩
  rw [hx0] at h
  have hK : x = mo := hx0.symm
  unfold F_X12_readIf at h
  refine lv_aload_n hx hb dX12_readIf_0 rfl (lv_at hl 0 rfl) ?_
  refine lv_iload_n hx hb dX12_readIf_1 rfl (lv_at hl 1 rfl) ?_
  obtain ⟨_, hut1, h⟩ := Option.bind_eq_some_iff.mp h
  obtain ⟨t2, ht2, h⟩ := Option.bind_eq_some_iff.mp h
  refine xr_callV (rest := []) X O (T_X12_goesIn l κ a0 a1 M _ _ ht2) lk_X12_158 hut1 (by omega) rfl hl.1 rfl (Nat.le_of_ble_eq_true rfl) dX12_readIf_2 ⟨Nat.le_of_ble_eq_true rfl, Nat.le_of_ble_eq_true rfl⟩ (fun H locs O => ?_)
  refine W.eq (g2 := F0 m 5 ls [.int t2.1]) rfl ?_
  refine lv_if_ne (tgt := 9) hx hb dX12_readIf_5 (by decide) (fun hc5 => ?_) (fun hc5 => ?_)
  · rw [if_neg hc5] at h
    refine lv_aload_n hx hb dX12_readIf_9 rfl (lv_at hl 0 rfl) ?_
    refine lv_iload_n hx hb dX12_readIf_10 rfl (lv_at hl 1 rfl) ?_
    refine lv_iconst (v := (1 : Int32)) hx hb dX12_readIf_11 (by decide) ?_
    refine lv_iadd hx hb dX12_readIf_12 ?_
    obtain ⟨_, hut3, h⟩ := Option.bind_eq_some_iff.mp h
    obtain ⟨t4, ht4, h⟩ := Option.bind_eq_some_iff.mp h
    refine xr_callV (rest := []) X O (hrc5 κ a0 (a1 + (1 : Int32)) t2.2 _ ht4) lk_X12_170 hut3 (Nat.le_refl _) rfl hl.1 rfl (Nat.le_of_ble_eq_true rfl) dX12_readIf_13 ⟨Nat.le_of_ble_eq_true rfl, Nat.le_of_ble_eq_true rfl⟩ (fun H locs O => ?_)
    refine W.eq (g2 := F0 m 16 ls []) rfl ?_
    refine lv_aload_n hx hb dX12_readIf_16 rfl (lv_at hl 0 rfl) ?_
    refine lv_bipush (v := (16 : Int32)) hx hb dX12_readIf_17 (by decide) ?_
    obtain ⟨_, hut5, h⟩ := Option.bind_eq_some_iff.mp h
    obtain ⟨t6, ht6, h⟩ := Option.bind_eq_some_iff.mp h
    refine xr_callV (rest := []) X O (T_X12_eats l κ a0 (16 : Int32) t4 _ _ ht6) lk_X12_164 hut5 (by omega) rfl hl.1 rfl (Nat.le_of_ble_eq_true rfl) dX12_readIf_19 ⟨Nat.le_of_ble_eq_true rfl, Nat.le_of_ble_eq_true rfl⟩ (fun H locs O => ?_)
    refine W.eq (g2 := F0 m 22 ls [.int t6.1]) rfl ?_
    refine lv_if_ne (tgt := 30) hx hb dX12_readIf_22 (by decide) (fun hc22 => ?_) (fun hc22 => ?_)
    · rw [if_neg hc22] at h
      exact F_X12_readIf_30_ok hdd hrc0 hrc1 hrc2 hrc3 hrc4 hrc5 hrc6 X hr hlk a0 a1 t6.2 _ h hK H locs ls O (lv_sub hl [0, 1] rfl)
    rw [if_pos hc22] at h
    refine lv_aload_n hx hb dX12_readIf_25 rfl (lv_at hl 0 rfl) ?_
    refine lv_iconst (v := (2 : Int32)) hx hb dX12_readIf_26 (by decide) ?_
    obtain ⟨_, hut7, h⟩ := Option.bind_eq_some_iff.mp h
    obtain ⟨t8, ht8, h⟩ := Option.bind_eq_some_iff.mp h
    refine xr_callV (rest := []) X O (T_X12_fails l κ a0 (2 : Int32) t6.2 _ ht8) lk_X12_141 hut7 (by omega) rfl hl.1 rfl (Nat.le_of_ble_eq_true rfl) dX12_readIf_27 ⟨Nat.le_of_ble_eq_true rfl, Nat.le_of_ble_eq_true rfl⟩ (fun H locs O => ?_)
    refine W.eq (g2 := F0 m 30 ls []) rfl ?_
    exact F_X12_readIf_30_ok hdd hrc0 hrc1 hrc2 hrc3 hrc4 hrc5 hrc6 X hr hlk a0 a1 t8 _ h hK H locs ls O (lv_sub hl [0, 1] rfl)
  rw [if_pos hc5] at h
  rw [← Option.some.inj h] at hK
  have hK : t2.2 = mo := hK
  rw [hK] at O
  exact xr_vret X hr hlk O dX12_readIf_8
set_option maxRecDepth 100000 in
set_option maxHeartbeats 4000000 in
theorem F_X12_readSum_41_ok {dd : Nat} (hdd : 8 ≤ dd) {rc : Nat → Nat → Int32 → xM → Option (xM)} (hrc0 : ∀ (κ : xQ) (a0 : Nat) (a1 : Int32) (M mo : xM), rc 0 a0 a1 M = some mo → xC l yX12_readAtom cX12_readAtom 2 none dd 0 0 κ [.ref (κ.1 + a0), .int a1] M none mo) (hrc1 : ∀ (κ : xQ) (a0 : Nat) (a1 : Int32) (M mo : xM), rc 1 a0 a1 M = some mo → xC l yX12_readBoth cX12_readBoth 2 none dd 0 0 κ [.ref (κ.1 + a0), .int a1] M none mo) (hrc2 : ∀ (κ : xQ) (a0 : Nat) (a1 : Int32) (M mo : xM), rc 2 a0 a1 M = some mo → xC l yX12_readIf cX12_readIf 2 none dd 0 0 κ [.ref (κ.1 + a0), .int a1] M none mo) (hrc3 : ∀ (κ : xQ) (a0 : Nat) (a1 : Int32) (M mo : xM), rc 3 a0 a1 M = some mo → xC l yX12_readSum cX12_readSum 3 none dd 0 0 κ [.ref (κ.1 + a0), .int a1] M none mo) (hrc4 : ∀ (κ : xQ) (a0 : Nat) (a1 : Int32) (M mo : xM), rc 4 a0 a1 M = some mo → xC l yX12_readTerm cX12_readTerm 2 none dd 0 0 κ [.ref (κ.1 + a0), .int a1] M none mo) (hrc5 : ∀ (κ : xQ) (a0 : Nat) (a1 : Int32) (M mo : xM), rc 5 a0 a1 M = some mo → xC l yX12_readTruth cX12_readTruth 2 none dd 0 0 κ [.ref (κ.1 + a0), .int a1] M none mo) (hrc6 : ∀ (κ : xQ) (a0 : Nat) (a1 : Int32) (M mo : xM), rc 6 a0 a1 M = some mo → xC l yX12_readUnit cX12_readUnit 3 none dd 0 0 κ [.ref (κ.1 + a0), .int a1] M none mo) (X : xX p s m args c cX12_readSum 3 RX12 κ) (hr : meth.sig.returnType = none) (hlk : meth.locks = false) {mo : xM} (v0 : Nat) (v1 : Int32) (s0 : Int32) {W5 : xM → Prop} (hW5 : ∀ (M : xM), W5 M → ∀ (H : Heap) (locs : List Loc) (ls : Array Slot), xO κ s M H locs → lv_has ls 3 [(0, .ref (κ.1 + v0)), (1, .int v1)] → W p l e (xRm (dd + 1) 0 0) s m args below meth c H locs 0 0 (xQf below args s 0 0 κ none mo) (F0 m 5 ls [])) (M : xM) (x : (xM) ⊕ (xM)) (h : F_X12_readSum_41 rc v0 v1 s0 M = some x) (hK : (xKl W5 (fun o => o = mo)) x) (H : Heap) (locs : List Loc) (ls : Array Slot) (O : xO κ s M H locs) (hl : lv_has ls 3 [(0, .ref (κ.1 + v0)), (1, .int v1)]) : W p l e (xRm (dd + 1) 0 0) s m args below meth c H locs 0 0 (xQf below args s 0 0 κ none mo) (F0 m 41 ls [.int s0]) := by
  unfold F_X12_readSum_41 at h
  have hx := X.1
  have hb := X.2.1
  refine lv_istore_n (lv' := [(2, .int s0), (0, .ref (κ.1 + v0)), (1, .int v1)]) hx hb dX12_readSum_41 rfl hl (by decide) rfl (fun ls hl => ?_)
  refine lv_aload_n hx hb dX12_readSum_42 rfl (lv_at hl 1 rfl) ?_
  obtain ⟨_, hut8, h⟩ := Option.bind_eq_some_iff.mp h
  obtain ⟨t9, ht9, h⟩ := Option.bind_eq_some_iff.mp h
  refine xr_callV (rest := []) X O (T_X12_next l κ v0 M _ ht9) lk_X12_138 hut8 (by omega) rfl hl.1 rfl (Nat.le_of_ble_eq_true rfl) dX12_readSum_43 ⟨Nat.le_of_ble_eq_true rfl, Nat.le_of_ble_eq_true rfl⟩ (fun H locs O => ?_)
  refine W.eq (g2 := F0 m 46 ls []) rfl ?_
  refine lv_aload_n hx hb dX12_readSum_46 rfl (lv_at hl 1 rfl) ?_
  refine lv_iload_n hx hb dX12_readSum_47 rfl (lv_at hl 2 rfl) ?_
  obtain ⟨_, hut10, h⟩ := Option.bind_eq_some_iff.mp h
  obtain ⟨t11, ht11, h⟩ := Option.bind_eq_some_iff.mp h
  refine xr_callV (rest := []) X O (hrc4 κ v0 v1 t9 _ ht11) lk_X12_176 hut10 (Nat.le_refl _) rfl hl.1 rfl (Nat.le_of_ble_eq_true rfl) dX12_readSum_48 ⟨Nat.le_of_ble_eq_true rfl, Nat.le_of_ble_eq_true rfl⟩ (fun H locs O => ?_)
  refine W.eq (g2 := F0 m 51 ls []) rfl ?_
  refine lv_aload_n hx hb dX12_readSum_51 rfl (lv_at hl 1 rfl) ?_
  refine lv_iload_n hx hb dX12_readSum_52 rfl (lv_at hl 0 rfl) ?_
  obtain ⟨_, hut12, h⟩ := Option.bind_eq_some_iff.mp h
  obtain ⟨t13, ht13, h⟩ := Option.bind_eq_some_iff.mp h
  refine xr_callV (rest := []) X O (T_X12_codes l κ v0 s0 t11 _ ht13) lk_X12_152 hut12 (by omega) rfl hl.1 rfl (Nat.le_of_ble_eq_true rfl) dX12_readSum_53 ⟨Nat.le_of_ble_eq_true rfl, Nat.le_of_ble_eq_true rfl⟩ (fun H locs O => ?_)
  refine W.eq (g2 := F0 m 56 ls []) rfl ?_
  refine lv_goto (tgt := 5) hx hb dX12_readSum_56 (by decide) ?_
  rw [← Option.some.inj h] at hK
  exact hW5 t13 hK H locs ls O (lv_sub hl [1, 2] rfl)
set_option maxRecDepth 100000 in
set_option maxHeartbeats 4000000 in
theorem F_X12_readSum_23_ok {dd : Nat} (hdd : 8 ≤ dd) {rc : Nat → Nat → Int32 → xM → Option (xM)} (hrc0 : ∀ (κ : xQ) (a0 : Nat) (a1 : Int32) (M mo : xM), rc 0 a0 a1 M = some mo → xC l yX12_readAtom cX12_readAtom 2 none dd 0 0 κ [.ref (κ.1 + a0), .int a1] M none mo) (hrc1 : ∀ (κ : xQ) (a0 : Nat) (a1 : Int32) (M mo : xM), rc 1 a0 a1 M = some mo → xC l yX12_readBoth cX12_readBoth 2 none dd 0 0 κ [.ref (κ.1 + a0), .int a1] M none mo) (hrc2 : ∀ (κ : xQ) (a0 : Nat) (a1 : Int32) (M mo : xM), rc 2 a0 a1 M = some mo → xC l yX12_readIf cX12_readIf 2 none dd 0 0 κ [.ref (κ.1 + a0), .int a1] M none mo) (hrc3 : ∀ (κ : xQ) (a0 : Nat) (a1 : Int32) (M mo : xM), rc 3 a0 a1 M = some mo → xC l yX12_readSum cX12_readSum 3 none dd 0 0 κ [.ref (κ.1 + a0), .int a1] M none mo) (hrc4 : ∀ (κ : xQ) (a0 : Nat) (a1 : Int32) (M mo : xM), rc 4 a0 a1 M = some mo → xC l yX12_readTerm cX12_readTerm 2 none dd 0 0 κ [.ref (κ.1 + a0), .int a1] M none mo) (hrc5 : ∀ (κ : xQ) (a0 : Nat) (a1 : Int32) (M mo : xM), rc 5 a0 a1 M = some mo → xC l yX12_readTruth cX12_readTruth 2 none dd 0 0 κ [.ref (κ.1 + a0), .int a1] M none mo) (hrc6 : ∀ (κ : xQ) (a0 : Nat) (a1 : Int32) (M mo : xM), rc 6 a0 a1 M = some mo → xC l yX12_readUnit cX12_readUnit 3 none dd 0 0 κ [.ref (κ.1 + a0), .int a1] M none mo) (X : xX p s m args c cX12_readSum 3 RX12 κ) (hr : meth.sig.returnType = none) (hlk : meth.locks = false) {mo : xM} (v0 : Nat) (v1 : Int32) {W5 : xM → Prop} (hW5 : ∀ (M : xM), W5 M → ∀ (H : Heap) (locs : List Loc) (ls : Array Slot), xO κ s M H locs → lv_has ls 3 [(0, .ref (κ.1 + v0)), (1, .int v1)] → W p l e (xRm (dd + 1) 0 0) s m args below meth c H locs 0 0 (xQf below args s 0 0 κ none mo) (F0 m 5 ls [])) (M : xM) (x : (xM) ⊕ (xM)) (h : F_X12_readSum_23 rc v0 v1 M = some x) (hK : (xKl W5 (fun o => o = mo)) x) (H : Heap) (locs : List Loc) (ls : Array Slot) (O : xO κ s M H locs) (hl : lv_has ls 3 [(0, .ref (κ.1 + v0)), (1, .int v1)]) : W p l e (xRm (dd + 1) 0 0) s m args below meth c H locs 0 0 (xQf below args s 0 0 κ none mo) (F0 m 23 ls []) := by
  unfold F_X12_readSum_23 at h
  have hx := X.1
  have hb := X.2.1
  refine lv_aload_n hx hb dX12_readSum_23 rfl (lv_at hl 0 rfl) ?_
  obtain ⟨t7, ht7, h⟩ := Option.bind_eq_some_iff.mp h
  refine xr_getI X O ht7 fl_X12_111 (Or.inl rfl) dX12_readSum_24 ?_
  refine lv_bipush (v := (34 : Int32)) hx hb dX12_readSum_27 (by decide) ?_
  refine lv_icmp_ne (tgt := 38) hx hb dX12_readSum_29 (by decide) (fun hc29 => ?_) (fun hc29 => ?_)
  · rw [if_neg hc29] at h
    refine lv_sipush (v := (3001 : Int32)) hx hb dX12_readSum_38 (by decide) ?_
    exact F_X12_readSum_41_ok hdd hrc0 hrc1 hrc2 hrc3 hrc4 hrc5 hrc6 X hr hlk v0 v1 (3001 : Int32) hW5 M _ h hK H locs ls O (lv_sub hl [0, 1] rfl)
  rw [if_pos hc29] at h
  refine lv_sipush (v := (3000 : Int32)) hx hb dX12_readSum_32 (by decide) ?_
  refine lv_goto (tgt := 41) hx hb dX12_readSum_35 (by decide) ?_
  exact F_X12_readSum_41_ok hdd hrc0 hrc1 hrc2 hrc3 hrc4 hrc5 hrc6 X hr hlk v0 v1 (3000 : Int32) hW5 M _ h hK H locs ls O (lv_sub hl [0, 1] rfl)
set_option maxRecDepth 100000 in
set_option maxHeartbeats 4000000 in
theorem F_X12_readSum_59_ok {dd : Nat} (hdd : 8 ≤ dd) {rc : Nat → Nat → Int32 → xM → Option (xM)} (hrc0 : ∀ (κ : xQ) (a0 : Nat) (a1 : Int32) (M mo : xM), rc 0 a0 a1 M = some mo → xC l yX12_readAtom cX12_readAtom 2 none dd 0 0 κ [.ref (κ.1 + a0), .int a1] M none mo) (hrc1 : ∀ (κ : xQ) (a0 : Nat) (a1 : Int32) (M mo : xM), rc 1 a0 a1 M = some mo → xC l yX12_readBoth cX12_readBoth 2 none dd 0 0 κ [.ref (κ.1 + a0), .int a1] M none mo) (hrc2 : ∀ (κ : xQ) (a0 : Nat) (a1 : Int32) (M mo : xM), rc 2 a0 a1 M = some mo → xC l yX12_readIf cX12_readIf 2 none dd 0 0 κ [.ref (κ.1 + a0), .int a1] M none mo) (hrc3 : ∀ (κ : xQ) (a0 : Nat) (a1 : Int32) (M mo : xM), rc 3 a0 a1 M = some mo → xC l yX12_readSum cX12_readSum 3 none dd 0 0 κ [.ref (κ.1 + a0), .int a1] M none mo) (hrc4 : ∀ (κ : xQ) (a0 : Nat) (a1 : Int32) (M mo : xM), rc 4 a0 a1 M = some mo → xC l yX12_readTerm cX12_readTerm 2 none dd 0 0 κ [.ref (κ.1 + a0), .int a1] M none mo) (hrc5 : ∀ (κ : xQ) (a0 : Nat) (a1 : Int32) (M mo : xM), rc 5 a0 a1 M = some mo → xC l yX12_readTruth cX12_readTruth 2 none dd 0 0 κ [.ref (κ.1 + a0), .int a1] M none mo) (hrc6 : ∀ (κ : xQ) (a0 : Nat) (a1 : Int32) (M mo : xM), rc 6 a0 a1 M = some mo → xC l yX12_readUnit cX12_readUnit 3 none dd 0 0 κ [.ref (κ.1 + a0), .int a1] M none mo) (X : xX p s m args c cX12_readSum 3 RX12 κ) (hr : meth.sig.returnType = none) (hlk : meth.locks = false) {mo : xM} (M : xM) (x : xM) (h : F_X12_readSum_59 rc M = some x) (hK : (fun o => o = mo) x) (H : Heap) (locs : List Loc) (ls : Array Slot) (O : xO κ s M H locs) (hl : lv_has ls 3 []) : W p l e (xRm (dd + 1) 0 0) s m args below meth c H locs 0 0 (xQf below args s 0 0 κ none mo) (F0 m 59 ls []) := by
  unfold F_X12_readSum_59 at h
  have hx := X.1
  have hb := X.2.1
  rw [← Option.some.inj h] at hK
  have hK : M = mo := hK
  rw [hK] at O
  exact xr_vret X hr hlk O dX12_readSum_59
set_option maxRecDepth 100000 in
set_option maxHeartbeats 4000000 in
theorem F_X12_readSum_5_bok {dd : Nat} (hdd : 8 ≤ dd) {rc : Nat → Nat → Int32 → xM → Option (xM)} (hrc0 : ∀ (κ : xQ) (a0 : Nat) (a1 : Int32) (M mo : xM), rc 0 a0 a1 M = some mo → xC l yX12_readAtom cX12_readAtom 2 none dd 0 0 κ [.ref (κ.1 + a0), .int a1] M none mo) (hrc1 : ∀ (κ : xQ) (a0 : Nat) (a1 : Int32) (M mo : xM), rc 1 a0 a1 M = some mo → xC l yX12_readBoth cX12_readBoth 2 none dd 0 0 κ [.ref (κ.1 + a0), .int a1] M none mo) (hrc2 : ∀ (κ : xQ) (a0 : Nat) (a1 : Int32) (M mo : xM), rc 2 a0 a1 M = some mo → xC l yX12_readIf cX12_readIf 2 none dd 0 0 κ [.ref (κ.1 + a0), .int a1] M none mo) (hrc3 : ∀ (κ : xQ) (a0 : Nat) (a1 : Int32) (M mo : xM), rc 3 a0 a1 M = some mo → xC l yX12_readSum cX12_readSum 3 none dd 0 0 κ [.ref (κ.1 + a0), .int a1] M none mo) (hrc4 : ∀ (κ : xQ) (a0 : Nat) (a1 : Int32) (M mo : xM), rc 4 a0 a1 M = some mo → xC l yX12_readTerm cX12_readTerm 2 none dd 0 0 κ [.ref (κ.1 + a0), .int a1] M none mo) (hrc5 : ∀ (κ : xQ) (a0 : Nat) (a1 : Int32) (M mo : xM), rc 5 a0 a1 M = some mo → xC l yX12_readTruth cX12_readTruth 2 none dd 0 0 κ [.ref (κ.1 + a0), .int a1] M none mo) (hrc6 : ∀ (κ : xQ) (a0 : Nat) (a1 : Int32) (M mo : xM), rc 6 a0 a1 M = some mo → xC l yX12_readUnit cX12_readUnit 3 none dd 0 0 κ [.ref (κ.1 + a0), .int a1] M none mo) (X : xX p s m args c cX12_readSum 3 RX12 κ) (hr : meth.sig.returnType = none) (hlk : meth.locks = false) {mo : xM} (v0 : Nat) (v1 : Int32) {W5 : xM → Prop} (hW5 : ∀ (M : xM), W5 M → ∀ (H : Heap) (locs : List Loc) (ls : Array Slot), xO κ s M H locs → lv_has ls 3 [(0, .ref (κ.1 + v0)), (1, .int v1)] → W p l e (xRm (dd + 1) 0 0) s m args below meth c H locs 0 0 (xQf below args s 0 0 κ none mo) (F0 m 5 ls [])) (M : xM) (x : (xM) ⊕ (xM)) (h : F_X12_readSum_5b rc v0 v1 M = some x) (hK : (xKl W5 (fun o => o = mo)) x) (H : Heap) (locs : List Loc) (ls : Array Slot) (O : xO κ s M H locs) (hl : lv_has ls 3 [(0, .ref (κ.1 + v0)), (1, .int v1)]) : W p l e (xRm (dd + 1) 0 0) s m args below meth c H locs 0 0 (xQf below args s 0 0 κ none mo) (F0 m 5 ls []) := by
  unfold F_X12_readSum_5b at h
  have hx := X.1
  have hb := X.2.1
  refine lv_aload_n hx hb dX12_readSum_5 rfl (lv_at hl 0 rfl) ?_
  refine lv_bipush (v := (34 : Int32)) hx hb dX12_readSum_6 (by decide) ?_
  obtain ⟨_, hut3, h⟩ := Option.bind_eq_some_iff.mp h
  obtain ⟨t4, ht4, h⟩ := Option.bind_eq_some_iff.mp h
  refine xr_callV (rest := []) X O (T_X12_is l κ v0 (34 : Int32) M _ _ ht4) lk_X12_135 hut3 (by omega) rfl hl.1 rfl (Nat.le_of_ble_eq_true rfl) dX12_readSum_8 ⟨Nat.le_of_ble_eq_true rfl, Nat.le_of_ble_eq_true rfl⟩ (fun H locs O => ?_)
  refine W.eq (g2 := F0 m 11 ls [.int t4.1]) rfl ?_
  refine lv_if_ne (tgt := 23) hx hb dX12_readSum_11 (by decide) (fun hc11 => ?_) (fun hc11 => ?_)
  · rw [if_neg hc11] at h
    exact F_X12_readSum_23_ok hdd hrc0 hrc1 hrc2 hrc3 hrc4 hrc5 hrc6 X hr hlk v0 v1 hW5 t4.2 _ h hK H locs ls O (lv_sub hl [0, 1] rfl)
  rw [if_pos hc11] at h
  refine lv_aload_n hx hb dX12_readSum_14 rfl (lv_at hl 0 rfl) ?_
  refine lv_bipush (v := (35 : Int32)) hx hb dX12_readSum_15 (by decide) ?_
  obtain ⟨_, hut5, h⟩ := Option.bind_eq_some_iff.mp h
  obtain ⟨t6, ht6, h⟩ := Option.bind_eq_some_iff.mp h
  refine xr_callV (rest := []) X O (T_X12_is l κ v0 (35 : Int32) t4.2 _ _ ht6) lk_X12_135 hut5 (by omega) rfl hl.1 rfl (Nat.le_of_ble_eq_true rfl) dX12_readSum_17 ⟨Nat.le_of_ble_eq_true rfl, Nat.le_of_ble_eq_true rfl⟩ (fun H locs O => ?_)
  refine W.eq (g2 := F0 m 20 ls [.int t6.1]) rfl ?_
  refine lv_if_eq (tgt := 59) hx hb dX12_readSum_20 (by decide) (fun hc20 => ?_) (fun hc20 => ?_)
  · rw [if_pos hc20] at h
    obtain ⟨_, hw0, ew0⟩ := Option.map_eq_some_iff.mp h
    rw [← ew0] at hK
    have h := hw0
    exact F_X12_readSum_59_ok hdd hrc0 hrc1 hrc2 hrc3 hrc4 hrc5 hrc6 X hr hlk  t6.2 _ h hK H locs ls O (lv_sub hl [] rfl)
  rw [if_neg hc20] at h
  exact F_X12_readSum_23_ok hdd hrc0 hrc1 hrc2 hrc3 hrc4 hrc5 hrc6 X hr hlk v0 v1 hW5 t6.2 _ h hK H locs ls O (lv_sub hl [0, 1] rfl)
set_option maxRecDepth 100000 in
set_option maxHeartbeats 4000000 in
theorem F_X12_readSum_5_ok {dd : Nat} (hdd : 8 ≤ dd) {rc : Nat → Nat → Int32 → xM → Option (xM)} (hrc0 : ∀ (κ : xQ) (a0 : Nat) (a1 : Int32) (M mo : xM), rc 0 a0 a1 M = some mo → xC l yX12_readAtom cX12_readAtom 2 none dd 0 0 κ [.ref (κ.1 + a0), .int a1] M none mo) (hrc1 : ∀ (κ : xQ) (a0 : Nat) (a1 : Int32) (M mo : xM), rc 1 a0 a1 M = some mo → xC l yX12_readBoth cX12_readBoth 2 none dd 0 0 κ [.ref (κ.1 + a0), .int a1] M none mo) (hrc2 : ∀ (κ : xQ) (a0 : Nat) (a1 : Int32) (M mo : xM), rc 2 a0 a1 M = some mo → xC l yX12_readIf cX12_readIf 2 none dd 0 0 κ [.ref (κ.1 + a0), .int a1] M none mo) (hrc3 : ∀ (κ : xQ) (a0 : Nat) (a1 : Int32) (M mo : xM), rc 3 a0 a1 M = some mo → xC l yX12_readSum cX12_readSum 3 none dd 0 0 κ [.ref (κ.1 + a0), .int a1] M none mo) (hrc4 : ∀ (κ : xQ) (a0 : Nat) (a1 : Int32) (M mo : xM), rc 4 a0 a1 M = some mo → xC l yX12_readTerm cX12_readTerm 2 none dd 0 0 κ [.ref (κ.1 + a0), .int a1] M none mo) (hrc5 : ∀ (κ : xQ) (a0 : Nat) (a1 : Int32) (M mo : xM), rc 5 a0 a1 M = some mo → xC l yX12_readTruth cX12_readTruth 2 none dd 0 0 κ [.ref (κ.1 + a0), .int a1] M none mo) (hrc6 : ∀ (κ : xQ) (a0 : Nat) (a1 : Int32) (M mo : xM), rc 6 a0 a1 M = some mo → xC l yX12_readUnit cX12_readUnit 3 none dd 0 0 κ [.ref (κ.1 + a0), .int a1] M none mo) (X : xX p s m args c cX12_readSum 3 RX12 κ) (hr : meth.sig.returnType = none) (hlk : meth.locks = false) {mo : xM} (v0 : Nat) (v1 : Int32) (M : xM) (x : xM) (h : F_X12_readSum_5 rc v0 v1 M = some x) (hK : (fun o => o = mo) x) (H : Heap) (locs : List Loc) (ls : Array Slot) (O : xO κ s M H locs) (hl : lv_has ls 3 [(0, .ref (κ.1 + v0)), (1, .int v1)]) : W p l e (xRm (dd + 1) 0 0) s m args below meth c H locs 0 0 (xQf below args s 0 0 κ none mo) (F0 m 5 ls []) := by
  refine xit_K (Wh := fun x => ∀ (H : Heap) (locs : List Loc) (ls : Array Slot), xO κ s x H locs → lv_has ls 3 [(0, .ref (κ.1 + v0)), (1, .int v1)] → W p l e (xRm (dd + 1) 0 0) s m args below meth c H locs 0 0 (xQf below args s 0 0 κ none mo) (F0 m 5 ls [])) (Kp := (fun o => o = mo)) ?_ xFU M x h hK H locs ls O hl
  intro y x h hK H locs ls O hl
  exact F_X12_readSum_5_bok hdd hrc0 hrc1 hrc2 hrc3 hrc4 hrc5 hrc6 X hr hlk v0 v1 (fun  _ hw => hw) y x h hK H locs ls O hl
set_option maxRecDepth 100000 in
set_option maxHeartbeats 4000000 in
theorem To_X12_readSum (l : Launch) {dd : Nat} (hdd : 8 ≤ dd) {rc : Nat → Nat → Int32 → xM → Option (xM)} (hrc0 : ∀ (κ : xQ) (a0 : Nat) (a1 : Int32) (M mo : xM), rc 0 a0 a1 M = some mo → xC l yX12_readAtom cX12_readAtom 2 none dd 0 0 κ [.ref (κ.1 + a0), .int a1] M none mo) (hrc1 : ∀ (κ : xQ) (a0 : Nat) (a1 : Int32) (M mo : xM), rc 1 a0 a1 M = some mo → xC l yX12_readBoth cX12_readBoth 2 none dd 0 0 κ [.ref (κ.1 + a0), .int a1] M none mo) (hrc2 : ∀ (κ : xQ) (a0 : Nat) (a1 : Int32) (M mo : xM), rc 2 a0 a1 M = some mo → xC l yX12_readIf cX12_readIf 2 none dd 0 0 κ [.ref (κ.1 + a0), .int a1] M none mo) (hrc3 : ∀ (κ : xQ) (a0 : Nat) (a1 : Int32) (M mo : xM), rc 3 a0 a1 M = some mo → xC l yX12_readSum cX12_readSum 3 none dd 0 0 κ [.ref (κ.1 + a0), .int a1] M none mo) (hrc4 : ∀ (κ : xQ) (a0 : Nat) (a1 : Int32) (M mo : xM), rc 4 a0 a1 M = some mo → xC l yX12_readTerm cX12_readTerm 2 none dd 0 0 κ [.ref (κ.1 + a0), .int a1] M none mo) (hrc5 : ∀ (κ : xQ) (a0 : Nat) (a1 : Int32) (M mo : xM), rc 5 a0 a1 M = some mo → xC l yX12_readTruth cX12_readTruth 2 none dd 0 0 κ [.ref (κ.1 + a0), .int a1] M none mo) (hrc6 : ∀ (κ : xQ) (a0 : Nat) (a1 : Int32) (M mo : xM), rc 6 a0 a1 M = some mo → xC l yX12_readUnit cX12_readUnit 3 none dd 0 0 κ [.ref (κ.1 + a0), .int a1] M none mo) (κ : xQ) (a0 : Nat) (a1 : Int32) (M : xM) (mo : xM) (h : F_X12_readSum rc a0 a1 M = some mo) : xC l yX12_readSum cX12_readSum 3 none (dd + 1) 0 0 κ [.ref (κ.1 + a0), .int a1] M none mo := by
  refine xC_of rfl (Nat.le_of_ble_eq_true rfl) fun p e s m args below meth c X hr hlk hnm H locs ls O hl => ?_
  have X : xX p s m args c cX12_readSum 3 RX12 κ := X
  have hl : lv_has ls 3 [(0, .ref (κ.1 + a0)), (1, .int a1)] := hl
  have hx := X.1
  have hb := X.2.1
  obtain ⟨x, hx0⟩ : ∃ x, mo = x := ⟨_, rfl⟩
  rw [hx0] at h
  have hK : x = mo := hx0.symm
  unfold F_X12_readSum at h
  refine lv_aload_n hx hb dX12_readSum_0 rfl (lv_at hl 0 rfl) ?_
  refine lv_iload_n hx hb dX12_readSum_1 rfl (lv_at hl 1 rfl) ?_
  obtain ⟨_, hut1, h⟩ := Option.bind_eq_some_iff.mp h
  obtain ⟨t2, ht2, h⟩ := Option.bind_eq_some_iff.mp h
  refine xr_callV (rest := []) X O (hrc4 κ a0 a1 M _ ht2) lk_X12_176 hut1 (Nat.le_refl _) rfl hl.1 rfl (Nat.le_of_ble_eq_true rfl) dX12_readSum_2 ⟨Nat.le_of_ble_eq_true rfl, Nat.le_of_ble_eq_true rfl⟩ (fun H locs O => ?_)
  refine W.eq (g2 := F0 m 5 ls []) rfl ?_
  exact F_X12_readSum_5_ok hdd hrc0 hrc1 hrc2 hrc3 hrc4 hrc5 hrc6 X hr hlk a0 a1 t2 _ h hK H locs ls O (lv_sub hl [0, 1] rfl)
set_option maxRecDepth 100000 in
set_option maxHeartbeats 4000000 in
theorem F_X12_readTerm_29_ok {dd : Nat} (hdd : 8 ≤ dd) {rc : Nat → Nat → Int32 → xM → Option (xM)} (hrc0 : ∀ (κ : xQ) (a0 : Nat) (a1 : Int32) (M mo : xM), rc 0 a0 a1 M = some mo → xC l yX12_readAtom cX12_readAtom 2 none dd 0 0 κ [.ref (κ.1 + a0), .int a1] M none mo) (hrc1 : ∀ (κ : xQ) (a0 : Nat) (a1 : Int32) (M mo : xM), rc 1 a0 a1 M = some mo → xC l yX12_readBoth cX12_readBoth 2 none dd 0 0 κ [.ref (κ.1 + a0), .int a1] M none mo) (hrc2 : ∀ (κ : xQ) (a0 : Nat) (a1 : Int32) (M mo : xM), rc 2 a0 a1 M = some mo → xC l yX12_readIf cX12_readIf 2 none dd 0 0 κ [.ref (κ.1 + a0), .int a1] M none mo) (hrc3 : ∀ (κ : xQ) (a0 : Nat) (a1 : Int32) (M mo : xM), rc 3 a0 a1 M = some mo → xC l yX12_readSum cX12_readSum 3 none dd 0 0 κ [.ref (κ.1 + a0), .int a1] M none mo) (hrc4 : ∀ (κ : xQ) (a0 : Nat) (a1 : Int32) (M mo : xM), rc 4 a0 a1 M = some mo → xC l yX12_readTerm cX12_readTerm 2 none dd 0 0 κ [.ref (κ.1 + a0), .int a1] M none mo) (hrc5 : ∀ (κ : xQ) (a0 : Nat) (a1 : Int32) (M mo : xM), rc 5 a0 a1 M = some mo → xC l yX12_readTruth cX12_readTruth 2 none dd 0 0 κ [.ref (κ.1 + a0), .int a1] M none mo) (hrc6 : ∀ (κ : xQ) (a0 : Nat) (a1 : Int32) (M mo : xM), rc 6 a0 a1 M = some mo → xC l yX12_readUnit cX12_readUnit 3 none dd 0 0 κ [.ref (κ.1 + a0), .int a1] M none mo) (X : xX p s m args c cX12_readTerm 2 RX12 κ) (hr : meth.sig.returnType = none) (hlk : meth.locks = false) {mo : xM} (M : xM) (x : xM) (h : F_X12_readTerm_29 rc M = some x) (hK : (fun o => o = mo) x) (H : Heap) (locs : List Loc) (ls : Array Slot) (O : xO κ s M H locs) (hl : lv_has ls 2 []) : W p l e (xRm (dd + 1) 0 0) s m args below meth c H locs 0 0 (xQf below args s 0 0 κ none mo) (F0 m 29 ls []) := by
  unfold F_X12_readTerm_29 at h
  have hx := X.1
  have hb := X.2.1
  rw [← Option.some.inj h] at hK
  have hK : M = mo := hK
  rw [hK] at O
  exact xr_vret X hr hlk O dX12_readTerm_29
set_option maxRecDepth 100000 in
set_option maxHeartbeats 4000000 in
theorem F_X12_readTerm_5_bok {dd : Nat} (hdd : 8 ≤ dd) {rc : Nat → Nat → Int32 → xM → Option (xM)} (hrc0 : ∀ (κ : xQ) (a0 : Nat) (a1 : Int32) (M mo : xM), rc 0 a0 a1 M = some mo → xC l yX12_readAtom cX12_readAtom 2 none dd 0 0 κ [.ref (κ.1 + a0), .int a1] M none mo) (hrc1 : ∀ (κ : xQ) (a0 : Nat) (a1 : Int32) (M mo : xM), rc 1 a0 a1 M = some mo → xC l yX12_readBoth cX12_readBoth 2 none dd 0 0 κ [.ref (κ.1 + a0), .int a1] M none mo) (hrc2 : ∀ (κ : xQ) (a0 : Nat) (a1 : Int32) (M mo : xM), rc 2 a0 a1 M = some mo → xC l yX12_readIf cX12_readIf 2 none dd 0 0 κ [.ref (κ.1 + a0), .int a1] M none mo) (hrc3 : ∀ (κ : xQ) (a0 : Nat) (a1 : Int32) (M mo : xM), rc 3 a0 a1 M = some mo → xC l yX12_readSum cX12_readSum 3 none dd 0 0 κ [.ref (κ.1 + a0), .int a1] M none mo) (hrc4 : ∀ (κ : xQ) (a0 : Nat) (a1 : Int32) (M mo : xM), rc 4 a0 a1 M = some mo → xC l yX12_readTerm cX12_readTerm 2 none dd 0 0 κ [.ref (κ.1 + a0), .int a1] M none mo) (hrc5 : ∀ (κ : xQ) (a0 : Nat) (a1 : Int32) (M mo : xM), rc 5 a0 a1 M = some mo → xC l yX12_readTruth cX12_readTruth 2 none dd 0 0 κ [.ref (κ.1 + a0), .int a1] M none mo) (hrc6 : ∀ (κ : xQ) (a0 : Nat) (a1 : Int32) (M mo : xM), rc 6 a0 a1 M = some mo → xC l yX12_readUnit cX12_readUnit 3 none dd 0 0 κ [.ref (κ.1 + a0), .int a1] M none mo) (X : xX p s m args c cX12_readTerm 2 RX12 κ) (hr : meth.sig.returnType = none) (hlk : meth.locks = false) {mo : xM} (v0 : Nat) (v1 : Int32) {W5 : xM → Prop} (hW5 : ∀ (M : xM), W5 M → ∀ (H : Heap) (locs : List Loc) (ls : Array Slot), xO κ s M H locs → lv_has ls 2 [(0, .ref (κ.1 + v0)), (1, .int v1)] → W p l e (xRm (dd + 1) 0 0) s m args below meth c H locs 0 0 (xQf below args s 0 0 κ none mo) (F0 m 5 ls [])) (M : xM) (x : (xM) ⊕ (xM)) (h : F_X12_readTerm_5b rc v0 v1 M = some x) (hK : (xKl W5 (fun o => o = mo)) x) (H : Heap) (locs : List Loc) (ls : Array Slot) (O : xO κ s M H locs) (hl : lv_has ls 2 [(0, .ref (κ.1 + v0)), (1, .int v1)]) : W p l e (xRm (dd + 1) 0 0) s m args below meth c H locs 0 0 (xQf below args s 0 0 κ none mo) (F0 m 5 ls []) := by
  unfold F_X12_readTerm_5b at h
  have hx := X.1
  have hb := X.2.1
  refine lv_aload_n hx hb dX12_readTerm_5 rfl (lv_at hl 0 rfl) ?_
  refine lv_bipush (v := (36 : Int32)) hx hb dX12_readTerm_6 (by decide) ?_
  obtain ⟨_, hut3, h⟩ := Option.bind_eq_some_iff.mp h
  obtain ⟨t4, ht4, h⟩ := Option.bind_eq_some_iff.mp h
  refine xr_callV (rest := []) X O (T_X12_eats l κ v0 (36 : Int32) M _ _ ht4) lk_X12_164 hut3 (by omega) rfl hl.1 rfl (Nat.le_of_ble_eq_true rfl) dX12_readTerm_8 ⟨Nat.le_of_ble_eq_true rfl, Nat.le_of_ble_eq_true rfl⟩ (fun H locs O => ?_)
  refine W.eq (g2 := F0 m 11 ls [.int t4.1]) rfl ?_
  refine lv_if_eq (tgt := 29) hx hb dX12_readTerm_11 (by decide) (fun hc11 => ?_) (fun hc11 => ?_)
  · rw [if_pos hc11] at h
    obtain ⟨_, hw0, ew0⟩ := Option.map_eq_some_iff.mp h
    rw [← ew0] at hK
    have h := hw0
    exact F_X12_readTerm_29_ok hdd hrc0 hrc1 hrc2 hrc3 hrc4 hrc5 hrc6 X hr hlk  t4.2 _ h hK H locs ls O (lv_sub hl [] rfl)
  rw [if_neg hc11] at h
  refine lv_aload_n hx hb dX12_readTerm_14 rfl (lv_at hl 0 rfl) ?_
  refine lv_iload_n hx hb dX12_readTerm_15 rfl (lv_at hl 1 rfl) ?_
  obtain ⟨_, hut5, h⟩ := Option.bind_eq_some_iff.mp h
  obtain ⟨t6, ht6, h⟩ := Option.bind_eq_some_iff.mp h
  refine xr_callV (rest := []) X O (hrc0 κ v0 v1 t4.2 _ ht6) lk_X12_173 hut5 (Nat.le_refl _) rfl hl.1 rfl (Nat.le_of_ble_eq_true rfl) dX12_readTerm_16 ⟨Nat.le_of_ble_eq_true rfl, Nat.le_of_ble_eq_true rfl⟩ (fun H locs O => ?_)
  refine W.eq (g2 := F0 m 19 ls []) rfl ?_
  refine lv_aload_n hx hb dX12_readTerm_19 rfl (lv_at hl 0 rfl) ?_
  refine lv_sipush (v := (3002 : Int32)) hx hb dX12_readTerm_20 (by decide) ?_
  obtain ⟨_, hut7, h⟩ := Option.bind_eq_some_iff.mp h
  obtain ⟨t8, ht8, h⟩ := Option.bind_eq_some_iff.mp h
  refine xr_callV (rest := []) X O (T_X12_codes l κ v0 (3002 : Int32) t6 _ ht8) lk_X12_152 hut7 (by omega) rfl hl.1 rfl (Nat.le_of_ble_eq_true rfl) dX12_readTerm_23 ⟨Nat.le_of_ble_eq_true rfl, Nat.le_of_ble_eq_true rfl⟩ (fun H locs O => ?_)
  refine W.eq (g2 := F0 m 26 ls []) rfl ?_
  refine lv_goto (tgt := 5) hx hb dX12_readTerm_26 (by decide) ?_
  rw [← Option.some.inj h] at hK
  exact hW5 t8 hK H locs ls O (lv_sub hl [0, 1] rfl)
set_option maxRecDepth 100000 in
set_option maxHeartbeats 4000000 in
theorem F_X12_readTerm_5_ok {dd : Nat} (hdd : 8 ≤ dd) {rc : Nat → Nat → Int32 → xM → Option (xM)} (hrc0 : ∀ (κ : xQ) (a0 : Nat) (a1 : Int32) (M mo : xM), rc 0 a0 a1 M = some mo → xC l yX12_readAtom cX12_readAtom 2 none dd 0 0 κ [.ref (κ.1 + a0), .int a1] M none mo) (hrc1 : ∀ (κ : xQ) (a0 : Nat) (a1 : Int32) (M mo : xM), rc 1 a0 a1 M = some mo → xC l yX12_readBoth cX12_readBoth 2 none dd 0 0 κ [.ref (κ.1 + a0), .int a1] M none mo) (hrc2 : ∀ (κ : xQ) (a0 : Nat) (a1 : Int32) (M mo : xM), rc 2 a0 a1 M = some mo → xC l yX12_readIf cX12_readIf 2 none dd 0 0 κ [.ref (κ.1 + a0), .int a1] M none mo) (hrc3 : ∀ (κ : xQ) (a0 : Nat) (a1 : Int32) (M mo : xM), rc 3 a0 a1 M = some mo → xC l yX12_readSum cX12_readSum 3 none dd 0 0 κ [.ref (κ.1 + a0), .int a1] M none mo) (hrc4 : ∀ (κ : xQ) (a0 : Nat) (a1 : Int32) (M mo : xM), rc 4 a0 a1 M = some mo → xC l yX12_readTerm cX12_readTerm 2 none dd 0 0 κ [.ref (κ.1 + a0), .int a1] M none mo) (hrc5 : ∀ (κ : xQ) (a0 : Nat) (a1 : Int32) (M mo : xM), rc 5 a0 a1 M = some mo → xC l yX12_readTruth cX12_readTruth 2 none dd 0 0 κ [.ref (κ.1 + a0), .int a1] M none mo) (hrc6 : ∀ (κ : xQ) (a0 : Nat) (a1 : Int32) (M mo : xM), rc 6 a0 a1 M = some mo → xC l yX12_readUnit cX12_readUnit 3 none dd 0 0 κ [.ref (κ.1 + a0), .int a1] M none mo) (X : xX p s m args c cX12_readTerm 2 RX12 κ) (hr : meth.sig.returnType = none) (hlk : meth.locks = false) {mo : xM} (v0 : Nat) (v1 : Int32) (M : xM) (x : xM) (h : F_X12_readTerm_5 rc v0 v1 M = some x) (hK : (fun o => o = mo) x) (H : Heap) (locs : List Loc) (ls : Array Slot) (O : xO κ s M H locs) (hl : lv_has ls 2 [(0, .ref (κ.1 + v0)), (1, .int v1)]) : W p l e (xRm (dd + 1) 0 0) s m args below meth c H locs 0 0 (xQf below args s 0 0 κ none mo) (F0 m 5 ls []) := by
  refine xit_K (Wh := fun x => ∀ (H : Heap) (locs : List Loc) (ls : Array Slot), xO κ s x H locs → lv_has ls 2 [(0, .ref (κ.1 + v0)), (1, .int v1)] → W p l e (xRm (dd + 1) 0 0) s m args below meth c H locs 0 0 (xQf below args s 0 0 κ none mo) (F0 m 5 ls [])) (Kp := (fun o => o = mo)) ?_ xFU M x h hK H locs ls O hl
  intro y x h hK H locs ls O hl
  exact F_X12_readTerm_5_bok hdd hrc0 hrc1 hrc2 hrc3 hrc4 hrc5 hrc6 X hr hlk v0 v1 (fun  _ hw => hw) y x h hK H locs ls O hl
set_option maxRecDepth 100000 in
set_option maxHeartbeats 4000000 in
theorem To_X12_readTerm (l : Launch) {dd : Nat} (hdd : 8 ≤ dd) {rc : Nat → Nat → Int32 → xM → Option (xM)} (hrc0 : ∀ (κ : xQ) (a0 : Nat) (a1 : Int32) (M mo : xM), rc 0 a0 a1 M = some mo → xC l yX12_readAtom cX12_readAtom 2 none dd 0 0 κ [.ref (κ.1 + a0), .int a1] M none mo) (hrc1 : ∀ (κ : xQ) (a0 : Nat) (a1 : Int32) (M mo : xM), rc 1 a0 a1 M = some mo → xC l yX12_readBoth cX12_readBoth 2 none dd 0 0 κ [.ref (κ.1 + a0), .int a1] M none mo) (hrc2 : ∀ (κ : xQ) (a0 : Nat) (a1 : Int32) (M mo : xM), rc 2 a0 a1 M = some mo → xC l yX12_readIf cX12_readIf 2 none dd 0 0 κ [.ref (κ.1 + a0), .int a1] M none mo) (hrc3 : ∀ (κ : xQ) (a0 : Nat) (a1 : Int32) (M mo : xM), rc 3 a0 a1 M = some mo → xC l yX12_readSum cX12_readSum 3 none dd 0 0 κ [.ref (κ.1 + a0), .int a1] M none mo) (hrc4 : ∀ (κ : xQ) (a0 : Nat) (a1 : Int32) (M mo : xM), rc 4 a0 a1 M = some mo → xC l yX12_readTerm cX12_readTerm 2 none dd 0 0 κ [.ref (κ.1 + a0), .int a1] M none mo) (hrc5 : ∀ (κ : xQ) (a0 : Nat) (a1 : Int32) (M mo : xM), rc 5 a0 a1 M = some mo → xC l yX12_readTruth cX12_readTruth 2 none dd 0 0 κ [.ref (κ.1 + a0), .int a1] M none mo) (hrc6 : ∀ (κ : xQ) (a0 : Nat) (a1 : Int32) (M mo : xM), rc 6 a0 a1 M = some mo → xC l yX12_readUnit cX12_readUnit 3 none dd 0 0 κ [.ref (κ.1 + a0), .int a1] M none mo) (κ : xQ) (a0 : Nat) (a1 : Int32) (M : xM) (mo : xM) (h : F_X12_readTerm rc a0 a1 M = some mo) : xC l yX12_readTerm cX12_readTerm 2 none (dd + 1) 0 0 κ [.ref (κ.1 + a0), .int a1] M none mo := by
  refine xC_of rfl (Nat.le_of_ble_eq_true rfl) fun p e s m args below meth c X hr hlk hnm H locs ls O hl => ?_
  have X : xX p s m args c cX12_readTerm 2 RX12 κ := X
  have hl : lv_has ls 2 [(0, .ref (κ.1 + a0)), (1, .int a1)] := hl
  have hx := X.1
  have hb := X.2.1
  obtain ⟨x, hx0⟩ : ∃ x, mo = x := ⟨_, rfl⟩
  rw [hx0] at h
  have hK : x = mo := hx0.symm
  unfold F_X12_readTerm at h
  refine lv_aload_n hx hb dX12_readTerm_0 rfl (lv_at hl 0 rfl) ?_
  refine lv_iload_n hx hb dX12_readTerm_1 rfl (lv_at hl 1 rfl) ?_
  obtain ⟨_, hut1, h⟩ := Option.bind_eq_some_iff.mp h
  obtain ⟨t2, ht2, h⟩ := Option.bind_eq_some_iff.mp h
  refine xr_callV (rest := []) X O (hrc0 κ a0 a1 M _ ht2) lk_X12_173 hut1 (Nat.le_refl _) rfl hl.1 rfl (Nat.le_of_ble_eq_true rfl) dX12_readTerm_2 ⟨Nat.le_of_ble_eq_true rfl, Nat.le_of_ble_eq_true rfl⟩ (fun H locs O => ?_)
  refine W.eq (g2 := F0 m 5 ls []) rfl ?_
  exact F_X12_readTerm_5_ok hdd hrc0 hrc1 hrc2 hrc3 hrc4 hrc5 hrc6 X hr hlk a0 a1 t2 _ h hK H locs ls O (lv_sub hl [0, 1] rfl)
set_option maxRecDepth 100000 in
set_option maxHeartbeats 4000000 in
theorem F_X12_readTruth_29_ok {dd : Nat} (hdd : 8 ≤ dd) {rc : Nat → Nat → Int32 → xM → Option (xM)} (hrc0 : ∀ (κ : xQ) (a0 : Nat) (a1 : Int32) (M mo : xM), rc 0 a0 a1 M = some mo → xC l yX12_readAtom cX12_readAtom 2 none dd 0 0 κ [.ref (κ.1 + a0), .int a1] M none mo) (hrc1 : ∀ (κ : xQ) (a0 : Nat) (a1 : Int32) (M mo : xM), rc 1 a0 a1 M = some mo → xC l yX12_readBoth cX12_readBoth 2 none dd 0 0 κ [.ref (κ.1 + a0), .int a1] M none mo) (hrc2 : ∀ (κ : xQ) (a0 : Nat) (a1 : Int32) (M mo : xM), rc 2 a0 a1 M = some mo → xC l yX12_readIf cX12_readIf 2 none dd 0 0 κ [.ref (κ.1 + a0), .int a1] M none mo) (hrc3 : ∀ (κ : xQ) (a0 : Nat) (a1 : Int32) (M mo : xM), rc 3 a0 a1 M = some mo → xC l yX12_readSum cX12_readSum 3 none dd 0 0 κ [.ref (κ.1 + a0), .int a1] M none mo) (hrc4 : ∀ (κ : xQ) (a0 : Nat) (a1 : Int32) (M mo : xM), rc 4 a0 a1 M = some mo → xC l yX12_readTerm cX12_readTerm 2 none dd 0 0 κ [.ref (κ.1 + a0), .int a1] M none mo) (hrc5 : ∀ (κ : xQ) (a0 : Nat) (a1 : Int32) (M mo : xM), rc 5 a0 a1 M = some mo → xC l yX12_readTruth cX12_readTruth 2 none dd 0 0 κ [.ref (κ.1 + a0), .int a1] M none mo) (hrc6 : ∀ (κ : xQ) (a0 : Nat) (a1 : Int32) (M mo : xM), rc 6 a0 a1 M = some mo → xC l yX12_readUnit cX12_readUnit 3 none dd 0 0 κ [.ref (κ.1 + a0), .int a1] M none mo) (X : xX p s m args c cX12_readTruth 2 RX12 κ) (hr : meth.sig.returnType = none) (hlk : meth.locks = false) {mo : xM} (M : xM) (x : xM) (h : F_X12_readTruth_29 rc M = some x) (hK : (fun o => o = mo) x) (H : Heap) (locs : List Loc) (ls : Array Slot) (O : xO κ s M H locs) (hl : lv_has ls 2 []) : W p l e (xRm (dd + 1) 0 0) s m args below meth c H locs 0 0 (xQf below args s 0 0 κ none mo) (F0 m 29 ls []) := by
  unfold F_X12_readTruth_29 at h
  have hx := X.1
  have hb := X.2.1
  rw [← Option.some.inj h] at hK
  have hK : M = mo := hK
  rw [hK] at O
  exact xr_vret X hr hlk O dX12_readTruth_29
set_option maxRecDepth 100000 in
set_option maxHeartbeats 4000000 in
theorem F_X12_readTruth_5_bok {dd : Nat} (hdd : 8 ≤ dd) {rc : Nat → Nat → Int32 → xM → Option (xM)} (hrc0 : ∀ (κ : xQ) (a0 : Nat) (a1 : Int32) (M mo : xM), rc 0 a0 a1 M = some mo → xC l yX12_readAtom cX12_readAtom 2 none dd 0 0 κ [.ref (κ.1 + a0), .int a1] M none mo) (hrc1 : ∀ (κ : xQ) (a0 : Nat) (a1 : Int32) (M mo : xM), rc 1 a0 a1 M = some mo → xC l yX12_readBoth cX12_readBoth 2 none dd 0 0 κ [.ref (κ.1 + a0), .int a1] M none mo) (hrc2 : ∀ (κ : xQ) (a0 : Nat) (a1 : Int32) (M mo : xM), rc 2 a0 a1 M = some mo → xC l yX12_readIf cX12_readIf 2 none dd 0 0 κ [.ref (κ.1 + a0), .int a1] M none mo) (hrc3 : ∀ (κ : xQ) (a0 : Nat) (a1 : Int32) (M mo : xM), rc 3 a0 a1 M = some mo → xC l yX12_readSum cX12_readSum 3 none dd 0 0 κ [.ref (κ.1 + a0), .int a1] M none mo) (hrc4 : ∀ (κ : xQ) (a0 : Nat) (a1 : Int32) (M mo : xM), rc 4 a0 a1 M = some mo → xC l yX12_readTerm cX12_readTerm 2 none dd 0 0 κ [.ref (κ.1 + a0), .int a1] M none mo) (hrc5 : ∀ (κ : xQ) (a0 : Nat) (a1 : Int32) (M mo : xM), rc 5 a0 a1 M = some mo → xC l yX12_readTruth cX12_readTruth 2 none dd 0 0 κ [.ref (κ.1 + a0), .int a1] M none mo) (hrc6 : ∀ (κ : xQ) (a0 : Nat) (a1 : Int32) (M mo : xM), rc 6 a0 a1 M = some mo → xC l yX12_readUnit cX12_readUnit 3 none dd 0 0 κ [.ref (κ.1 + a0), .int a1] M none mo) (X : xX p s m args c cX12_readTruth 2 RX12 κ) (hr : meth.sig.returnType = none) (hlk : meth.locks = false) {mo : xM} (v0 : Nat) (v1 : Int32) {W5 : xM → Prop} (hW5 : ∀ (M : xM), W5 M → ∀ (H : Heap) (locs : List Loc) (ls : Array Slot), xO κ s M H locs → lv_has ls 2 [(0, .ref (κ.1 + v0)), (1, .int v1)] → W p l e (xRm (dd + 1) 0 0) s m args below meth c H locs 0 0 (xQf below args s 0 0 κ none mo) (F0 m 5 ls [])) (M : xM) (x : (xM) ⊕ (xM)) (h : F_X12_readTruth_5b rc v0 v1 M = some x) (hK : (xKl W5 (fun o => o = mo)) x) (H : Heap) (locs : List Loc) (ls : Array Slot) (O : xO κ s M H locs) (hl : lv_has ls 2 [(0, .ref (κ.1 + v0)), (1, .int v1)]) : W p l e (xRm (dd + 1) 0 0) s m args below meth c H locs 0 0 (xQf below args s 0 0 κ none mo) (F0 m 5 ls []) := by
  unfold F_X12_readTruth_5b at h
  have hx := X.1
  have hb := X.2.1
  refine lv_aload_n hx hb dX12_readTruth_5 rfl (lv_at hl 0 rfl) ?_
  refine lv_bipush (v := (25 : Int32)) hx hb dX12_readTruth_6 (by decide) ?_
  obtain ⟨_, hut3, h⟩ := Option.bind_eq_some_iff.mp h
  obtain ⟨t4, ht4, h⟩ := Option.bind_eq_some_iff.mp h
  refine xr_callV (rest := []) X O (T_X12_eats l κ v0 (25 : Int32) M _ _ ht4) lk_X12_164 hut3 (by omega) rfl hl.1 rfl (Nat.le_of_ble_eq_true rfl) dX12_readTruth_8 ⟨Nat.le_of_ble_eq_true rfl, Nat.le_of_ble_eq_true rfl⟩ (fun H locs O => ?_)
  refine W.eq (g2 := F0 m 11 ls [.int t4.1]) rfl ?_
  refine lv_if_eq (tgt := 29) hx hb dX12_readTruth_11 (by decide) (fun hc11 => ?_) (fun hc11 => ?_)
  · rw [if_pos hc11] at h
    obtain ⟨_, hw0, ew0⟩ := Option.map_eq_some_iff.mp h
    rw [← ew0] at hK
    have h := hw0
    exact F_X12_readTruth_29_ok hdd hrc0 hrc1 hrc2 hrc3 hrc4 hrc5 hrc6 X hr hlk  t4.2 _ h hK H locs ls O (lv_sub hl [] rfl)
  rw [if_neg hc11] at h
  refine lv_aload_n hx hb dX12_readTruth_14 rfl (lv_at hl 0 rfl) ?_
  refine lv_iload_n hx hb dX12_readTruth_15 rfl (lv_at hl 1 rfl) ?_
  obtain ⟨_, hut5, h⟩ := Option.bind_eq_some_iff.mp h
  obtain ⟨t6, ht6, h⟩ := Option.bind_eq_some_iff.mp h
  refine xr_callV (rest := []) X O (hrc1 κ v0 v1 t4.2 _ ht6) lk_X12_182 hut5 (Nat.le_refl _) rfl hl.1 rfl (Nat.le_of_ble_eq_true rfl) dX12_readTruth_16 ⟨Nat.le_of_ble_eq_true rfl, Nat.le_of_ble_eq_true rfl⟩ (fun H locs O => ?_)
  refine W.eq (g2 := F0 m 19 ls []) rfl ?_
  refine lv_aload_n hx hb dX12_readTruth_19 rfl (lv_at hl 0 rfl) ?_
  refine lv_sipush (v := (3008 : Int32)) hx hb dX12_readTruth_20 (by decide) ?_
  obtain ⟨_, hut7, h⟩ := Option.bind_eq_some_iff.mp h
  obtain ⟨t8, ht8, h⟩ := Option.bind_eq_some_iff.mp h
  refine xr_callV (rest := []) X O (T_X12_codes l κ v0 (3008 : Int32) t6 _ ht8) lk_X12_152 hut7 (by omega) rfl hl.1 rfl (Nat.le_of_ble_eq_true rfl) dX12_readTruth_23 ⟨Nat.le_of_ble_eq_true rfl, Nat.le_of_ble_eq_true rfl⟩ (fun H locs O => ?_)
  refine W.eq (g2 := F0 m 26 ls []) rfl ?_
  refine lv_goto (tgt := 5) hx hb dX12_readTruth_26 (by decide) ?_
  rw [← Option.some.inj h] at hK
  exact hW5 t8 hK H locs ls O (lv_sub hl [0, 1] rfl)
set_option maxRecDepth 100000 in
set_option maxHeartbeats 4000000 in
theorem F_X12_readTruth_5_ok {dd : Nat} (hdd : 8 ≤ dd) {rc : Nat → Nat → Int32 → xM → Option (xM)} (hrc0 : ∀ (κ : xQ) (a0 : Nat) (a1 : Int32) (M mo : xM), rc 0 a0 a1 M = some mo → xC l yX12_readAtom cX12_readAtom 2 none dd 0 0 κ [.ref (κ.1 + a0), .int a1] M none mo) (hrc1 : ∀ (κ : xQ) (a0 : Nat) (a1 : Int32) (M mo : xM), rc 1 a0 a1 M = some mo → xC l yX12_readBoth cX12_readBoth 2 none dd 0 0 κ [.ref (κ.1 + a0), .int a1] M none mo) (hrc2 : ∀ (κ : xQ) (a0 : Nat) (a1 : Int32) (M mo : xM), rc 2 a0 a1 M = some mo → xC l yX12_readIf cX12_readIf 2 none dd 0 0 κ [.ref (κ.1 + a0), .int a1] M none mo) (hrc3 : ∀ (κ : xQ) (a0 : Nat) (a1 : Int32) (M mo : xM), rc 3 a0 a1 M = some mo → xC l yX12_readSum cX12_readSum 3 none dd 0 0 κ [.ref (κ.1 + a0), .int a1] M none mo) (hrc4 : ∀ (κ : xQ) (a0 : Nat) (a1 : Int32) (M mo : xM), rc 4 a0 a1 M = some mo → xC l yX12_readTerm cX12_readTerm 2 none dd 0 0 κ [.ref (κ.1 + a0), .int a1] M none mo) (hrc5 : ∀ (κ : xQ) (a0 : Nat) (a1 : Int32) (M mo : xM), rc 5 a0 a1 M = some mo → xC l yX12_readTruth cX12_readTruth 2 none dd 0 0 κ [.ref (κ.1 + a0), .int a1] M none mo) (hrc6 : ∀ (κ : xQ) (a0 : Nat) (a1 : Int32) (M mo : xM), rc 6 a0 a1 M = some mo → xC l yX12_readUnit cX12_readUnit 3 none dd 0 0 κ [.ref (κ.1 + a0), .int a1] M none mo) (X : xX p s m args c cX12_readTruth 2 RX12 κ) (hr : meth.sig.returnType = none) (hlk : meth.locks = false) {mo : xM} (v0 : Nat) (v1 : Int32) (M : xM) (x : xM) (h : F_X12_readTruth_5 rc v0 v1 M = some x) (hK : (fun o => o = mo) x) (H : Heap) (locs : List Loc) (ls : Array Slot) (O : xO κ s M H locs) (hl : lv_has ls 2 [(0, .ref (κ.1 + v0)), (1, .int v1)]) : W p l e (xRm (dd + 1) 0 0) s m args below meth c H locs 0 0 (xQf below args s 0 0 κ none mo) (F0 m 5 ls []) := by
  refine xit_K (Wh := fun x => ∀ (H : Heap) (locs : List Loc) (ls : Array Slot), xO κ s x H locs → lv_has ls 2 [(0, .ref (κ.1 + v0)), (1, .int v1)] → W p l e (xRm (dd + 1) 0 0) s m args below meth c H locs 0 0 (xQf below args s 0 0 κ none mo) (F0 m 5 ls [])) (Kp := (fun o => o = mo)) ?_ xFU M x h hK H locs ls O hl
  intro y x h hK H locs ls O hl
  exact F_X12_readTruth_5_bok hdd hrc0 hrc1 hrc2 hrc3 hrc4 hrc5 hrc6 X hr hlk v0 v1 (fun  _ hw => hw) y x h hK H locs ls O hl
set_option maxRecDepth 100000 in
set_option maxHeartbeats 4000000 in
theorem To_X12_readTruth (l : Launch) {dd : Nat} (hdd : 8 ≤ dd) {rc : Nat → Nat → Int32 → xM → Option (xM)} (hrc0 : ∀ (κ : xQ) (a0 : Nat) (a1 : Int32) (M mo : xM), rc 0 a0 a1 M = some mo → xC l yX12_readAtom cX12_readAtom 2 none dd 0 0 κ [.ref (κ.1 + a0), .int a1] M none mo) (hrc1 : ∀ (κ : xQ) (a0 : Nat) (a1 : Int32) (M mo : xM), rc 1 a0 a1 M = some mo → xC l yX12_readBoth cX12_readBoth 2 none dd 0 0 κ [.ref (κ.1 + a0), .int a1] M none mo) (hrc2 : ∀ (κ : xQ) (a0 : Nat) (a1 : Int32) (M mo : xM), rc 2 a0 a1 M = some mo → xC l yX12_readIf cX12_readIf 2 none dd 0 0 κ [.ref (κ.1 + a0), .int a1] M none mo) (hrc3 : ∀ (κ : xQ) (a0 : Nat) (a1 : Int32) (M mo : xM), rc 3 a0 a1 M = some mo → xC l yX12_readSum cX12_readSum 3 none dd 0 0 κ [.ref (κ.1 + a0), .int a1] M none mo) (hrc4 : ∀ (κ : xQ) (a0 : Nat) (a1 : Int32) (M mo : xM), rc 4 a0 a1 M = some mo → xC l yX12_readTerm cX12_readTerm 2 none dd 0 0 κ [.ref (κ.1 + a0), .int a1] M none mo) (hrc5 : ∀ (κ : xQ) (a0 : Nat) (a1 : Int32) (M mo : xM), rc 5 a0 a1 M = some mo → xC l yX12_readTruth cX12_readTruth 2 none dd 0 0 κ [.ref (κ.1 + a0), .int a1] M none mo) (hrc6 : ∀ (κ : xQ) (a0 : Nat) (a1 : Int32) (M mo : xM), rc 6 a0 a1 M = some mo → xC l yX12_readUnit cX12_readUnit 3 none dd 0 0 κ [.ref (κ.1 + a0), .int a1] M none mo) (κ : xQ) (a0 : Nat) (a1 : Int32) (M : xM) (mo : xM) (h : F_X12_readTruth rc a0 a1 M = some mo) : xC l yX12_readTruth cX12_readTruth 2 none (dd + 1) 0 0 κ [.ref (κ.1 + a0), .int a1] M none mo := by
  refine xC_of rfl (Nat.le_of_ble_eq_true rfl) fun p e s m args below meth c X hr hlk hnm H locs ls O hl => ?_
  have X : xX p s m args c cX12_readTruth 2 RX12 κ := X
  have hl : lv_has ls 2 [(0, .ref (κ.1 + a0)), (1, .int a1)] := hl
  have hx := X.1
  have hb := X.2.1
  obtain ⟨x, hx0⟩ : ∃ x, mo = x := ⟨_, rfl⟩
  rw [hx0] at h
  have hK : x = mo := hx0.symm
  unfold F_X12_readTruth at h
  refine lv_aload_n hx hb dX12_readTruth_0 rfl (lv_at hl 0 rfl) ?_
  refine lv_iload_n hx hb dX12_readTruth_1 rfl (lv_at hl 1 rfl) ?_
  obtain ⟨_, hut1, h⟩ := Option.bind_eq_some_iff.mp h
  obtain ⟨t2, ht2, h⟩ := Option.bind_eq_some_iff.mp h
  refine xr_callV (rest := []) X O (hrc1 κ a0 a1 M _ ht2) lk_X12_182 hut1 (Nat.le_refl _) rfl hl.1 rfl (Nat.le_of_ble_eq_true rfl) dX12_readTruth_2 ⟨Nat.le_of_ble_eq_true rfl, Nat.le_of_ble_eq_true rfl⟩ (fun H locs O => ?_)
  refine W.eq (g2 := F0 m 5 ls []) rfl ?_
  exact F_X12_readTruth_5_ok hdd hrc0 hrc1 hrc2 hrc3 hrc4 hrc5 hrc6 X hr hlk a0 a1 t2 _ h hK H locs ls O (lv_sub hl [0, 1] rfl)
set_option maxRecDepth 100000 in
set_option maxHeartbeats 4000000 in
theorem F_X12_readUnit_151_ok {dd : Nat} (hdd : 8 ≤ dd) {rc : Nat → Nat → Int32 → xM → Option (xM)} (hrc0 : ∀ (κ : xQ) (a0 : Nat) (a1 : Int32) (M mo : xM), rc 0 a0 a1 M = some mo → xC l yX12_readAtom cX12_readAtom 2 none dd 0 0 κ [.ref (κ.1 + a0), .int a1] M none mo) (hrc1 : ∀ (κ : xQ) (a0 : Nat) (a1 : Int32) (M mo : xM), rc 1 a0 a1 M = some mo → xC l yX12_readBoth cX12_readBoth 2 none dd 0 0 κ [.ref (κ.1 + a0), .int a1] M none mo) (hrc2 : ∀ (κ : xQ) (a0 : Nat) (a1 : Int32) (M mo : xM), rc 2 a0 a1 M = some mo → xC l yX12_readIf cX12_readIf 2 none dd 0 0 κ [.ref (κ.1 + a0), .int a1] M none mo) (hrc3 : ∀ (κ : xQ) (a0 : Nat) (a1 : Int32) (M mo : xM), rc 3 a0 a1 M = some mo → xC l yX12_readSum cX12_readSum 3 none dd 0 0 κ [.ref (κ.1 + a0), .int a1] M none mo) (hrc4 : ∀ (κ : xQ) (a0 : Nat) (a1 : Int32) (M mo : xM), rc 4 a0 a1 M = some mo → xC l yX12_readTerm cX12_readTerm 2 none dd 0 0 κ [.ref (κ.1 + a0), .int a1] M none mo) (hrc5 : ∀ (κ : xQ) (a0 : Nat) (a1 : Int32) (M mo : xM), rc 5 a0 a1 M = some mo → xC l yX12_readTruth cX12_readTruth 2 none dd 0 0 κ [.ref (κ.1 + a0), .int a1] M none mo) (hrc6 : ∀ (κ : xQ) (a0 : Nat) (a1 : Int32) (M mo : xM), rc 6 a0 a1 M = some mo → xC l yX12_readUnit cX12_readUnit 3 none dd 0 0 κ [.ref (κ.1 + a0), .int a1] M none mo) (X : xX p s m args c cX12_readUnit 3 RX12 κ) (hr : meth.sig.returnType = none) (hlk : meth.locks = false) {mo : xM} (v0 : Nat) (v1 : Int32) (v2 : Int32) (M : xM) (x : xM) (h : F_X12_readUnit_151 rc v0 v1 v2 M = some x) (hK : (fun o => o = mo) x) (H : Heap) (locs : List Loc) (ls : Array Slot) (O : xO κ s M H locs) (hl : lv_has ls 3 [(0, .ref (κ.1 + v0)), (1, .int v1), (2, .int v2)]) : W p l e (xRm (dd + 1) 0 0) s m args below meth c H locs 0 0 (xQf below args s 0 0 κ none mo) (F0 m 151 ls []) := by
  unfold F_X12_readUnit_151 at h
  have hx := X.1
  have hb := X.2.1
  refine lv_aload_n hx hb dX12_readUnit_151 rfl (lv_at hl 0 rfl) ?_
  refine lv_iload_n hx hb dX12_readUnit_152 rfl (lv_at hl 1 rfl) ?_
  obtain ⟨_, hut35, h⟩ := Option.bind_eq_some_iff.mp h
  obtain ⟨t36, ht36, h⟩ := Option.bind_eq_some_iff.mp h
  refine xr_callV (rest := []) X O (hrc3 κ v0 v1 M _ ht36) lk_X12_161 hut35 (Nat.le_refl _) rfl hl.1 rfl (Nat.le_of_ble_eq_true rfl) dX12_readUnit_153 ⟨Nat.le_of_ble_eq_true rfl, Nat.le_of_ble_eq_true rfl⟩ (fun H locs O => ?_)
  refine W.eq (g2 := F0 m 156 ls []) rfl ?_
  refine lv_aload_n hx hb dX12_readUnit_156 rfl (lv_at hl 0 rfl) ?_
  refine lv_iload_n hx hb dX12_readUnit_157 rfl (lv_at hl 2 rfl) ?_
  obtain ⟨_, hut37, h⟩ := Option.bind_eq_some_iff.mp h
  obtain ⟨t38, ht38, h⟩ := Option.bind_eq_some_iff.mp h
  refine xr_callV (rest := []) X O (T_X12_codes l κ v0 v2 t36 _ ht38) lk_X12_152 hut37 (by omega) rfl hl.1 rfl (Nat.le_of_ble_eq_true rfl) dX12_readUnit_158 ⟨Nat.le_of_ble_eq_true rfl, Nat.le_of_ble_eq_true rfl⟩ (fun H locs O => ?_)
  refine W.eq (g2 := F0 m 161 ls []) rfl ?_
  rw [← Option.some.inj h] at hK
  have hK : t38 = mo := hK
  rw [hK] at O
  exact xr_vret X hr hlk O dX12_readUnit_161
set_option maxRecDepth 100000 in
set_option maxHeartbeats 4000000 in
theorem F_X12_readUnit_139_ok {dd : Nat} (hdd : 8 ≤ dd) {rc : Nat → Nat → Int32 → xM → Option (xM)} (hrc0 : ∀ (κ : xQ) (a0 : Nat) (a1 : Int32) (M mo : xM), rc 0 a0 a1 M = some mo → xC l yX12_readAtom cX12_readAtom 2 none dd 0 0 κ [.ref (κ.1 + a0), .int a1] M none mo) (hrc1 : ∀ (κ : xQ) (a0 : Nat) (a1 : Int32) (M mo : xM), rc 1 a0 a1 M = some mo → xC l yX12_readBoth cX12_readBoth 2 none dd 0 0 κ [.ref (κ.1 + a0), .int a1] M none mo) (hrc2 : ∀ (κ : xQ) (a0 : Nat) (a1 : Int32) (M mo : xM), rc 2 a0 a1 M = some mo → xC l yX12_readIf cX12_readIf 2 none dd 0 0 κ [.ref (κ.1 + a0), .int a1] M none mo) (hrc3 : ∀ (κ : xQ) (a0 : Nat) (a1 : Int32) (M mo : xM), rc 3 a0 a1 M = some mo → xC l yX12_readSum cX12_readSum 3 none dd 0 0 κ [.ref (κ.1 + a0), .int a1] M none mo) (hrc4 : ∀ (κ : xQ) (a0 : Nat) (a1 : Int32) (M mo : xM), rc 4 a0 a1 M = some mo → xC l yX12_readTerm cX12_readTerm 2 none dd 0 0 κ [.ref (κ.1 + a0), .int a1] M none mo) (hrc5 : ∀ (κ : xQ) (a0 : Nat) (a1 : Int32) (M mo : xM), rc 5 a0 a1 M = some mo → xC l yX12_readTruth cX12_readTruth 2 none dd 0 0 κ [.ref (κ.1 + a0), .int a1] M none mo) (hrc6 : ∀ (κ : xQ) (a0 : Nat) (a1 : Int32) (M mo : xM), rc 6 a0 a1 M = some mo → xC l yX12_readUnit cX12_readUnit 3 none dd 0 0 κ [.ref (κ.1 + a0), .int a1] M none mo) (X : xX p s m args c cX12_readUnit 3 RX12 κ) (hr : meth.sig.returnType = none) (hlk : meth.locks = false) {mo : xM} (v0 : Nat) (v1 : Int32) (v2 : Int32) (M : xM) (x : xM) (h : F_X12_readUnit_139 rc v0 v1 v2 M = some x) (hK : (fun o => o = mo) x) (H : Heap) (locs : List Loc) (ls : Array Slot) (O : xO κ s M H locs) (hl : lv_has ls 3 [(0, .ref (κ.1 + v0)), (1, .int v1), (2, .int v2)]) : W p l e (xRm (dd + 1) 0 0) s m args below meth c H locs 0 0 (xQf below args s 0 0 κ none mo) (F0 m 139 ls []) := by
  unfold F_X12_readUnit_139 at h
  have hx := X.1
  have hb := X.2.1
  refine lv_aload_n hx hb dX12_readUnit_139 rfl (lv_at hl 0 rfl) ?_
  obtain ⟨_, hut33, h⟩ := Option.bind_eq_some_iff.mp h
  obtain ⟨t34, ht34, h⟩ := Option.bind_eq_some_iff.mp h
  refine xr_callV (rest := []) X O (T_X12_next l κ v0 M _ ht34) lk_X12_138 hut33 (by omega) rfl hl.1 rfl (Nat.le_of_ble_eq_true rfl) dX12_readUnit_140 ⟨Nat.le_of_ble_eq_true rfl, Nat.le_of_ble_eq_true rfl⟩ (fun H locs O => ?_)
  refine W.eq (g2 := F0 m 143 ls []) rfl ?_
  refine lv_goto (tgt := 151) hx hb dX12_readUnit_143 (by decide) ?_
  exact F_X12_readUnit_151_ok hdd hrc0 hrc1 hrc2 hrc3 hrc4 hrc5 hrc6 X hr hlk v0 v1 v2 t34 _ h hK H locs ls O (lv_sub hl [0, 1, 2] rfl)
set_option maxRecDepth 100000 in
set_option maxHeartbeats 4000000 in
theorem F_X12_readUnit_111_ok {dd : Nat} (hdd : 8 ≤ dd) {rc : Nat → Nat → Int32 → xM → Option (xM)} (hrc0 : ∀ (κ : xQ) (a0 : Nat) (a1 : Int32) (M mo : xM), rc 0 a0 a1 M = some mo → xC l yX12_readAtom cX12_readAtom 2 none dd 0 0 κ [.ref (κ.1 + a0), .int a1] M none mo) (hrc1 : ∀ (κ : xQ) (a0 : Nat) (a1 : Int32) (M mo : xM), rc 1 a0 a1 M = some mo → xC l yX12_readBoth cX12_readBoth 2 none dd 0 0 κ [.ref (κ.1 + a0), .int a1] M none mo) (hrc2 : ∀ (κ : xQ) (a0 : Nat) (a1 : Int32) (M mo : xM), rc 2 a0 a1 M = some mo → xC l yX12_readIf cX12_readIf 2 none dd 0 0 κ [.ref (κ.1 + a0), .int a1] M none mo) (hrc3 : ∀ (κ : xQ) (a0 : Nat) (a1 : Int32) (M mo : xM), rc 3 a0 a1 M = some mo → xC l yX12_readSum cX12_readSum 3 none dd 0 0 κ [.ref (κ.1 + a0), .int a1] M none mo) (hrc4 : ∀ (κ : xQ) (a0 : Nat) (a1 : Int32) (M mo : xM), rc 4 a0 a1 M = some mo → xC l yX12_readTerm cX12_readTerm 2 none dd 0 0 κ [.ref (κ.1 + a0), .int a1] M none mo) (hrc5 : ∀ (κ : xQ) (a0 : Nat) (a1 : Int32) (M mo : xM), rc 5 a0 a1 M = some mo → xC l yX12_readTruth cX12_readTruth 2 none dd 0 0 κ [.ref (κ.1 + a0), .int a1] M none mo) (hrc6 : ∀ (κ : xQ) (a0 : Nat) (a1 : Int32) (M mo : xM), rc 6 a0 a1 M = some mo → xC l yX12_readUnit cX12_readUnit 3 none dd 0 0 κ [.ref (κ.1 + a0), .int a1] M none mo) (X : xX p s m args c cX12_readUnit 3 RX12 κ) (hr : meth.sig.returnType = none) (hlk : meth.locks = false) {mo : xM} (v0 : Nat) (v1 : Int32) (s0 : Int32) (M : xM) (x : xM) (h : F_X12_readUnit_111 rc v0 v1 s0 M = some x) (hK : (fun o => o = mo) x) (H : Heap) (locs : List Loc) (ls : Array Slot) (O : xO κ s M H locs) (hl : lv_has ls 3 [(0, .ref (κ.1 + v0)), (1, .int v1)]) : W p l e (xRm (dd + 1) 0 0) s m args below meth c H locs 0 0 (xQf below args s 0 0 κ none mo) (F0 m 111 ls [.int s0]) := by
  unfold F_X12_readUnit_111 at h
  have hx := X.1
  have hb := X.2.1
  refine lv_istore_n (lv' := [(2, .int s0), (0, .ref (κ.1 + v0)), (1, .int v1)]) hx hb dX12_readUnit_111 rfl hl (by decide) rfl (fun ls hl => ?_)
  refine lv_aload_n hx hb dX12_readUnit_112 rfl (lv_at hl 1 rfl) ?_
  refine lv_bipush (v := (41 : Int32)) hx hb dX12_readUnit_113 (by decide) ?_
  obtain ⟨_, hut25, h⟩ := Option.bind_eq_some_iff.mp h
  obtain ⟨t26, ht26, h⟩ := Option.bind_eq_some_iff.mp h
  refine xr_callV (rest := []) X O (T_X12_is l κ v0 (41 : Int32) M _ _ ht26) lk_X12_135 hut25 (by omega) rfl hl.1 rfl (Nat.le_of_ble_eq_true rfl) dX12_readUnit_115 ⟨Nat.le_of_ble_eq_true rfl, Nat.le_of_ble_eq_true rfl⟩ (fun H locs O => ?_)
  refine W.eq (g2 := F0 m 118 ls [.int t26.1]) rfl ?_
  refine lv_if_ne (tgt := 139) hx hb dX12_readUnit_118 (by decide) (fun hc118 => ?_) (fun hc118 => ?_)
  · rw [if_neg hc118] at h
    exact F_X12_readUnit_139_ok hdd hrc0 hrc1 hrc2 hrc3 hrc4 hrc5 hrc6 X hr hlk v0 v1 s0 t26.2 _ h hK H locs ls O (lv_sub hl [1, 2, 0] rfl)
  rw [if_pos hc118] at h
  refine lv_aload_n hx hb dX12_readUnit_121 rfl (lv_at hl 1 rfl) ?_
  refine lv_bipush (v := (42 : Int32)) hx hb dX12_readUnit_122 (by decide) ?_
  obtain ⟨_, hut27, h⟩ := Option.bind_eq_some_iff.mp h
  obtain ⟨t28, ht28, h⟩ := Option.bind_eq_some_iff.mp h
  refine xr_callV (rest := []) X O (T_X12_is l κ v0 (42 : Int32) t26.2 _ _ ht28) lk_X12_135 hut27 (by omega) rfl hl.1 rfl (Nat.le_of_ble_eq_true rfl) dX12_readUnit_124 ⟨Nat.le_of_ble_eq_true rfl, Nat.le_of_ble_eq_true rfl⟩ (fun H locs O => ?_)
  refine W.eq (g2 := F0 m 127 ls [.int t28.1]) rfl ?_
  refine lv_if_ne (tgt := 139) hx hb dX12_readUnit_127 (by decide) (fun hc127 => ?_) (fun hc127 => ?_)
  · rw [if_neg hc127] at h
    exact F_X12_readUnit_139_ok hdd hrc0 hrc1 hrc2 hrc3 hrc4 hrc5 hrc6 X hr hlk v0 v1 s0 t28.2 _ h hK H locs ls O (lv_sub hl [1, 2, 0] rfl)
  rw [if_pos hc127] at h
  refine lv_aload_n hx hb dX12_readUnit_130 rfl (lv_at hl 1 rfl) ?_
  refine lv_bipush (v := (43 : Int32)) hx hb dX12_readUnit_131 (by decide) ?_
  obtain ⟨_, hut29, h⟩ := Option.bind_eq_some_iff.mp h
  obtain ⟨t30, ht30, h⟩ := Option.bind_eq_some_iff.mp h
  refine xr_callV (rest := []) X O (T_X12_is l κ v0 (43 : Int32) t28.2 _ _ ht30) lk_X12_135 hut29 (by omega) rfl hl.1 rfl (Nat.le_of_ble_eq_true rfl) dX12_readUnit_133 ⟨Nat.le_of_ble_eq_true rfl, Nat.le_of_ble_eq_true rfl⟩ (fun H locs O => ?_)
  refine W.eq (g2 := F0 m 136 ls [.int t30.1]) rfl ?_
  refine lv_if_eq (tgt := 146) hx hb dX12_readUnit_136 (by decide) (fun hc136 => ?_) (fun hc136 => ?_)
  · rw [if_pos hc136] at h
    refine lv_aload_n hx hb dX12_readUnit_146 rfl (lv_at hl 1 rfl) ?_
    refine lv_iconst (v := (2 : Int32)) hx hb dX12_readUnit_147 (by decide) ?_
    obtain ⟨_, hut31, h⟩ := Option.bind_eq_some_iff.mp h
    obtain ⟨t32, ht32, h⟩ := Option.bind_eq_some_iff.mp h
    refine xr_callV (rest := []) X O (T_X12_fails l κ v0 (2 : Int32) t30.2 _ ht32) lk_X12_141 hut31 (by omega) rfl hl.1 rfl (Nat.le_of_ble_eq_true rfl) dX12_readUnit_148 ⟨Nat.le_of_ble_eq_true rfl, Nat.le_of_ble_eq_true rfl⟩ (fun H locs O => ?_)
    refine W.eq (g2 := F0 m 151 ls []) rfl ?_
    exact F_X12_readUnit_151_ok hdd hrc0 hrc1 hrc2 hrc3 hrc4 hrc5 hrc6 X hr hlk v0 v1 s0 t32 _ h hK H locs ls O (lv_sub hl [1, 2, 0] rfl)
  rw [if_neg hc136] at h
  exact F_X12_readUnit_139_ok hdd hrc0 hrc1 hrc2 hrc3 hrc4 hrc5 hrc6 X hr hlk v0 v1 s0 t30.2 _ h hK H locs ls O (lv_sub hl [1, 2, 0] rfl)
set_option maxRecDepth 100000 in
set_option maxHeartbeats 4000000 in
theorem To_X12_readUnit (l : Launch) {dd : Nat} (hdd : 8 ≤ dd) {rc : Nat → Nat → Int32 → xM → Option (xM)} (hrc0 : ∀ (κ : xQ) (a0 : Nat) (a1 : Int32) (M mo : xM), rc 0 a0 a1 M = some mo → xC l yX12_readAtom cX12_readAtom 2 none dd 0 0 κ [.ref (κ.1 + a0), .int a1] M none mo) (hrc1 : ∀ (κ : xQ) (a0 : Nat) (a1 : Int32) (M mo : xM), rc 1 a0 a1 M = some mo → xC l yX12_readBoth cX12_readBoth 2 none dd 0 0 κ [.ref (κ.1 + a0), .int a1] M none mo) (hrc2 : ∀ (κ : xQ) (a0 : Nat) (a1 : Int32) (M mo : xM), rc 2 a0 a1 M = some mo → xC l yX12_readIf cX12_readIf 2 none dd 0 0 κ [.ref (κ.1 + a0), .int a1] M none mo) (hrc3 : ∀ (κ : xQ) (a0 : Nat) (a1 : Int32) (M mo : xM), rc 3 a0 a1 M = some mo → xC l yX12_readSum cX12_readSum 3 none dd 0 0 κ [.ref (κ.1 + a0), .int a1] M none mo) (hrc4 : ∀ (κ : xQ) (a0 : Nat) (a1 : Int32) (M mo : xM), rc 4 a0 a1 M = some mo → xC l yX12_readTerm cX12_readTerm 2 none dd 0 0 κ [.ref (κ.1 + a0), .int a1] M none mo) (hrc5 : ∀ (κ : xQ) (a0 : Nat) (a1 : Int32) (M mo : xM), rc 5 a0 a1 M = some mo → xC l yX12_readTruth cX12_readTruth 2 none dd 0 0 κ [.ref (κ.1 + a0), .int a1] M none mo) (hrc6 : ∀ (κ : xQ) (a0 : Nat) (a1 : Int32) (M mo : xM), rc 6 a0 a1 M = some mo → xC l yX12_readUnit cX12_readUnit 3 none dd 0 0 κ [.ref (κ.1 + a0), .int a1] M none mo) (κ : xQ) (a0 : Nat) (a1 : Int32) (M : xM) (mo : xM) (h : F_X12_readUnit rc a0 a1 M = some mo) : xC l yX12_readUnit cX12_readUnit 3 none (dd + 1) 0 0 κ [.ref (κ.1 + a0), .int a1] M none mo := by
  refine xC_of rfl (Nat.le_of_ble_eq_true rfl) fun p e s m args below meth c X hr hlk hnm H locs ls O hl => ?_
  have X : xX p s m args c cX12_readUnit 3 RX12 κ := X
  have hl : lv_has ls 3 [(0, .ref (κ.1 + a0)), (1, .int a1)] := hl
  have hx := X.1
  have hb := X.2.1
  obtain ⟨x, hx0⟩ : ∃ x, mo = x := ⟨_, rfl⟩
  rw [hx0] at h
  have hK : x = mo := hx0.symm
  unfold F_X12_readUnit at h
  refine lv_aload_n hx hb dX12_readUnit_0 rfl (lv_at hl 0 rfl) ?_
  refine lv_bipush (v := (26 : Int32)) hx hb dX12_readUnit_1 (by decide) ?_
  obtain ⟨_, hut1, h⟩ := Option.bind_eq_some_iff.mp h
  obtain ⟨t2, ht2, h⟩ := Option.bind_eq_some_iff.mp h
  refine xr_callV (rest := []) X O (T_X12_is l κ a0 (26 : Int32) M _ _ ht2) lk_X12_135 hut1 (by omega) rfl hl.1 rfl (Nat.le_of_ble_eq_true rfl) dX12_readUnit_3 ⟨Nat.le_of_ble_eq_true rfl, Nat.le_of_ble_eq_true rfl⟩ (fun H locs O => ?_)
  refine W.eq (g2 := F0 m 6 ls [.int t2.1]) rfl ?_
  refine lv_if_eq (tgt := 33) hx hb dX12_readUnit_6 (by decide) (fun hc6 => ?_) (fun hc6 => ?_)
  · rw [if_pos hc6] at h
    refine lv_aload_n hx hb dX12_readUnit_33 rfl (lv_at hl 0 rfl) ?_
    refine lv_bipush (v := (39 : Int32)) hx hb dX12_readUnit_34 (by decide) ?_
    obtain ⟨_, hut3, h⟩ := Option.bind_eq_some_iff.mp h
    obtain ⟨t4, ht4, h⟩ := Option.bind_eq_some_iff.mp h
    refine xr_callV (rest := []) X O (T_X12_is l κ a0 (39 : Int32) t2.2 _ _ ht4) lk_X12_135 hut3 (by omega) rfl hl.1 rfl (Nat.le_of_ble_eq_true rfl) dX12_readUnit_36 ⟨Nat.le_of_ble_eq_true rfl, Nat.le_of_ble_eq_true rfl⟩ (fun H locs O => ?_)
    refine W.eq (g2 := F0 m 39 ls [.int t4.1]) rfl ?_
    refine lv_if_eq (tgt := 73) hx hb dX12_readUnit_39 (by decide) (fun hc39 => ?_) (fun hc39 => ?_)
    · rw [if_pos hc39] at h
      refine lv_aload_n hx hb dX12_readUnit_73 rfl (lv_at hl 0 rfl) ?_
      refine lv_iload_n hx hb dX12_readUnit_74 rfl (lv_at hl 1 rfl) ?_
      obtain ⟨_, hut5, h⟩ := Option.bind_eq_some_iff.mp h
      obtain ⟨t6, ht6, h⟩ := Option.bind_eq_some_iff.mp h
      refine xr_callV (rest := []) X O (hrc3 κ a0 a1 t4.2 _ ht6) lk_X12_161 hut5 (Nat.le_refl _) rfl hl.1 rfl (Nat.le_of_ble_eq_true rfl) dX12_readUnit_75 ⟨Nat.le_of_ble_eq_true rfl, Nat.le_of_ble_eq_true rfl⟩ (fun H locs O => ?_)
      refine W.eq (g2 := F0 m 78 ls []) rfl ?_
      refine lv_aload_n hx hb dX12_readUnit_78 rfl (lv_at hl 0 rfl) ?_
      refine lv_bipush (v := (41 : Int32)) hx hb dX12_readUnit_79 (by decide) ?_
      obtain ⟨_, hut7, h⟩ := Option.bind_eq_some_iff.mp h
      obtain ⟨t8, ht8, h⟩ := Option.bind_eq_some_iff.mp h
      refine xr_callV (rest := []) X O (T_X12_is l κ a0 (41 : Int32) t6 _ _ ht8) lk_X12_135 hut7 (by omega) rfl hl.1 rfl (Nat.le_of_ble_eq_true rfl) dX12_readUnit_81 ⟨Nat.le_of_ble_eq_true rfl, Nat.le_of_ble_eq_true rfl⟩ (fun H locs O => ?_)
      refine W.eq (g2 := F0 m 84 ls [.int t8.1]) rfl ?_
      refine lv_if_eq (tgt := 93) hx hb dX12_readUnit_84 (by decide) (fun hc84 => ?_) (fun hc84 => ?_)
      · rw [if_pos hc84] at h
        refine lv_aload_n hx hb dX12_readUnit_93 rfl (lv_at hl 0 rfl) ?_
        refine lv_bipush (v := (42 : Int32)) hx hb dX12_readUnit_94 (by decide) ?_
        obtain ⟨_, hut9, h⟩ := Option.bind_eq_some_iff.mp h
        obtain ⟨t10, ht10, h⟩ := Option.bind_eq_some_iff.mp h
        refine xr_callV (rest := []) X O (T_X12_is l κ a0 (42 : Int32) t8.2 _ _ ht10) lk_X12_135 hut9 (by omega) rfl hl.1 rfl (Nat.le_of_ble_eq_true rfl) dX12_readUnit_96 ⟨Nat.le_of_ble_eq_true rfl, Nat.le_of_ble_eq_true rfl⟩ (fun H locs O => ?_)
        refine W.eq (g2 := F0 m 99 ls [.int t10.1]) rfl ?_
        refine lv_if_eq (tgt := 108) hx hb dX12_readUnit_99 (by decide) (fun hc99 => ?_) (fun hc99 => ?_)
        · rw [if_pos hc99] at h
          refine lv_sipush (v := (3005 : Int32)) hx hb dX12_readUnit_108 (by decide) ?_
          exact F_X12_readUnit_111_ok hdd hrc0 hrc1 hrc2 hrc3 hrc4 hrc5 hrc6 X hr hlk a0 a1 (3005 : Int32) t10.2 _ h hK H locs ls O (lv_sub hl [0, 1] rfl)
        rw [if_neg hc99] at h
        refine lv_sipush (v := (3004 : Int32)) hx hb dX12_readUnit_102 (by decide) ?_
        refine lv_goto (tgt := 111) hx hb dX12_readUnit_105 (by decide) ?_
        exact F_X12_readUnit_111_ok hdd hrc0 hrc1 hrc2 hrc3 hrc4 hrc5 hrc6 X hr hlk a0 a1 (3004 : Int32) t10.2 _ h hK H locs ls O (lv_sub hl [0, 1] rfl)
      rw [if_neg hc84] at h
      refine lv_sipush (v := (3003 : Int32)) hx hb dX12_readUnit_87 (by decide) ?_
      refine lv_goto (tgt := 111) hx hb dX12_readUnit_90 (by decide) ?_
      exact F_X12_readUnit_111_ok hdd hrc0 hrc1 hrc2 hrc3 hrc4 hrc5 hrc6 X hr hlk a0 a1 (3003 : Int32) t8.2 _ h hK H locs ls O (lv_sub hl [0, 1] rfl)
    rw [if_neg hc39] at h
    refine lv_aload_n hx hb dX12_readUnit_42 rfl (lv_at hl 0 rfl) ?_
    refine lv_iload_n hx hb dX12_readUnit_43 rfl (lv_at hl 1 rfl) ?_
    obtain ⟨_, hut11, h⟩ := Option.bind_eq_some_iff.mp h
    obtain ⟨t12, ht12, h⟩ := Option.bind_eq_some_iff.mp h
    refine xr_callV (rest := []) X O (T_X12_goesIn l κ a0 a1 t4.2 _ _ ht12) lk_X12_158 hut11 (by omega) rfl hl.1 rfl (Nat.le_of_ble_eq_true rfl) dX12_readUnit_44 ⟨Nat.le_of_ble_eq_true rfl, Nat.le_of_ble_eq_true rfl⟩ (fun H locs O => ?_)
    refine W.eq (g2 := F0 m 47 ls [.int t12.1]) rfl ?_
    refine lv_if_ne (tgt := 51) hx hb dX12_readUnit_47 (by decide) (fun hc47 => ?_) (fun hc47 => ?_)
    · rw [if_neg hc47] at h
      refine lv_aload_n hx hb dX12_readUnit_51 rfl (lv_at hl 0 rfl) ?_
      refine lv_iload_n hx hb dX12_readUnit_52 rfl (lv_at hl 1 rfl) ?_
      refine lv_iconst (v := (1 : Int32)) hx hb dX12_readUnit_53 (by decide) ?_
      refine lv_iadd hx hb dX12_readUnit_54 ?_
      obtain ⟨_, hut13, h⟩ := Option.bind_eq_some_iff.mp h
      obtain ⟨t14, ht14, h⟩ := Option.bind_eq_some_iff.mp h
      refine xr_callV (rest := []) X O (hrc5 κ a0 (a1 + (1 : Int32)) t12.2 _ ht14) lk_X12_170 hut13 (Nat.le_refl _) rfl hl.1 rfl (Nat.le_of_ble_eq_true rfl) dX12_readUnit_55 ⟨Nat.le_of_ble_eq_true rfl, Nat.le_of_ble_eq_true rfl⟩ (fun H locs O => ?_)
      refine W.eq (g2 := F0 m 58 ls []) rfl ?_
      refine lv_aload_n hx hb dX12_readUnit_58 rfl (lv_at hl 0 rfl) ?_
      refine lv_bipush (v := (40 : Int32)) hx hb dX12_readUnit_59 (by decide) ?_
      obtain ⟨_, hut15, h⟩ := Option.bind_eq_some_iff.mp h
      obtain ⟨t16, ht16, h⟩ := Option.bind_eq_some_iff.mp h
      refine xr_callV (rest := []) X O (T_X12_eats l κ a0 (40 : Int32) t14 _ _ ht16) lk_X12_164 hut15 (by omega) rfl hl.1 rfl (Nat.le_of_ble_eq_true rfl) dX12_readUnit_61 ⟨Nat.le_of_ble_eq_true rfl, Nat.le_of_ble_eq_true rfl⟩ (fun H locs O => ?_)
      refine W.eq (g2 := F0 m 64 ls [.int t16.1]) rfl ?_
      refine lv_if_ne (tgt := 72) hx hb dX12_readUnit_64 (by decide) (fun hc64 => ?_) (fun hc64 => ?_)
      · rw [if_neg hc64] at h
        rw [← Option.some.inj h] at hK
        have hK : t16.2 = mo := hK
        rw [hK] at O
        exact xr_vret X hr hlk O dX12_readUnit_72
      rw [if_pos hc64] at h
      refine lv_aload_n hx hb dX12_readUnit_67 rfl (lv_at hl 0 rfl) ?_
      refine lv_iconst (v := (2 : Int32)) hx hb dX12_readUnit_68 (by decide) ?_
      obtain ⟨_, hut17, h⟩ := Option.bind_eq_some_iff.mp h
      obtain ⟨t18, ht18, h⟩ := Option.bind_eq_some_iff.mp h
      refine xr_callV (rest := []) X O (T_X12_fails l κ a0 (2 : Int32) t16.2 _ ht18) lk_X12_141 hut17 (by omega) rfl hl.1 rfl (Nat.le_of_ble_eq_true rfl) dX12_readUnit_69 ⟨Nat.le_of_ble_eq_true rfl, Nat.le_of_ble_eq_true rfl⟩ (fun H locs O => ?_)
      refine W.eq (g2 := F0 m 72 ls []) rfl ?_
      rw [← Option.some.inj h] at hK
      have hK : t18 = mo := hK
      rw [hK] at O
      exact xr_vret X hr hlk O dX12_readUnit_72
    rw [if_pos hc47] at h
    rw [← Option.some.inj h] at hK
    have hK : t12.2 = mo := hK
    rw [hK] at O
    exact xr_vret X hr hlk O dX12_readUnit_50
  rw [if_neg hc6] at h
  refine lv_aload_n hx hb dX12_readUnit_9 rfl (lv_at hl 0 rfl) ?_
  refine lv_iload_n hx hb dX12_readUnit_10 rfl (lv_at hl 1 rfl) ?_
  obtain ⟨_, hut19, h⟩ := Option.bind_eq_some_iff.mp h
  obtain ⟨t20, ht20, h⟩ := Option.bind_eq_some_iff.mp h
  refine xr_callV (rest := []) X O (T_X12_goesIn l κ a0 a1 t2.2 _ _ ht20) lk_X12_158 hut19 (by omega) rfl hl.1 rfl (Nat.le_of_ble_eq_true rfl) dX12_readUnit_11 ⟨Nat.le_of_ble_eq_true rfl, Nat.le_of_ble_eq_true rfl⟩ (fun H locs O => ?_)
  refine W.eq (g2 := F0 m 14 ls [.int t20.1]) rfl ?_
  refine lv_if_ne (tgt := 18) hx hb dX12_readUnit_14 (by decide) (fun hc14 => ?_) (fun hc14 => ?_)
  · rw [if_neg hc14] at h
    refine lv_aload_n hx hb dX12_readUnit_18 rfl (lv_at hl 0 rfl) ?_
    refine lv_iload_n hx hb dX12_readUnit_19 rfl (lv_at hl 1 rfl) ?_
    refine lv_iconst (v := (1 : Int32)) hx hb dX12_readUnit_20 (by decide) ?_
    refine lv_iadd hx hb dX12_readUnit_21 ?_
    obtain ⟨_, hut21, h⟩ := Option.bind_eq_some_iff.mp h
    obtain ⟨t22, ht22, h⟩ := Option.bind_eq_some_iff.mp h
    refine xr_callV (rest := []) X O (hrc6 κ a0 (a1 + (1 : Int32)) t20.2 _ ht22) lk_X12_179 hut21 (Nat.le_refl _) rfl hl.1 rfl (Nat.le_of_ble_eq_true rfl) dX12_readUnit_22 ⟨Nat.le_of_ble_eq_true rfl, Nat.le_of_ble_eq_true rfl⟩ (fun H locs O => ?_)
    refine W.eq (g2 := F0 m 25 ls []) rfl ?_
    refine lv_aload_n hx hb dX12_readUnit_25 rfl (lv_at hl 0 rfl) ?_
    refine lv_sipush (v := (3006 : Int32)) hx hb dX12_readUnit_26 (by decide) ?_
    obtain ⟨_, hut23, h⟩ := Option.bind_eq_some_iff.mp h
    obtain ⟨t24, ht24, h⟩ := Option.bind_eq_some_iff.mp h
    refine xr_callV (rest := []) X O (T_X12_codes l κ a0 (3006 : Int32) t22 _ ht24) lk_X12_152 hut23 (by omega) rfl hl.1 rfl (Nat.le_of_ble_eq_true rfl) dX12_readUnit_29 ⟨Nat.le_of_ble_eq_true rfl, Nat.le_of_ble_eq_true rfl⟩ (fun H locs O => ?_)
    refine W.eq (g2 := F0 m 32 ls []) rfl ?_
    rw [← Option.some.inj h] at hK
    have hK : t24 = mo := hK
    rw [hK] at O
    exact xr_vret X hr hlk O dX12_readUnit_32
  rw [if_pos hc14] at h
  rw [← Option.some.inj h] at hK
  have hK : t20.2 = mo := hK
  rw [hK] at O
  exact xr_vret X hr hlk O dX12_readUnit_17
set_option maxRecDepth 100000 in
set_option maxHeartbeats 4000000 in
theorem K_X12_readAtom (l : Launch) : ∀ n : Nat, (∀ (κ : xQ) (a0 : Nat) (a1 : Int32) (M : xM) (mo : xM), R_X12_readAtom n 0 a0 a1 M = some mo → xC l yX12_readAtom cX12_readAtom 2 none (8 + n) 0 0 κ [.ref (κ.1 + a0), .int a1] M none mo) ∧ (∀ (κ : xQ) (a0 : Nat) (a1 : Int32) (M : xM) (mo : xM), R_X12_readAtom n 1 a0 a1 M = some mo → xC l yX12_readBoth cX12_readBoth 2 none (8 + n) 0 0 κ [.ref (κ.1 + a0), .int a1] M none mo) ∧ (∀ (κ : xQ) (a0 : Nat) (a1 : Int32) (M : xM) (mo : xM), R_X12_readAtom n 2 a0 a1 M = some mo → xC l yX12_readIf cX12_readIf 2 none (8 + n) 0 0 κ [.ref (κ.1 + a0), .int a1] M none mo) ∧ (∀ (κ : xQ) (a0 : Nat) (a1 : Int32) (M : xM) (mo : xM), R_X12_readAtom n 3 a0 a1 M = some mo → xC l yX12_readSum cX12_readSum 3 none (8 + n) 0 0 κ [.ref (κ.1 + a0), .int a1] M none mo) ∧ (∀ (κ : xQ) (a0 : Nat) (a1 : Int32) (M : xM) (mo : xM), R_X12_readAtom n 4 a0 a1 M = some mo → xC l yX12_readTerm cX12_readTerm 2 none (8 + n) 0 0 κ [.ref (κ.1 + a0), .int a1] M none mo) ∧ (∀ (κ : xQ) (a0 : Nat) (a1 : Int32) (M : xM) (mo : xM), R_X12_readAtom n 5 a0 a1 M = some mo → xC l yX12_readTruth cX12_readTruth 2 none (8 + n) 0 0 κ [.ref (κ.1 + a0), .int a1] M none mo) ∧ (∀ (κ : xQ) (a0 : Nat) (a1 : Int32) (M : xM) (mo : xM), R_X12_readAtom n 6 a0 a1 M = some mo → xC l yX12_readUnit cX12_readUnit 3 none (8 + n) 0 0 κ [.ref (κ.1 + a0), .int a1] M none mo) := by
  intro n
  induction n with
  | zero => exact ⟨fun κ a0 a1 M mo h => (by cases h), fun κ a0 a1 M mo h => (by cases h), fun κ a0 a1 M mo h => (by cases h), fun κ a0 a1 M mo h => (by cases h), fun κ a0 a1 M mo h => (by cases h), fun κ a0 a1 M mo h => (by cases h), fun κ a0 a1 M mo h => (by cases h)⟩
  | succ n ih =>
    obtain ⟨h0, h1, h2, h3, h4, h5, h6⟩ := ih
    exact ⟨fun κ a0 a1 M mo h => To_X12_readAtom l (dd := 8 + n) (Nat.le_add_right _ _) h0 h1 h2 h3 h4 h5 h6 κ a0 a1 M mo h, fun κ a0 a1 M mo h => To_X12_readBoth l (dd := 8 + n) (Nat.le_add_right _ _) h0 h1 h2 h3 h4 h5 h6 κ a0 a1 M mo h, fun κ a0 a1 M mo h => To_X12_readIf l (dd := 8 + n) (Nat.le_add_right _ _) h0 h1 h2 h3 h4 h5 h6 κ a0 a1 M mo h, fun κ a0 a1 M mo h => To_X12_readSum l (dd := 8 + n) (Nat.le_add_right _ _) h0 h1 h2 h3 h4 h5 h6 κ a0 a1 M mo h, fun κ a0 a1 M mo h => To_X12_readTerm l (dd := 8 + n) (Nat.le_add_right _ _) h0 h1 h2 h3 h4 h5 h6 κ a0 a1 M mo h, fun κ a0 a1 M mo h => To_X12_readTruth l (dd := 8 + n) (Nat.le_add_right _ _) h0 h1 h2 h3 h4 h5 h6 κ a0 a1 M mo h, fun κ a0 a1 M mo h => To_X12_readUnit l (dd := 8 + n) (Nat.le_add_right _ _) h0 h1 h2 h3 h4 h5 h6 κ a0 a1 M mo h⟩
set_option maxRecDepth 100000 in
set_option maxHeartbeats 4000000 in
theorem Tx_X12_readAtom (l : Launch) (κ : xQ) (a0 : Nat) (a1 : Int32) (M : xM) (mo : xM) (h : Fx_X12_readAtom a0 a1 M = some mo) : xC l yX12_readAtom cX12_readAtom 2 none 68 0 0 κ [.ref (κ.1 + a0), .int a1] M none mo := (K_X12_readAtom l 60).1 κ a0 a1 M mo h
set_option maxRecDepth 100000 in
set_option maxHeartbeats 4000000 in
theorem Tx_X12_readBoth (l : Launch) (κ : xQ) (a0 : Nat) (a1 : Int32) (M : xM) (mo : xM) (h : Fx_X12_readBoth a0 a1 M = some mo) : xC l yX12_readBoth cX12_readBoth 2 none 68 0 0 κ [.ref (κ.1 + a0), .int a1] M none mo := (K_X12_readAtom l 60).2.1 κ a0 a1 M mo h
set_option maxRecDepth 100000 in
set_option maxHeartbeats 4000000 in
theorem Tx_X12_readIf (l : Launch) (κ : xQ) (a0 : Nat) (a1 : Int32) (M : xM) (mo : xM) (h : Fx_X12_readIf a0 a1 M = some mo) : xC l yX12_readIf cX12_readIf 2 none 68 0 0 κ [.ref (κ.1 + a0), .int a1] M none mo := (K_X12_readAtom l 60).2.2.1 κ a0 a1 M mo h
set_option maxRecDepth 100000 in
set_option maxHeartbeats 4000000 in
theorem Tx_X12_readSum (l : Launch) (κ : xQ) (a0 : Nat) (a1 : Int32) (M : xM) (mo : xM) (h : Fx_X12_readSum a0 a1 M = some mo) : xC l yX12_readSum cX12_readSum 3 none 68 0 0 κ [.ref (κ.1 + a0), .int a1] M none mo := (K_X12_readAtom l 60).2.2.2.1 κ a0 a1 M mo h
set_option maxRecDepth 100000 in
set_option maxHeartbeats 4000000 in
theorem Tx_X12_readTerm (l : Launch) (κ : xQ) (a0 : Nat) (a1 : Int32) (M : xM) (mo : xM) (h : Fx_X12_readTerm a0 a1 M = some mo) : xC l yX12_readTerm cX12_readTerm 2 none 68 0 0 κ [.ref (κ.1 + a0), .int a1] M none mo := (K_X12_readAtom l 60).2.2.2.2.1 κ a0 a1 M mo h
set_option maxRecDepth 100000 in
set_option maxHeartbeats 4000000 in
theorem Tx_X12_readTruth (l : Launch) (κ : xQ) (a0 : Nat) (a1 : Int32) (M : xM) (mo : xM) (h : Fx_X12_readTruth a0 a1 M = some mo) : xC l yX12_readTruth cX12_readTruth 2 none 68 0 0 κ [.ref (κ.1 + a0), .int a1] M none mo := (K_X12_readAtom l 60).2.2.2.2.2.1 κ a0 a1 M mo h
set_option maxRecDepth 100000 in
set_option maxHeartbeats 4000000 in
theorem Tx_X12_readUnit (l : Launch) (κ : xQ) (a0 : Nat) (a1 : Int32) (M : xM) (mo : xM) (h : Fx_X12_readUnit a0 a1 M = some mo) : xC l yX12_readUnit cX12_readUnit 3 none 68 0 0 κ [.ref (κ.1 + a0), .int a1] M none mo := (K_X12_readAtom l 60).2.2.2.2.2.2 κ a0 a1 M mo h
def F_X12_cellsOf (a0 : Nat) (a1 : Nat) (M : xM) : Option (Int32 × xM) :=
(xaI M 20 a1 (1 : Int32)).bind fun t1 =>
(xaI M 20 a1 (2 : Int32)).bind fun t2 =>
some ((t1 * t2), M)
set_option maxRecDepth 100000 in
set_option maxHeartbeats 4000000 in
theorem T_X12_cellsOf (l : Launch) (κ : xQ) (a0 : Nat) (a1 : Nat) (M : xM) (ro : Int32) (mo : xM) (h : F_X12_cellsOf a0 a1 M = some (ro, mo)) : xC l yX12_cellsOf cX12_cellsOf 2 (some .int) 2 0 0 κ [.ref (κ.1 + a0), .ref (κ.1 + a1)] M (some (.int ro)) mo := by
  refine xC_of rfl (Nat.le_of_ble_eq_true rfl) fun p e s m args below meth c X hr hlk hnm H locs ls O hl => ?_
  have X : xX p s m args c cX12_cellsOf 2 RX12 κ := X
  have hl : lv_has ls 2 [(0, .ref (κ.1 + a0)), (1, .ref (κ.1 + a1))] := hl
  have hx := X.1
  have hb := X.2.1
  obtain ⟨x, hx0⟩ : ∃ x, (ro, mo) = x := ⟨_, rfl⟩
  rw [hx0] at h
  have hK : x = (ro, mo) := hx0.symm
  unfold F_X12_cellsOf at h
  refine lv_aload_n hx hb dX12_cellsOf_0 rfl (lv_at hl 1 rfl) ?_
  refine lv_iconst (v := (1 : Int32)) hx hb dX12_cellsOf_1 (by decide) ?_
  obtain ⟨t1, ht1, h⟩ := Option.bind_eq_some_iff.mp h
  refine xr_aldI X O ht1 dX12_cellsOf_2 ?_
  refine lv_aload_n hx hb dX12_cellsOf_3 rfl (lv_at hl 1 rfl) ?_
  refine lv_iconst (v := (2 : Int32)) hx hb dX12_cellsOf_4 (by decide) ?_
  obtain ⟨t2, ht2, h⟩ := Option.bind_eq_some_iff.mp h
  refine xr_aldI X O ht2 dX12_cellsOf_5 ?_
  refine lv_imul hx hb dX12_cellsOf_6 ?_
  rw [← Option.some.inj h] at hK
  have hK : ((t1 * t2), M) = (ro, mo) := hK
  obtain ⟨hK1, hK2⟩ := Prod.mk.inj hK
  rw [hK2] at O
  refine xr_top (w := .int ro) (by rw [hK1]) ?_
  exact xr_iret X hr hlk O dX12_cellsOf_7
def F_X12_named_13 (v0 : Nat) (v2 : Int32) (v3 : Int32) (M : xM) : Option (Int32 × xM) :=
(xck M v0 12).bind fun _ =>
(F_X12_takes v0 v2 v3 M).bind fun t6 =>
some (t6.1, t6.2)
def F_X12_named (a0 : Nat) (a1 : Int32) (a2 : Int32) (a3 : Int32) (M : xM) : Option (Int32 × xM) :=
(xck M a0 12).bind fun _ =>
(F_X12_eats a0 a1 M).bind fun t2 =>
if t2.1 = 0 then (
(xck t2.2 a0 12).bind fun _ =>
(F_X12_fails a0 (2 : Int32) t2.2).bind fun t4 =>
F_X12_named_13 a0 a2 a3 t4)
else (
F_X12_named_13 a0 a2 a3 t2.2)
set_option maxRecDepth 100000 in
set_option maxHeartbeats 4000000 in
theorem F_X12_named_13_ok (X : xX p s m args c cX12_named 4 RX12 κ) (hr : meth.sig.returnType = (some .int)) (hlk : meth.locks = false) {ro : Int32} {mo : xM} (v0 : Nat) (v2 : Int32) (v3 : Int32) (M : xM) (x : Int32 × xM) (h : F_X12_named_13 v0 v2 v3 M = some x) (hK : (fun o => o = (ro, mo)) x) (H : Heap) (locs : List Loc) (ls : Array Slot) (O : xO κ s M H locs) (hl : lv_has ls 4 [(0, .ref (κ.1 + v0)), (2, .int v2), (3, .int v3)]) : W p l e (xRm 9 0 0) s m args below meth c H locs 0 0 (xQf below args s 0 0 κ (some (.int ro)) mo) (F0 m 13 ls []) := by
  unfold F_X12_named_13 at h
  have hx := X.1
  have hb := X.2.1
  refine lv_aload_n hx hb dX12_named_13 rfl (lv_at hl 0 rfl) ?_
  refine lv_iload_n hx hb dX12_named_14 rfl (lv_at hl 1 rfl) ?_
  refine lv_iload_n hx hb dX12_named_15 rfl (lv_at hl 2 rfl) ?_
  obtain ⟨_, hut5, h⟩ := Option.bind_eq_some_iff.mp h
  obtain ⟨t6, ht6, h⟩ := Option.bind_eq_some_iff.mp h
  refine xr_callV (rest := []) X O (T_X12_takes l κ v0 v2 v3 M _ _ ht6) lk_X12_185 hut5 (Nat.le_of_ble_eq_true rfl) rfl hl.1 rfl (Nat.le_of_ble_eq_true rfl) dX12_named_16 ⟨Nat.le_of_ble_eq_true rfl, Nat.le_of_ble_eq_true rfl⟩ (fun H locs O => ?_)
  refine W.eq (g2 := F0 m 19 ls [.int t6.1]) rfl ?_
  rw [← Option.some.inj h] at hK
  have hK : (t6.1, t6.2) = (ro, mo) := hK
  obtain ⟨hK1, hK2⟩ := Prod.mk.inj hK
  rw [hK2] at O
  refine xr_top (w := .int ro) (by rw [hK1]) ?_
  exact xr_iret X hr hlk O dX12_named_19
set_option maxRecDepth 100000 in
set_option maxHeartbeats 4000000 in
theorem T_X12_named (l : Launch) (κ : xQ) (a0 : Nat) (a1 : Int32) (a2 : Int32) (a3 : Int32) (M : xM) (ro : Int32) (mo : xM) (h : F_X12_named a0 a1 a2 a3 M = some (ro, mo)) : xC l yX12_named cX12_named 4 (some .int) 9 0 0 κ [.ref (κ.1 + a0), .int a1, .int a2, .int a3] M (some (.int ro)) mo := by
  refine xC_of rfl (Nat.le_of_ble_eq_true rfl) fun p e s m args below meth c X hr hlk hnm H locs ls O hl => ?_
  have X : xX p s m args c cX12_named 4 RX12 κ := X
  have hl : lv_has ls 4 [(0, .ref (κ.1 + a0)), (1, .int a1), (2, .int a2), (3, .int a3)] := hl
  have hx := X.1
  have hb := X.2.1
  obtain ⟨x, hx0⟩ : ∃ x, (ro, mo) = x := ⟨_, rfl⟩
  rw [hx0] at h
  have hK : x = (ro, mo) := hx0.symm
  unfold F_X12_named at h
  refine lv_aload_n hx hb dX12_named_0 rfl (lv_at hl 0 rfl) ?_
  refine lv_iload_n hx hb dX12_named_1 rfl (lv_at hl 1 rfl) ?_
  obtain ⟨_, hut1, h⟩ := Option.bind_eq_some_iff.mp h
  obtain ⟨t2, ht2, h⟩ := Option.bind_eq_some_iff.mp h
  refine xr_callV (rest := []) X O (T_X12_eats l κ a0 a1 M _ _ ht2) lk_X12_164 hut1 (Nat.le_of_ble_eq_true rfl) rfl hl.1 rfl (Nat.le_of_ble_eq_true rfl) dX12_named_2 ⟨Nat.le_of_ble_eq_true rfl, Nat.le_of_ble_eq_true rfl⟩ (fun H locs O => ?_)
  refine W.eq (g2 := F0 m 5 ls [.int t2.1]) rfl ?_
  refine lv_if_ne (tgt := 13) hx hb dX12_named_5 (by decide) (fun hc5 => ?_) (fun hc5 => ?_)
  · rw [if_neg hc5] at h
    exact F_X12_named_13_ok X hr hlk a0 a2 a3 t2.2 _ h hK H locs ls O (lv_sub hl [0, 2, 3] rfl)
  rw [if_pos hc5] at h
  refine lv_aload_n hx hb dX12_named_8 rfl (lv_at hl 0 rfl) ?_
  refine lv_iconst (v := (2 : Int32)) hx hb dX12_named_9 (by decide) ?_
  obtain ⟨_, hut3, h⟩ := Option.bind_eq_some_iff.mp h
  obtain ⟨t4, ht4, h⟩ := Option.bind_eq_some_iff.mp h
  refine xr_callV (rest := []) X O (T_X12_fails l κ a0 (2 : Int32) t2.2 _ ht4) lk_X12_141 hut3 (Nat.le_of_ble_eq_true rfl) rfl hl.1 rfl (Nat.le_of_ble_eq_true rfl) dX12_named_10 ⟨Nat.le_of_ble_eq_true rfl, Nat.le_of_ble_eq_true rfl⟩ (fun H locs O => ?_)
  refine W.eq (g2 := F0 m 13 ls []) rfl ?_
  exact F_X12_named_13_ok X hr hlk a0 a2 a3 t4 _ h hK H locs ls O (lv_sub hl [0, 2, 3] rfl)
def F_X12_takesCell (a0 : Nat) (M : xM) : Option (Int32 × xM) :=
(xgP M a0 12 4).bind fun t1 =>
(xck M a0 12).bind fun _ =>
(F_X12_cellsOf a0 t1 M).bind fun t3 =>
(xck t3.2 a0 12).bind fun _ =>
(F_X12_takes a0 (0 : Int32) (t3.1 - (1 : Int32)) t3.2).bind fun t5 =>
some (t5.1, t5.2)
set_option maxRecDepth 100000 in
set_option maxHeartbeats 4000000 in
theorem T_X12_takesCell (l : Launch) (κ : xQ) (a0 : Nat) (M : xM) (ro : Int32) (mo : xM) (h : F_X12_takesCell a0 M = some (ro, mo)) : xC l yX12_takesCell cX12_takesCell 1 (some .int) 9 0 0 κ [.ref (κ.1 + a0)] M (some (.int ro)) mo := by
  refine xC_of rfl (Nat.le_of_ble_eq_true rfl) fun p e s m args below meth c X hr hlk hnm H locs ls O hl => ?_
  have X : xX p s m args c cX12_takesCell 1 RX12 κ := X
  have hl : lv_has ls 1 [(0, .ref (κ.1 + a0))] := hl
  have hx := X.1
  have hb := X.2.1
  obtain ⟨x, hx0⟩ : ∃ x, (ro, mo) = x := ⟨_, rfl⟩
  rw [hx0] at h
  have hK : x = (ro, mo) := hx0.symm
  unfold F_X12_takesCell at h
  refine lv_aload_n hx hb dX12_takesCell_0 rfl (lv_at hl 0 rfl) ?_
  refine lv_iconst (v := (0 : Int32)) hx hb dX12_takesCell_1 (by decide) ?_
  refine lv_aload_n hx hb dX12_takesCell_2 rfl (lv_at hl 0 rfl) ?_
  refine lv_aload_n hx hb dX12_takesCell_3 rfl (lv_at hl 0 rfl) ?_
  obtain ⟨t1, ht1, h⟩ := Option.bind_eq_some_iff.mp h
  refine xr_getP X O ht1 fl_X12_24 dX12_takesCell_4 ?_
  obtain ⟨_, hut2, h⟩ := Option.bind_eq_some_iff.mp h
  obtain ⟨t3, ht3, h⟩ := Option.bind_eq_some_iff.mp h
  refine xr_callV (rest := [.int (0 : Int32), .ref (κ.1 + a0)]) X O (T_X12_cellsOf l κ a0 t1 M _ _ ht3) lk_X12_189 hut2 (Nat.le_of_ble_eq_true rfl) rfl hl.1 rfl (Nat.le_of_ble_eq_true rfl) dX12_takesCell_7 ⟨Nat.le_of_ble_eq_true rfl, Nat.le_of_ble_eq_true rfl⟩ (fun H locs O => ?_)
  refine W.eq (g2 := F0 m 10 ls [.int t3.1, .int (0 : Int32), .ref (κ.1 + a0)]) rfl ?_
  refine lv_iconst (v := (1 : Int32)) hx hb dX12_takesCell_10 (by decide) ?_
  refine lv_isub hx hb dX12_takesCell_11 ?_
  obtain ⟨_, hut4, h⟩ := Option.bind_eq_some_iff.mp h
  obtain ⟨t5, ht5, h⟩ := Option.bind_eq_some_iff.mp h
  refine xr_callV (rest := []) X O (T_X12_takes l κ a0 (0 : Int32) (t3.1 - (1 : Int32)) t3.2 _ _ ht5) lk_X12_185 hut4 (Nat.le_of_ble_eq_true rfl) rfl hl.1 rfl (Nat.le_of_ble_eq_true rfl) dX12_takesCell_12 ⟨Nat.le_of_ble_eq_true rfl, Nat.le_of_ble_eq_true rfl⟩ (fun H locs O => ?_)
  refine W.eq (g2 := F0 m 15 ls [.int t5.1]) rfl ?_
  rw [← Option.some.inj h] at hK
  have hK : (t5.1, t5.2) = (ro, mo) := hK
  obtain ⟨hK1, hK2⟩ := Prod.mk.inj hK
  rw [hK2] at O
  refine xr_top (w := .int ro) (by rw [hK1]) ?_
  exact xr_iret X hr hlk O dX12_takesCell_15
def F_X12_readSand (a0 : Nat) (M : xM) : Option (xM) :=
(xck M a0 12).bind fun _ =>
(F_X12_next a0 M).bind fun t2 =>
(xck t2 a0 12).bind fun _ =>
(F_X12_takesCell a0 t2).bind fun t4 =>
(xck t4.2 a0 12).bind fun _ =>
(F_X12_takes a0 (0 : Int32) (9 : Int32) t4.2).bind fun t6 =>
(xgI t6.2 a0 12 11).bind fun t7 =>
if t7 = 0 then (
(xgP t6.2 a0 12 4).bind fun t8 =>
(xsI t6.2 t8 ((67 : Int32) + t4.1) t6.1).bind fun t9 =>
some t9)
else (
some t6.2)
set_option maxRecDepth 100000 in
set_option maxHeartbeats 4000000 in
theorem T_X12_readSand (l : Launch) (κ : xQ) (a0 : Nat) (M : xM) (mo : xM) (h : F_X12_readSand a0 M = some mo) : xC l yX12_readSand cX12_readSand 3 none 10 0 0 κ [.ref (κ.1 + a0)] M none mo := by
  refine xC_of rfl (Nat.le_of_ble_eq_true rfl) fun p e s m args below meth c X hr hlk hnm H locs ls O hl => ?_
  have X : xX p s m args c cX12_readSand 3 RX12 κ := X
  have hl : lv_has ls 3 [(0, .ref (κ.1 + a0))] := hl
  have hx := X.1
  have hb := X.2.1
  obtain ⟨x, hx0⟩ : ∃ x, mo = x := ⟨_, rfl⟩
  rw [hx0] at h
  have hK : x = mo := hx0.symm
  unfold F_X12_readSand at h
  refine lv_aload_n hx hb dX12_readSand_0 rfl (lv_at hl 0 rfl) ?_
  obtain ⟨_, hut1, h⟩ := Option.bind_eq_some_iff.mp h
  obtain ⟨t2, ht2, h⟩ := Option.bind_eq_some_iff.mp h
  refine xr_callV (rest := []) X O (T_X12_next l κ a0 M _ ht2) lk_X12_138 hut1 (Nat.le_of_ble_eq_true rfl) rfl hl.1 rfl (Nat.le_of_ble_eq_true rfl) dX12_readSand_1 ⟨Nat.le_of_ble_eq_true rfl, Nat.le_of_ble_eq_true rfl⟩ (fun H locs O => ?_)
  refine W.eq (g2 := F0 m 4 ls []) rfl ?_
  refine lv_aload_n hx hb dX12_readSand_4 rfl (lv_at hl 0 rfl) ?_
  obtain ⟨_, hut3, h⟩ := Option.bind_eq_some_iff.mp h
  obtain ⟨t4, ht4, h⟩ := Option.bind_eq_some_iff.mp h
  refine xr_callV (rest := []) X O (T_X12_takesCell l κ a0 t2 _ _ ht4) lk_X12_193 hut3 (Nat.le_of_ble_eq_true rfl) rfl hl.1 rfl (Nat.le_of_ble_eq_true rfl) dX12_readSand_5 ⟨Nat.le_of_ble_eq_true rfl, Nat.le_of_ble_eq_true rfl⟩ (fun H locs O => ?_)
  refine W.eq (g2 := F0 m 8 ls [.int t4.1]) rfl ?_
  refine lv_istore_n (lv' := [(1, .int t4.1), (0, .ref (κ.1 + a0))]) hx hb dX12_readSand_8 rfl hl (by decide) rfl (fun ls hl => ?_)
  refine lv_aload_n hx hb dX12_readSand_9 rfl (lv_at hl 1 rfl) ?_
  refine lv_iconst (v := (0 : Int32)) hx hb dX12_readSand_10 (by decide) ?_
  refine lv_bipush (v := (9 : Int32)) hx hb dX12_readSand_11 (by decide) ?_
  obtain ⟨_, hut5, h⟩ := Option.bind_eq_some_iff.mp h
  obtain ⟨t6, ht6, h⟩ := Option.bind_eq_some_iff.mp h
  refine xr_callV (rest := []) X O (T_X12_takes l κ a0 (0 : Int32) (9 : Int32) t4.2 _ _ ht6) lk_X12_185 hut5 (Nat.le_of_ble_eq_true rfl) rfl hl.1 rfl (Nat.le_of_ble_eq_true rfl) dX12_readSand_13 ⟨Nat.le_of_ble_eq_true rfl, Nat.le_of_ble_eq_true rfl⟩ (fun H locs O => ?_)
  refine W.eq (g2 := F0 m 16 ls [.int t6.1]) rfl ?_
  refine lv_istore_n (lv' := [(2, .int t6.1), (1, .int t4.1), (0, .ref (κ.1 + a0))]) hx hb dX12_readSand_16 rfl hl (by decide) rfl (fun ls hl => ?_)
  refine lv_aload_n hx hb dX12_readSand_17 rfl (lv_at hl 2 rfl) ?_
  obtain ⟨t7, ht7, h⟩ := Option.bind_eq_some_iff.mp h
  refine xr_getI X O ht7 fl_X12_129 (Or.inl rfl) dX12_readSand_18 ?_
  refine lv_if_ne (tgt := 34) hx hb dX12_readSand_21 (by decide) (fun hc21 => ?_) (fun hc21 => ?_)
  · rw [if_neg hc21] at h
    rw [← Option.some.inj h] at hK
    have hK : t6.2 = mo := hK
    rw [hK] at O
    exact xr_vret X hr hlk O dX12_readSand_34
  rw [if_pos hc21] at h
  refine lv_aload_n hx hb dX12_readSand_24 rfl (lv_at hl 2 rfl) ?_
  obtain ⟨t8, ht8, h⟩ := Option.bind_eq_some_iff.mp h
  refine xr_getP X O ht8 fl_X12_24 dX12_readSand_25 ?_
  refine lv_bipush (v := (67 : Int32)) hx hb dX12_readSand_28 (by decide) ?_
  refine lv_iload_n hx hb dX12_readSand_30 rfl (lv_at hl 1 rfl) ?_
  refine lv_iadd hx hb dX12_readSand_31 ?_
  refine lv_iload_n hx hb dX12_readSand_32 rfl (lv_at hl 0 rfl) ?_
  obtain ⟨t9, ht9, h⟩ := Option.bind_eq_some_iff.mp h
  refine xr_stI X O ht9 dX12_readSand_33 (fun H locs O => ?_)
  rw [← Option.some.inj h] at hK
  have hK : t9 = mo := hK
  rw [hK] at O
  exact xr_vret X hr hlk O dX12_readSand_34
def F_X12_isBuiltOn_28 (M : xM) : Option (Int32 × xM) :=
(xz (1 : Int32)).bind fun t6 =>
some (t6, M)
def F_X12_isBuiltOn_36 (M : xM) : Option (Int32 × xM) :=
(xz (0 : Int32)).bind fun t5 =>
some (t5, M)
def F_X12_isBuiltOn_2b (v0 : Nat) (v1 : Int32) : (Int32 × xM) → Option ((Int32 × xM) ⊕ (Int32 × xM)) := fun ⟨v2, M⟩ =>
(xgP M v0 12 4).bind fun t1 =>
(xaI M 20 t1 (92 : Int32)).bind fun t2 =>
if t2 ≤ v2 then (
(F_X12_isBuiltOn_36 M).map Sum.inr)
else (
(xgP M v0 12 4).bind fun t3 =>
(xaI M 20 t3 ((93 : Int32) + ((2 : Int32) * v2))).bind fun t4 =>
if t4 = v1 then (
(F_X12_isBuiltOn_28 M).map Sum.inr)
else (
some (.inl ((v2 + 1), M))))
def F_X12_isBuiltOn_2 (v0 : Nat) (v1 : Int32) (v2 : Int32) (M : xM) : Option (Int32 × xM) := xit (F_X12_isBuiltOn_2b v0 v1) xFU (v2, M)
def F_X12_isBuiltOn (a0 : Nat) (a1 : Int32) (M : xM) : Option (Int32 × xM) :=
F_X12_isBuiltOn_2 a0 a1 (0 : Int32) M
set_option maxRecDepth 100000 in
set_option maxHeartbeats 4000000 in
theorem F_X12_isBuiltOn_28_ok (X : xX p s m args c cX12_isBuiltOn 3 RX12 κ) (hr : meth.sig.returnType = (some .boolean)) (hlk : meth.locks = false) {ro : Int32} {mo : xM} (M : xM) (x : Int32 × xM) (h : F_X12_isBuiltOn_28 M = some x) (hK : (fun o => o = (ro, mo)) x) (H : Heap) (locs : List Loc) (ls : Array Slot) (O : xO κ s M H locs) (hl : lv_has ls 3 []) : W p l e (xRm 2 0 0) s m args below meth c H locs 0 0 (xQf below args s 0 0 κ (some (.int ro)) mo) (F0 m 28 ls []) := by
  unfold F_X12_isBuiltOn_28 at h
  have hx := X.1
  have hb := X.2.1
  refine lv_iconst (v := (1 : Int32)) hx hb dX12_isBuiltOn_28 (by decide) ?_
  obtain ⟨t6, ht6, h⟩ := Option.bind_eq_some_iff.mp h
  rw [← Option.some.inj h] at hK
  have hK : (t6, M) = (ro, mo) := hK
  obtain ⟨hK1, hK2⟩ := Prod.mk.inj hK
  rw [hK1] at ht6
  rw [hK2] at O
  exact xr_zret X hr hlk O ht6 dX12_isBuiltOn_29
set_option maxRecDepth 100000 in
set_option maxHeartbeats 4000000 in
theorem F_X12_isBuiltOn_36_ok (X : xX p s m args c cX12_isBuiltOn 3 RX12 κ) (hr : meth.sig.returnType = (some .boolean)) (hlk : meth.locks = false) {ro : Int32} {mo : xM} (M : xM) (x : Int32 × xM) (h : F_X12_isBuiltOn_36 M = some x) (hK : (fun o => o = (ro, mo)) x) (H : Heap) (locs : List Loc) (ls : Array Slot) (O : xO κ s M H locs) (hl : lv_has ls 3 []) : W p l e (xRm 2 0 0) s m args below meth c H locs 0 0 (xQf below args s 0 0 κ (some (.int ro)) mo) (F0 m 36 ls []) := by
  unfold F_X12_isBuiltOn_36 at h
  have hx := X.1
  have hb := X.2.1
  refine lv_iconst (v := (0 : Int32)) hx hb dX12_isBuiltOn_36 (by decide) ?_
  obtain ⟨t5, ht5, h⟩ := Option.bind_eq_some_iff.mp h
  rw [← Option.some.inj h] at hK
  have hK : (t5, M) = (ro, mo) := hK
  obtain ⟨hK1, hK2⟩ := Prod.mk.inj hK
  rw [hK1] at ht5
  rw [hK2] at O
  exact xr_zret X hr hlk O ht5 dX12_isBuiltOn_37
set_option maxRecDepth 100000 in
set_option maxHeartbeats 4000000 in
theorem F_X12_isBuiltOn_2_bok (X : xX p s m args c cX12_isBuiltOn 3 RX12 κ) (hr : meth.sig.returnType = (some .boolean)) (hlk : meth.locks = false) {ro : Int32} {mo : xM} (v0 : Nat) (v1 : Int32) (v2 : Int32) {W2 : Int32 × xM → Prop} (hW2 : ∀ (v2 : Int32) (M : xM), W2 (v2, M) → ∀ (H : Heap) (locs : List Loc) (ls : Array Slot), xO κ s M H locs → lv_has ls 3 [(0, .ref (κ.1 + v0)), (1, .int v1), (2, .int v2)] → W p l e (xRm 2 0 0) s m args below meth c H locs 0 0 (xQf below args s 0 0 κ (some (.int ro)) mo) (F0 m 2 ls [])) (M : xM) (x : (Int32 × xM) ⊕ (Int32 × xM)) (h : F_X12_isBuiltOn_2b v0 v1 (v2, M) = some x) (hK : (xKl W2 (fun o => o = (ro, mo))) x) (H : Heap) (locs : List Loc) (ls : Array Slot) (O : xO κ s M H locs) (hl : lv_has ls 3 [(0, .ref (κ.1 + v0)), (1, .int v1), (2, .int v2)]) : W p l e (xRm 2 0 0) s m args below meth c H locs 0 0 (xQf below args s 0 0 κ (some (.int ro)) mo) (F0 m 2 ls []) := by
  unfold F_X12_isBuiltOn_2b at h
  dsimp only at h
  have hx := X.1
  have hb := X.2.1
  refine lv_iload_n hx hb dX12_isBuiltOn_2 rfl (lv_at hl 2 rfl) ?_
  refine lv_aload_n hx hb dX12_isBuiltOn_3 rfl (lv_at hl 0 rfl) ?_
  obtain ⟨t1, ht1, h⟩ := Option.bind_eq_some_iff.mp h
  refine xr_getP X O ht1 fl_X12_24 dX12_isBuiltOn_4 ?_
  refine lv_bipush (v := (92 : Int32)) hx hb dX12_isBuiltOn_7 (by decide) ?_
  obtain ⟨t2, ht2, h⟩ := Option.bind_eq_some_iff.mp h
  refine xr_aldI X O ht2 dX12_isBuiltOn_9 ?_
  refine lv_icmp_ge (tgt := 36) hx hb dX12_isBuiltOn_10 (by decide) (fun hc10 => ?_) (fun hc10 => ?_)
  · rw [if_pos hc10] at h
    obtain ⟨_, hw0, ew0⟩ := Option.map_eq_some_iff.mp h
    rw [← ew0] at hK
    have h := hw0
    exact F_X12_isBuiltOn_36_ok X hr hlk  M _ h hK H locs ls O (lv_sub hl [] rfl)
  rw [if_neg hc10] at h
  refine lv_aload_n hx hb dX12_isBuiltOn_13 rfl (lv_at hl 0 rfl) ?_
  obtain ⟨t3, ht3, h⟩ := Option.bind_eq_some_iff.mp h
  refine xr_getP X O ht3 fl_X12_24 dX12_isBuiltOn_14 ?_
  refine lv_bipush (v := (93 : Int32)) hx hb dX12_isBuiltOn_17 (by decide) ?_
  refine lv_iconst (v := (2 : Int32)) hx hb dX12_isBuiltOn_19 (by decide) ?_
  refine lv_iload_n hx hb dX12_isBuiltOn_20 rfl (lv_at hl 2 rfl) ?_
  refine lv_imul hx hb dX12_isBuiltOn_21 ?_
  refine lv_iadd hx hb dX12_isBuiltOn_22 ?_
  obtain ⟨t4, ht4, h⟩ := Option.bind_eq_some_iff.mp h
  refine xr_aldI X O ht4 dX12_isBuiltOn_23 ?_
  refine lv_iload_n hx hb dX12_isBuiltOn_24 rfl (lv_at hl 1 rfl) ?_
  refine lv_icmp_ne (tgt := 30) hx hb dX12_isBuiltOn_25 (by decide) (fun hc25 => ?_) (fun hc25 => ?_)
  · rw [if_neg hc25] at h
    refine lv_iinc (v := (v2 + 1)) (lv' := [(2, .int (v2 + 1)), (0, .ref (κ.1 + v0)), (1, .int v1)]) hx hb dX12_isBuiltOn_30 hl (k := 2) rfl rfl (by decide) rfl (fun ls hl => ?_)
    refine lv_goto (tgt := 2) hx hb dX12_isBuiltOn_33 (by decide) ?_
    rw [← Option.some.inj h] at hK
    exact hW2 (v2 + 1) M hK H locs ls O (lv_sub hl [1, 2, 0] rfl)
  rw [if_pos hc25] at h
  obtain ⟨_, hw0, ew0⟩ := Option.map_eq_some_iff.mp h
  rw [← ew0] at hK
  have h := hw0
  exact F_X12_isBuiltOn_28_ok X hr hlk  M _ h hK H locs ls O (lv_sub hl [] rfl)
set_option maxRecDepth 100000 in
set_option maxHeartbeats 4000000 in
theorem F_X12_isBuiltOn_2_ok (X : xX p s m args c cX12_isBuiltOn 3 RX12 κ) (hr : meth.sig.returnType = (some .boolean)) (hlk : meth.locks = false) {ro : Int32} {mo : xM} (v0 : Nat) (v1 : Int32) (v2 : Int32) (M : xM) (x : Int32 × xM) (h : F_X12_isBuiltOn_2 v0 v1 v2 M = some x) (hK : (fun o => o = (ro, mo)) x) (H : Heap) (locs : List Loc) (ls : Array Slot) (O : xO κ s M H locs) (hl : lv_has ls 3 [(0, .ref (κ.1 + v0)), (1, .int v1), (2, .int v2)]) : W p l e (xRm 2 0 0) s m args below meth c H locs 0 0 (xQf below args s 0 0 κ (some (.int ro)) mo) (F0 m 2 ls []) := by
  refine xit_K (Wh := fun x => ∀ (H : Heap) (locs : List Loc) (ls : Array Slot), xO κ s x.2 H locs → lv_has ls 3 [(0, .ref (κ.1 + v0)), (1, .int v1), (2, .int x.1)] → W p l e (xRm 2 0 0) s m args below meth c H locs 0 0 (xQf below args s 0 0 κ (some (.int ro)) mo) (F0 m 2 ls [])) (Kp := (fun o => o = (ro, mo))) ?_ xFU (v2, M) x h hK H locs ls O hl
  intro y x h hK H locs ls O hl
  exact F_X12_isBuiltOn_2_bok X hr hlk v0 v1 y.1 (fun _ _ hw => hw) y.2 x h hK H locs ls O hl
set_option maxRecDepth 100000 in
set_option maxHeartbeats 4000000 in
theorem T_X12_isBuiltOn (l : Launch) (κ : xQ) (a0 : Nat) (a1 : Int32) (M : xM) (ro : Int32) (mo : xM) (h : F_X12_isBuiltOn a0 a1 M = some (ro, mo)) : xC l yX12_isBuiltOn cX12_isBuiltOn 3 (some .boolean) 2 0 0 κ [.ref (κ.1 + a0), .int a1] M (some (.int ro)) mo := by
  refine xC_of rfl (Nat.le_of_ble_eq_true rfl) fun p e s m args below meth c X hr hlk hnm H locs ls O hl => ?_
  have X : xX p s m args c cX12_isBuiltOn 3 RX12 κ := X
  have hl : lv_has ls 3 [(0, .ref (κ.1 + a0)), (1, .int a1)] := hl
  have hx := X.1
  have hb := X.2.1
  obtain ⟨x, hx0⟩ : ∃ x, (ro, mo) = x := ⟨_, rfl⟩
  rw [hx0] at h
  have hK : x = (ro, mo) := hx0.symm
  unfold F_X12_isBuiltOn at h
  refine lv_iconst (v := (0 : Int32)) hx hb dX12_isBuiltOn_0 (by decide) ?_
  refine lv_istore_n (lv' := [(2, .int (0 : Int32)), (0, .ref (κ.1 + a0)), (1, .int a1)]) hx hb dX12_isBuiltOn_1 rfl hl (by decide) rfl (fun ls hl => ?_)
  exact F_X12_isBuiltOn_2_ok X hr hlk a0 a1 (0 : Int32) M _ h hK H locs ls O (lv_sub hl [1, 2, 0] rfl)
def F_X12_readHouse_56 (v0 : Nat) (v1 : Int32) (M : xM) : Option (xM) :=
(xgP M v0 12 4).bind fun t15 =>
(xck M v0 12).bind fun _ =>
(F_X12_takesCell v0 M).bind fun t17 =>
(xsI t17.2 t15 ((93 : Int32) + ((2 : Int32) * v1)) t17.1).bind fun t18 =>
(xgP t18 v0 12 4).bind fun t19 =>
(xck t18 v0 12).bind fun _ =>
(F_X12_named v0 (5 : Int32) (0 : Int32) (4 : Int32) t18).bind fun t21 =>
(xsI t21.2 t19 (((93 : Int32) + ((2 : Int32) * v1)) + (1 : Int32)) t21.1).bind fun t22 =>
(xgI t22 v0 12 11).bind fun t23 =>
if t23 = 0 then (
(xgP t22 v0 12 4).bind fun t24 =>
(xaI t22 20 t24 (92 : Int32)).bind fun t25 =>
(xsI t22 t24 (92 : Int32) (t25 + (1 : Int32))).bind fun t26 =>
some t26)
else (
some t22)
def F_X12_readHouse_19 (v0 : Nat) (v1 : Int32) (M : xM) : Option (xM) :=
(xgI M v0 12 11).bind fun t5 =>
if t5 = 0 then (
(xck M v0 12).bind fun _ =>
(F_X12_next v0 M).bind fun t7 =>
(xck t7 v0 12).bind fun _ =>
(F_X12_is v0 (29 : Int32) t7).bind fun t9 =>
if t9.1 = 0 then (
F_X12_readHouse_56 v0 v1 t9.2)
else (
(xgI t9.2 v0 12 10).bind fun t10 =>
(xck t9.2 v0 12).bind fun _ =>
(F_X12_isBuiltOn v0 t10 t9.2).bind fun t12 =>
if t12.1 = 0 then (
F_X12_readHouse_56 v0 v1 t12.2)
else (
(xck t12.2 v0 12).bind fun _ =>
(F_X12_fails v0 (3 : Int32) t12.2).bind fun t14 =>
F_X12_readHouse_56 v0 v1 t14)))
else (
some M)
def F_X12_readHouse (a0 : Nat) (M : xM) : Option (xM) :=
(xgP M a0 12 4).bind fun t1 =>
(xaI M 20 t1 (92 : Int32)).bind fun t2 =>
if t2 = (6 : Int32) then (
(xck M a0 12).bind fun _ =>
(F_X12_fails a0 (4 : Int32) M).bind fun t4 =>
F_X12_readHouse_19 a0 t2 t4)
else (
F_X12_readHouse_19 a0 t2 M)
set_option maxRecDepth 100000 in
set_option maxHeartbeats 4000000 in
theorem F_X12_readHouse_56_ok (X : xX p s m args c cX12_readHouse 2 RX12 κ) (hr : meth.sig.returnType = none) (hlk : meth.locks = false) {mo : xM} (v0 : Nat) (v1 : Int32) (M : xM) (x : xM) (h : F_X12_readHouse_56 v0 v1 M = some x) (hK : (fun o => o = mo) x) (H : Heap) (locs : List Loc) (ls : Array Slot) (O : xO κ s M H locs) (hl : lv_has ls 2 [(0, .ref (κ.1 + v0)), (1, .int v1)]) : W p l e (xRm 10 0 0) s m args below meth c H locs 0 0 (xQf below args s 0 0 κ none mo) (F0 m 56 ls []) := by
  unfold F_X12_readHouse_56 at h
  have hx := X.1
  have hb := X.2.1
  refine lv_aload_n hx hb dX12_readHouse_56 rfl (lv_at hl 0 rfl) ?_
  obtain ⟨t15, ht15, h⟩ := Option.bind_eq_some_iff.mp h
  refine xr_getP X O ht15 fl_X12_24 dX12_readHouse_57 ?_
  refine lv_bipush (v := (93 : Int32)) hx hb dX12_readHouse_60 (by decide) ?_
  refine lv_iconst (v := (2 : Int32)) hx hb dX12_readHouse_62 (by decide) ?_
  refine lv_iload_n hx hb dX12_readHouse_63 rfl (lv_at hl 1 rfl) ?_
  refine lv_imul hx hb dX12_readHouse_64 ?_
  refine lv_iadd hx hb dX12_readHouse_65 ?_
  refine lv_aload_n hx hb dX12_readHouse_66 rfl (lv_at hl 0 rfl) ?_
  obtain ⟨_, hut16, h⟩ := Option.bind_eq_some_iff.mp h
  obtain ⟨t17, ht17, h⟩ := Option.bind_eq_some_iff.mp h
  refine xr_callV (rest := [.int ((93 : Int32) + ((2 : Int32) * v1)), .ref (κ.1 + t15)]) X O (T_X12_takesCell l κ v0 M _ _ ht17) lk_X12_193 hut16 (Nat.le_of_ble_eq_true rfl) rfl hl.1 rfl (Nat.le_of_ble_eq_true rfl) dX12_readHouse_67 ⟨Nat.le_of_ble_eq_true rfl, Nat.le_of_ble_eq_true rfl⟩ (fun H locs O => ?_)
  refine W.eq (g2 := F0 m 70 ls [.int t17.1, .int ((93 : Int32) + ((2 : Int32) * v1)), .ref (κ.1 + t15)]) rfl ?_
  obtain ⟨t18, ht18, h⟩ := Option.bind_eq_some_iff.mp h
  refine xr_stI X O ht18 dX12_readHouse_70 (fun H locs O => ?_)
  refine lv_aload_n hx hb dX12_readHouse_71 rfl (lv_at hl 0 rfl) ?_
  obtain ⟨t19, ht19, h⟩ := Option.bind_eq_some_iff.mp h
  refine xr_getP X O ht19 fl_X12_24 dX12_readHouse_72 ?_
  refine lv_bipush (v := (93 : Int32)) hx hb dX12_readHouse_75 (by decide) ?_
  refine lv_iconst (v := (2 : Int32)) hx hb dX12_readHouse_77 (by decide) ?_
  refine lv_iload_n hx hb dX12_readHouse_78 rfl (lv_at hl 1 rfl) ?_
  refine lv_imul hx hb dX12_readHouse_79 ?_
  refine lv_iadd hx hb dX12_readHouse_80 ?_
  refine lv_iconst (v := (1 : Int32)) hx hb dX12_readHouse_81 (by decide) ?_
  refine lv_iadd hx hb dX12_readHouse_82 ?_
  refine lv_aload_n hx hb dX12_readHouse_83 rfl (lv_at hl 0 rfl) ?_
  refine lv_iconst (v := (5 : Int32)) hx hb dX12_readHouse_84 (by decide) ?_
  refine lv_iconst (v := (0 : Int32)) hx hb dX12_readHouse_85 (by decide) ?_
  refine lv_iconst (v := (4 : Int32)) hx hb dX12_readHouse_86 (by decide) ?_
  obtain ⟨_, hut20, h⟩ := Option.bind_eq_some_iff.mp h
  obtain ⟨t21, ht21, h⟩ := Option.bind_eq_some_iff.mp h
  refine xr_callV (rest := [.int (((93 : Int32) + ((2 : Int32) * v1)) + (1 : Int32)), .ref (κ.1 + t19)]) X O (T_X12_named l κ v0 (5 : Int32) (0 : Int32) (4 : Int32) t18 _ _ ht21) lk_X12_199 hut20 (Nat.le_of_ble_eq_true rfl) rfl hl.1 rfl (Nat.le_of_ble_eq_true rfl) dX12_readHouse_87 ⟨Nat.le_of_ble_eq_true rfl, Nat.le_of_ble_eq_true rfl⟩ (fun H locs O => ?_)
  refine W.eq (g2 := F0 m 90 ls [.int t21.1, .int (((93 : Int32) + ((2 : Int32) * v1)) + (1 : Int32)), .ref (κ.1 + t19)]) rfl ?_
  obtain ⟨t22, ht22, h⟩ := Option.bind_eq_some_iff.mp h
  refine xr_stI X O ht22 dX12_readHouse_90 (fun H locs O => ?_)
  refine lv_aload_n hx hb dX12_readHouse_91 rfl (lv_at hl 0 rfl) ?_
  obtain ⟨t23, ht23, h⟩ := Option.bind_eq_some_iff.mp h
  refine xr_getI X O ht23 fl_X12_129 (Or.inl rfl) dX12_readHouse_92 ?_
  refine lv_if_ne (tgt := 109) hx hb dX12_readHouse_95 (by decide) (fun hc95 => ?_) (fun hc95 => ?_)
  · rw [if_neg hc95] at h
    rw [← Option.some.inj h] at hK
    have hK : t22 = mo := hK
    rw [hK] at O
    exact xr_vret X hr hlk O dX12_readHouse_109
  rw [if_pos hc95] at h
  refine lv_aload_n hx hb dX12_readHouse_98 rfl (lv_at hl 0 rfl) ?_
  obtain ⟨t24, ht24, h⟩ := Option.bind_eq_some_iff.mp h
  refine xr_getP X O ht24 fl_X12_24 dX12_readHouse_99 ?_
  refine lv_bipush (v := (92 : Int32)) hx hb dX12_readHouse_102 (by decide) ?_
  refine lv_dup2_11 hx hb dX12_readHouse_104 rfl rfl ?_
  obtain ⟨t25, ht25, h⟩ := Option.bind_eq_some_iff.mp h
  refine xr_aldI X O ht25 dX12_readHouse_105 ?_
  refine lv_iconst (v := (1 : Int32)) hx hb dX12_readHouse_106 (by decide) ?_
  refine lv_iadd hx hb dX12_readHouse_107 ?_
  obtain ⟨t26, ht26, h⟩ := Option.bind_eq_some_iff.mp h
  refine xr_stI X O ht26 dX12_readHouse_108 (fun H locs O => ?_)
  rw [← Option.some.inj h] at hK
  have hK : t26 = mo := hK
  rw [hK] at O
  exact xr_vret X hr hlk O dX12_readHouse_109
set_option maxRecDepth 100000 in
set_option maxHeartbeats 4000000 in
theorem F_X12_readHouse_19_ok (X : xX p s m args c cX12_readHouse 2 RX12 κ) (hr : meth.sig.returnType = none) (hlk : meth.locks = false) {mo : xM} (v0 : Nat) (v1 : Int32) (M : xM) (x : xM) (h : F_X12_readHouse_19 v0 v1 M = some x) (hK : (fun o => o = mo) x) (H : Heap) (locs : List Loc) (ls : Array Slot) (O : xO κ s M H locs) (hl : lv_has ls 2 [(0, .ref (κ.1 + v0)), (1, .int v1)]) : W p l e (xRm 10 0 0) s m args below meth c H locs 0 0 (xQf below args s 0 0 κ none mo) (F0 m 19 ls []) := by
  unfold F_X12_readHouse_19 at h
  have hx := X.1
  have hb := X.2.1
  refine lv_aload_n hx hb dX12_readHouse_19 rfl (lv_at hl 0 rfl) ?_
  obtain ⟨t5, ht5, h⟩ := Option.bind_eq_some_iff.mp h
  refine xr_getI X O ht5 fl_X12_129 (Or.inl rfl) dX12_readHouse_20 ?_
  refine lv_if_eq (tgt := 27) hx hb dX12_readHouse_23 (by decide) (fun hc23 => ?_) (fun hc23 => ?_)
  · rw [if_pos hc23] at h
    refine lv_aload_n hx hb dX12_readHouse_27 rfl (lv_at hl 0 rfl) ?_
    obtain ⟨_, hut6, h⟩ := Option.bind_eq_some_iff.mp h
    obtain ⟨t7, ht7, h⟩ := Option.bind_eq_some_iff.mp h
    refine xr_callV (rest := []) X O (T_X12_next l κ v0 M _ ht7) lk_X12_138 hut6 (Nat.le_of_ble_eq_true rfl) rfl hl.1 rfl (Nat.le_of_ble_eq_true rfl) dX12_readHouse_28 ⟨Nat.le_of_ble_eq_true rfl, Nat.le_of_ble_eq_true rfl⟩ (fun H locs O => ?_)
    refine W.eq (g2 := F0 m 31 ls []) rfl ?_
    refine lv_aload_n hx hb dX12_readHouse_31 rfl (lv_at hl 0 rfl) ?_
    refine lv_bipush (v := (29 : Int32)) hx hb dX12_readHouse_32 (by decide) ?_
    obtain ⟨_, hut8, h⟩ := Option.bind_eq_some_iff.mp h
    obtain ⟨t9, ht9, h⟩ := Option.bind_eq_some_iff.mp h
    refine xr_callV (rest := []) X O (T_X12_is l κ v0 (29 : Int32) t7 _ _ ht9) lk_X12_135 hut8 (Nat.le_of_ble_eq_true rfl) rfl hl.1 rfl (Nat.le_of_ble_eq_true rfl) dX12_readHouse_34 ⟨Nat.le_of_ble_eq_true rfl, Nat.le_of_ble_eq_true rfl⟩ (fun H locs O => ?_)
    refine W.eq (g2 := F0 m 37 ls [.int t9.1]) rfl ?_
    refine lv_if_eq (tgt := 56) hx hb dX12_readHouse_37 (by decide) (fun hc37 => ?_) (fun hc37 => ?_)
    · rw [if_pos hc37] at h
      exact F_X12_readHouse_56_ok X hr hlk v0 v1 t9.2 _ h hK H locs ls O (lv_sub hl [0, 1] rfl)
    rw [if_neg hc37] at h
    refine lv_aload_n hx hb dX12_readHouse_40 rfl (lv_at hl 0 rfl) ?_
    refine lv_aload_n hx hb dX12_readHouse_41 rfl (lv_at hl 0 rfl) ?_
    obtain ⟨t10, ht10, h⟩ := Option.bind_eq_some_iff.mp h
    refine xr_getI X O ht10 fl_X12_124 (Or.inl rfl) dX12_readHouse_42 ?_
    obtain ⟨_, hut11, h⟩ := Option.bind_eq_some_iff.mp h
    obtain ⟨t12, ht12, h⟩ := Option.bind_eq_some_iff.mp h
    refine xr_callV (rest := []) X O (T_X12_isBuiltOn l κ v0 t10 t9.2 _ _ ht12) lk_X12_196 hut11 (Nat.le_of_ble_eq_true rfl) rfl hl.1 rfl (Nat.le_of_ble_eq_true rfl) dX12_readHouse_45 ⟨Nat.le_of_ble_eq_true rfl, Nat.le_of_ble_eq_true rfl⟩ (fun H locs O => ?_)
    refine W.eq (g2 := F0 m 48 ls [.int t12.1]) rfl ?_
    refine lv_if_eq (tgt := 56) hx hb dX12_readHouse_48 (by decide) (fun hc48 => ?_) (fun hc48 => ?_)
    · rw [if_pos hc48] at h
      exact F_X12_readHouse_56_ok X hr hlk v0 v1 t12.2 _ h hK H locs ls O (lv_sub hl [0, 1] rfl)
    rw [if_neg hc48] at h
    refine lv_aload_n hx hb dX12_readHouse_51 rfl (lv_at hl 0 rfl) ?_
    refine lv_iconst (v := (3 : Int32)) hx hb dX12_readHouse_52 (by decide) ?_
    obtain ⟨_, hut13, h⟩ := Option.bind_eq_some_iff.mp h
    obtain ⟨t14, ht14, h⟩ := Option.bind_eq_some_iff.mp h
    refine xr_callV (rest := []) X O (T_X12_fails l κ v0 (3 : Int32) t12.2 _ ht14) lk_X12_141 hut13 (Nat.le_of_ble_eq_true rfl) rfl hl.1 rfl (Nat.le_of_ble_eq_true rfl) dX12_readHouse_53 ⟨Nat.le_of_ble_eq_true rfl, Nat.le_of_ble_eq_true rfl⟩ (fun H locs O => ?_)
    refine W.eq (g2 := F0 m 56 ls []) rfl ?_
    exact F_X12_readHouse_56_ok X hr hlk v0 v1 t14 _ h hK H locs ls O (lv_sub hl [0, 1] rfl)
  rw [if_neg hc23] at h
  rw [← Option.some.inj h] at hK
  have hK : M = mo := hK
  rw [hK] at O
  exact xr_vret X hr hlk O dX12_readHouse_26
set_option maxRecDepth 100000 in
set_option maxHeartbeats 4000000 in
theorem T_X12_readHouse (l : Launch) (κ : xQ) (a0 : Nat) (M : xM) (mo : xM) (h : F_X12_readHouse a0 M = some mo) : xC l yX12_readHouse cX12_readHouse 2 none 10 0 0 κ [.ref (κ.1 + a0)] M none mo := by
  refine xC_of rfl (Nat.le_of_ble_eq_true rfl) fun p e s m args below meth c X hr hlk hnm H locs ls O hl => ?_
  have X : xX p s m args c cX12_readHouse 2 RX12 κ := X
  have hl : lv_has ls 2 [(0, .ref (κ.1 + a0))] := hl
  have hx := X.1
  have hb := X.2.1
  obtain ⟨x, hx0⟩ : ∃ x, mo = x := ⟨_, rfl⟩
  rw [hx0] at h
  have hK : x = mo := hx0.symm
  unfold F_X12_readHouse at h
  refine lv_aload_n hx hb dX12_readHouse_0 rfl (lv_at hl 0 rfl) ?_
  obtain ⟨t1, ht1, h⟩ := Option.bind_eq_some_iff.mp h
  refine xr_getP X O ht1 fl_X12_24 dX12_readHouse_1 ?_
  refine lv_bipush (v := (92 : Int32)) hx hb dX12_readHouse_4 (by decide) ?_
  obtain ⟨t2, ht2, h⟩ := Option.bind_eq_some_iff.mp h
  refine xr_aldI X O ht2 dX12_readHouse_6 ?_
  refine lv_istore_n (lv' := [(1, .int t2), (0, .ref (κ.1 + a0))]) hx hb dX12_readHouse_7 rfl hl (by decide) rfl (fun ls hl => ?_)
  refine lv_iload_n hx hb dX12_readHouse_8 rfl (lv_at hl 0 rfl) ?_
  refine lv_bipush (v := (6 : Int32)) hx hb dX12_readHouse_9 (by decide) ?_
  refine lv_icmp_ne (tgt := 19) hx hb dX12_readHouse_11 (by decide) (fun hc11 => ?_) (fun hc11 => ?_)
  · rw [if_neg hc11] at h
    exact F_X12_readHouse_19_ok X hr hlk a0 t2 M _ h hK H locs ls O (lv_sub hl [1, 0] rfl)
  rw [if_pos hc11] at h
  refine lv_aload_n hx hb dX12_readHouse_14 rfl (lv_at hl 1 rfl) ?_
  refine lv_iconst (v := (4 : Int32)) hx hb dX12_readHouse_15 (by decide) ?_
  obtain ⟨_, hut3, h⟩ := Option.bind_eq_some_iff.mp h
  obtain ⟨t4, ht4, h⟩ := Option.bind_eq_some_iff.mp h
  refine xr_callV (rest := []) X O (T_X12_fails l κ a0 (4 : Int32) M _ ht4) lk_X12_141 hut3 (Nat.le_of_ble_eq_true rfl) rfl hl.1 rfl (Nat.le_of_ble_eq_true rfl) dX12_readHouse_16 ⟨Nat.le_of_ble_eq_true rfl, Nat.le_of_ble_eq_true rfl⟩ (fun H locs O => ?_)
  refine W.eq (g2 := F0 m 19 ls []) rfl ?_
  exact F_X12_readHouse_19_ok X hr hlk a0 t2 t4 _ h hK H locs ls O (lv_sub hl [1, 0] rfl)
def F_X12_readPlot_28 (v0 : Nat) (v1 : Int32) (M : xM) : Option (xM) :=
(xgI M v0 12 11).bind fun t8 =>
if t8 = 0 then (
(xck M v0 12).bind fun _ =>
(F_X12_next v0 M).bind fun t10 =>
(xgP t10 v0 12 4).bind fun t11 =>
(xck t10 v0 12).bind fun _ =>
(F_X12_takesCell v0 t10).bind fun t13 =>
(xsI t13.2 t11 v1 t13.1).bind fun t14 =>
(xgP t14 v0 12 4).bind fun t15 =>
(xck t14 v0 12).bind fun _ =>
(F_X12_named v0 (7 : Int32) (1 : Int32) (9 : Int32) t14).bind fun t17 =>
(xsI t17.2 t15 (v1 + (1 : Int32)) t17.1).bind fun t18 =>
(xgP t18 v0 12 4).bind fun t19 =>
(xck t18 v0 12).bind fun _ =>
(F_X12_named v0 (8 : Int32) (0 : Int32) (9 : Int32) t18).bind fun t21 =>
(xsI t21.2 t19 (v1 + (2 : Int32)) t21.1).bind fun t22 =>
(xgI t22 v0 12 11).bind fun t23 =>
if t23 = 0 then (
(xgP t22 v0 12 4).bind fun t24 =>
(xaI t22 20 t24 (4 : Int32)).bind fun t25 =>
(xsI t22 t24 (4 : Int32) (t25 + (1 : Int32))).bind fun t26 =>
some t26)
else (
some t22))
else (
some M)
def F_X12_readPlot (a0 : Nat) (M : xM) : Option (xM) :=
(xgP M a0 12 4).bind fun t1 =>
(xaI M 20 t1 (4 : Int32)).bind fun t2 =>
(some (((13 : Int32) + ((3 : Int32) * t2)))).bind fun t3 =>
(xgP M a0 12 4).bind fun t4 =>
(xaI M 20 t4 (4 : Int32)).bind fun t5 =>
if t5 = (6 : Int32) then (
(xck M a0 12).bind fun _ =>
(F_X12_fails a0 (4 : Int32) M).bind fun t7 =>
F_X12_readPlot_28 a0 t3 t7)
else (
F_X12_readPlot_28 a0 t3 M)
set_option maxRecDepth 100000 in
set_option maxHeartbeats 4000000 in
theorem F_X12_readPlot_28_ok (X : xX p s m args c cX12_readPlot 2 RX12 κ) (hr : meth.sig.returnType = none) (hlk : meth.locks = false) {mo : xM} (v0 : Nat) (v1 : Int32) (M : xM) (x : xM) (h : F_X12_readPlot_28 v0 v1 M = some x) (hK : (fun o => o = mo) x) (H : Heap) (locs : List Loc) (ls : Array Slot) (O : xO κ s M H locs) (hl : lv_has ls 2 [(0, .ref (κ.1 + v0)), (1, .int v1)]) : W p l e (xRm 10 0 0) s m args below meth c H locs 0 0 (xQf below args s 0 0 κ none mo) (F0 m 28 ls []) := by
  unfold F_X12_readPlot_28 at h
  have hx := X.1
  have hb := X.2.1
  refine lv_aload_n hx hb dX12_readPlot_28 rfl (lv_at hl 0 rfl) ?_
  obtain ⟨t8, ht8, h⟩ := Option.bind_eq_some_iff.mp h
  refine xr_getI X O ht8 fl_X12_129 (Or.inl rfl) dX12_readPlot_29 ?_
  refine lv_if_eq (tgt := 36) hx hb dX12_readPlot_32 (by decide) (fun hc32 => ?_) (fun hc32 => ?_)
  · rw [if_pos hc32] at h
    refine lv_aload_n hx hb dX12_readPlot_36 rfl (lv_at hl 0 rfl) ?_
    obtain ⟨_, hut9, h⟩ := Option.bind_eq_some_iff.mp h
    obtain ⟨t10, ht10, h⟩ := Option.bind_eq_some_iff.mp h
    refine xr_callV (rest := []) X O (T_X12_next l κ v0 M _ ht10) lk_X12_138 hut9 (Nat.le_of_ble_eq_true rfl) rfl hl.1 rfl (Nat.le_of_ble_eq_true rfl) dX12_readPlot_37 ⟨Nat.le_of_ble_eq_true rfl, Nat.le_of_ble_eq_true rfl⟩ (fun H locs O => ?_)
    refine W.eq (g2 := F0 m 40 ls []) rfl ?_
    refine lv_aload_n hx hb dX12_readPlot_40 rfl (lv_at hl 0 rfl) ?_
    obtain ⟨t11, ht11, h⟩ := Option.bind_eq_some_iff.mp h
    refine xr_getP X O ht11 fl_X12_24 dX12_readPlot_41 ?_
    refine lv_iload_n hx hb dX12_readPlot_44 rfl (lv_at hl 1 rfl) ?_
    refine lv_aload_n hx hb dX12_readPlot_45 rfl (lv_at hl 0 rfl) ?_
    obtain ⟨_, hut12, h⟩ := Option.bind_eq_some_iff.mp h
    obtain ⟨t13, ht13, h⟩ := Option.bind_eq_some_iff.mp h
    refine xr_callV (rest := [.int v1, .ref (κ.1 + t11)]) X O (T_X12_takesCell l κ v0 t10 _ _ ht13) lk_X12_193 hut12 (Nat.le_of_ble_eq_true rfl) rfl hl.1 rfl (Nat.le_of_ble_eq_true rfl) dX12_readPlot_46 ⟨Nat.le_of_ble_eq_true rfl, Nat.le_of_ble_eq_true rfl⟩ (fun H locs O => ?_)
    refine W.eq (g2 := F0 m 49 ls [.int t13.1, .int v1, .ref (κ.1 + t11)]) rfl ?_
    obtain ⟨t14, ht14, h⟩ := Option.bind_eq_some_iff.mp h
    refine xr_stI X O ht14 dX12_readPlot_49 (fun H locs O => ?_)
    refine lv_aload_n hx hb dX12_readPlot_50 rfl (lv_at hl 0 rfl) ?_
    obtain ⟨t15, ht15, h⟩ := Option.bind_eq_some_iff.mp h
    refine xr_getP X O ht15 fl_X12_24 dX12_readPlot_51 ?_
    refine lv_iload_n hx hb dX12_readPlot_54 rfl (lv_at hl 1 rfl) ?_
    refine lv_iconst (v := (1 : Int32)) hx hb dX12_readPlot_55 (by decide) ?_
    refine lv_iadd hx hb dX12_readPlot_56 ?_
    refine lv_aload_n hx hb dX12_readPlot_57 rfl (lv_at hl 0 rfl) ?_
    refine lv_bipush (v := (7 : Int32)) hx hb dX12_readPlot_58 (by decide) ?_
    refine lv_iconst (v := (1 : Int32)) hx hb dX12_readPlot_60 (by decide) ?_
    refine lv_bipush (v := (9 : Int32)) hx hb dX12_readPlot_61 (by decide) ?_
    obtain ⟨_, hut16, h⟩ := Option.bind_eq_some_iff.mp h
    obtain ⟨t17, ht17, h⟩ := Option.bind_eq_some_iff.mp h
    refine xr_callV (rest := [.int (v1 + (1 : Int32)), .ref (κ.1 + t15)]) X O (T_X12_named l κ v0 (7 : Int32) (1 : Int32) (9 : Int32) t14 _ _ ht17) lk_X12_199 hut16 (Nat.le_of_ble_eq_true rfl) rfl hl.1 rfl (Nat.le_of_ble_eq_true rfl) dX12_readPlot_63 ⟨Nat.le_of_ble_eq_true rfl, Nat.le_of_ble_eq_true rfl⟩ (fun H locs O => ?_)
    refine W.eq (g2 := F0 m 66 ls [.int t17.1, .int (v1 + (1 : Int32)), .ref (κ.1 + t15)]) rfl ?_
    obtain ⟨t18, ht18, h⟩ := Option.bind_eq_some_iff.mp h
    refine xr_stI X O ht18 dX12_readPlot_66 (fun H locs O => ?_)
    refine lv_aload_n hx hb dX12_readPlot_67 rfl (lv_at hl 0 rfl) ?_
    obtain ⟨t19, ht19, h⟩ := Option.bind_eq_some_iff.mp h
    refine xr_getP X O ht19 fl_X12_24 dX12_readPlot_68 ?_
    refine lv_iload_n hx hb dX12_readPlot_71 rfl (lv_at hl 1 rfl) ?_
    refine lv_iconst (v := (2 : Int32)) hx hb dX12_readPlot_72 (by decide) ?_
    refine lv_iadd hx hb dX12_readPlot_73 ?_
    refine lv_aload_n hx hb dX12_readPlot_74 rfl (lv_at hl 0 rfl) ?_
    refine lv_bipush (v := (8 : Int32)) hx hb dX12_readPlot_75 (by decide) ?_
    refine lv_iconst (v := (0 : Int32)) hx hb dX12_readPlot_77 (by decide) ?_
    refine lv_bipush (v := (9 : Int32)) hx hb dX12_readPlot_78 (by decide) ?_
    obtain ⟨_, hut20, h⟩ := Option.bind_eq_some_iff.mp h
    obtain ⟨t21, ht21, h⟩ := Option.bind_eq_some_iff.mp h
    refine xr_callV (rest := [.int (v1 + (2 : Int32)), .ref (κ.1 + t19)]) X O (T_X12_named l κ v0 (8 : Int32) (0 : Int32) (9 : Int32) t18 _ _ ht21) lk_X12_199 hut20 (Nat.le_of_ble_eq_true rfl) rfl hl.1 rfl (Nat.le_of_ble_eq_true rfl) dX12_readPlot_80 ⟨Nat.le_of_ble_eq_true rfl, Nat.le_of_ble_eq_true rfl⟩ (fun H locs O => ?_)
    refine W.eq (g2 := F0 m 83 ls [.int t21.1, .int (v1 + (2 : Int32)), .ref (κ.1 + t19)]) rfl ?_
    obtain ⟨t22, ht22, h⟩ := Option.bind_eq_some_iff.mp h
    refine xr_stI X O ht22 dX12_readPlot_83 (fun H locs O => ?_)
    refine lv_aload_n hx hb dX12_readPlot_84 rfl (lv_at hl 0 rfl) ?_
    obtain ⟨t23, ht23, h⟩ := Option.bind_eq_some_iff.mp h
    refine xr_getI X O ht23 fl_X12_129 (Or.inl rfl) dX12_readPlot_85 ?_
    refine lv_if_ne (tgt := 101) hx hb dX12_readPlot_88 (by decide) (fun hc88 => ?_) (fun hc88 => ?_)
    · rw [if_neg hc88] at h
      rw [← Option.some.inj h] at hK
      have hK : t22 = mo := hK
      rw [hK] at O
      exact xr_vret X hr hlk O dX12_readPlot_101
    rw [if_pos hc88] at h
    refine lv_aload_n hx hb dX12_readPlot_91 rfl (lv_at hl 0 rfl) ?_
    obtain ⟨t24, ht24, h⟩ := Option.bind_eq_some_iff.mp h
    refine xr_getP X O ht24 fl_X12_24 dX12_readPlot_92 ?_
    refine lv_iconst (v := (4 : Int32)) hx hb dX12_readPlot_95 (by decide) ?_
    refine lv_dup2_11 hx hb dX12_readPlot_96 rfl rfl ?_
    obtain ⟨t25, ht25, h⟩ := Option.bind_eq_some_iff.mp h
    refine xr_aldI X O ht25 dX12_readPlot_97 ?_
    refine lv_iconst (v := (1 : Int32)) hx hb dX12_readPlot_98 (by decide) ?_
    refine lv_iadd hx hb dX12_readPlot_99 ?_
    obtain ⟨t26, ht26, h⟩ := Option.bind_eq_some_iff.mp h
    refine xr_stI X O ht26 dX12_readPlot_100 (fun H locs O => ?_)
    rw [← Option.some.inj h] at hK
    have hK : t26 = mo := hK
    rw [hK] at O
    exact xr_vret X hr hlk O dX12_readPlot_101
  rw [if_neg hc32] at h
  rw [← Option.some.inj h] at hK
  have hK : M = mo := hK
  rw [hK] at O
  exact xr_vret X hr hlk O dX12_readPlot_35
set_option maxRecDepth 100000 in
set_option maxHeartbeats 4000000 in
theorem T_X12_readPlot (l : Launch) (κ : xQ) (a0 : Nat) (M : xM) (mo : xM) (h : F_X12_readPlot a0 M = some mo) : xC l yX12_readPlot cX12_readPlot 2 none 10 0 0 κ [.ref (κ.1 + a0)] M none mo := by
  refine xC_of rfl (Nat.le_of_ble_eq_true rfl) fun p e s m args below meth c X hr hlk hnm H locs ls O hl => ?_
  have X : xX p s m args c cX12_readPlot 2 RX12 κ := X
  have hl : lv_has ls 2 [(0, .ref (κ.1 + a0))] := hl
  have hx := X.1
  have hb := X.2.1
  obtain ⟨x, hx0⟩ : ∃ x, mo = x := ⟨_, rfl⟩
  rw [hx0] at h
  have hK : x = mo := hx0.symm
  unfold F_X12_readPlot at h
  refine lv_bipush (v := (13 : Int32)) hx hb dX12_readPlot_0 (by decide) ?_
  refine lv_iconst (v := (3 : Int32)) hx hb dX12_readPlot_2 (by decide) ?_
  refine lv_aload_n hx hb dX12_readPlot_3 rfl (lv_at hl 0 rfl) ?_
  obtain ⟨t1, ht1, h⟩ := Option.bind_eq_some_iff.mp h
  refine xr_getP X O ht1 fl_X12_24 dX12_readPlot_4 ?_
  refine lv_iconst (v := (4 : Int32)) hx hb dX12_readPlot_7 (by decide) ?_
  obtain ⟨t2, ht2, h⟩ := Option.bind_eq_some_iff.mp h
  refine xr_aldI X O ht2 dX12_readPlot_8 ?_
  refine lv_imul hx hb dX12_readPlot_9 ?_
  refine lv_iadd hx hb dX12_readPlot_10 ?_
  obtain ⟨t3, ht3, h⟩ := Option.bind_eq_some_iff.mp h
  refine xr_top (w := .int t3) (by rw [Option.some.inj ht3]) ?_
  refine lv_istore_n (lv' := [(1, .int t3), (0, .ref (κ.1 + a0))]) hx hb dX12_readPlot_11 rfl hl (by decide) rfl (fun ls hl => ?_)
  refine lv_aload_n hx hb dX12_readPlot_12 rfl (lv_at hl 1 rfl) ?_
  obtain ⟨t4, ht4, h⟩ := Option.bind_eq_some_iff.mp h
  refine xr_getP X O ht4 fl_X12_24 dX12_readPlot_13 ?_
  refine lv_iconst (v := (4 : Int32)) hx hb dX12_readPlot_16 (by decide) ?_
  obtain ⟨t5, ht5, h⟩ := Option.bind_eq_some_iff.mp h
  refine xr_aldI X O ht5 dX12_readPlot_17 ?_
  refine lv_bipush (v := (6 : Int32)) hx hb dX12_readPlot_18 (by decide) ?_
  refine lv_icmp_ne (tgt := 28) hx hb dX12_readPlot_20 (by decide) (fun hc20 => ?_) (fun hc20 => ?_)
  · rw [if_neg hc20] at h
    exact F_X12_readPlot_28_ok X hr hlk a0 t3 M _ h hK H locs ls O (lv_sub hl [1, 0] rfl)
  rw [if_pos hc20] at h
  refine lv_aload_n hx hb dX12_readPlot_23 rfl (lv_at hl 1 rfl) ?_
  refine lv_iconst (v := (4 : Int32)) hx hb dX12_readPlot_24 (by decide) ?_
  obtain ⟨_, hut6, h⟩ := Option.bind_eq_some_iff.mp h
  obtain ⟨t7, ht7, h⟩ := Option.bind_eq_some_iff.mp h
  refine xr_callV (rest := []) X O (T_X12_fails l κ a0 (4 : Int32) M _ ht7) lk_X12_141 hut6 (Nat.le_of_ble_eq_true rfl) rfl hl.1 rfl (Nat.le_of_ble_eq_true rfl) dX12_readPlot_25 ⟨Nat.le_of_ble_eq_true rfl, Nat.le_of_ble_eq_true rfl⟩ (fun H locs O => ?_)
  refine W.eq (g2 := F0 m 28 ls []) rfl ?_
  exact F_X12_readPlot_28_ok X hr hlk a0 t3 t7 _ h hK H locs ls O (lv_sub hl [1, 0] rfl)
def F_X12_readPaper_28 (v0 : Nat) (v1 : Int32) (M : xM) : Option (xM) :=
(xgI M v0 12 11).bind fun t8 =>
if t8 = 0 then (
(xck M v0 12).bind fun _ =>
(F_X12_next v0 M).bind fun t10 =>
(xgP t10 v0 12 4).bind fun t11 =>
(xck t10 v0 12).bind fun _ =>
(F_X12_takesCell v0 t10).bind fun t13 =>
(xsI t13.2 t11 v1 t13.1).bind fun t14 =>
(xgP t14 v0 12 4).bind fun t15 =>
(xck t14 v0 12).bind fun _ =>
(F_X12_takesCell v0 t14).bind fun t17 =>
(xsI t17.2 t15 (v1 + (1 : Int32)) t17.1).bind fun t18 =>
(xgI t18 v0 12 11).bind fun t19 =>
if t19 = 0 then (
(xgP t18 v0 12 4).bind fun t20 =>
(xaI t18 20 t20 (5 : Int32)).bind fun t21 =>
(xsI t18 t20 (5 : Int32) (t21 + (1 : Int32))).bind fun t22 =>
some t22)
else (
some t18))
else (
some M)
def F_X12_readPaper (a0 : Nat) (M : xM) : Option (xM) :=
(xgP M a0 12 4).bind fun t1 =>
(xaI M 20 t1 (5 : Int32)).bind fun t2 =>
(some (((31 : Int32) + ((2 : Int32) * t2)))).bind fun t3 =>
(xgP M a0 12 4).bind fun t4 =>
(xaI M 20 t4 (5 : Int32)).bind fun t5 =>
if t5 = (6 : Int32) then (
(xck M a0 12).bind fun _ =>
(F_X12_fails a0 (4 : Int32) M).bind fun t7 =>
F_X12_readPaper_28 a0 t3 t7)
else (
F_X12_readPaper_28 a0 t3 M)
set_option maxRecDepth 100000 in
set_option maxHeartbeats 4000000 in
theorem F_X12_readPaper_28_ok (X : xX p s m args c cX12_readPaper 2 RX12 κ) (hr : meth.sig.returnType = none) (hlk : meth.locks = false) {mo : xM} (v0 : Nat) (v1 : Int32) (M : xM) (x : xM) (h : F_X12_readPaper_28 v0 v1 M = some x) (hK : (fun o => o = mo) x) (H : Heap) (locs : List Loc) (ls : Array Slot) (O : xO κ s M H locs) (hl : lv_has ls 2 [(0, .ref (κ.1 + v0)), (1, .int v1)]) : W p l e (xRm 10 0 0) s m args below meth c H locs 0 0 (xQf below args s 0 0 κ none mo) (F0 m 28 ls []) := by
  unfold F_X12_readPaper_28 at h
  have hx := X.1
  have hb := X.2.1
  refine lv_aload_n hx hb dX12_readPaper_28 rfl (lv_at hl 0 rfl) ?_
  obtain ⟨t8, ht8, h⟩ := Option.bind_eq_some_iff.mp h
  refine xr_getI X O ht8 fl_X12_129 (Or.inl rfl) dX12_readPaper_29 ?_
  refine lv_if_eq (tgt := 36) hx hb dX12_readPaper_32 (by decide) (fun hc32 => ?_) (fun hc32 => ?_)
  · rw [if_pos hc32] at h
    refine lv_aload_n hx hb dX12_readPaper_36 rfl (lv_at hl 0 rfl) ?_
    obtain ⟨_, hut9, h⟩ := Option.bind_eq_some_iff.mp h
    obtain ⟨t10, ht10, h⟩ := Option.bind_eq_some_iff.mp h
    refine xr_callV (rest := []) X O (T_X12_next l κ v0 M _ ht10) lk_X12_138 hut9 (Nat.le_of_ble_eq_true rfl) rfl hl.1 rfl (Nat.le_of_ble_eq_true rfl) dX12_readPaper_37 ⟨Nat.le_of_ble_eq_true rfl, Nat.le_of_ble_eq_true rfl⟩ (fun H locs O => ?_)
    refine W.eq (g2 := F0 m 40 ls []) rfl ?_
    refine lv_aload_n hx hb dX12_readPaper_40 rfl (lv_at hl 0 rfl) ?_
    obtain ⟨t11, ht11, h⟩ := Option.bind_eq_some_iff.mp h
    refine xr_getP X O ht11 fl_X12_24 dX12_readPaper_41 ?_
    refine lv_iload_n hx hb dX12_readPaper_44 rfl (lv_at hl 1 rfl) ?_
    refine lv_aload_n hx hb dX12_readPaper_45 rfl (lv_at hl 0 rfl) ?_
    obtain ⟨_, hut12, h⟩ := Option.bind_eq_some_iff.mp h
    obtain ⟨t13, ht13, h⟩ := Option.bind_eq_some_iff.mp h
    refine xr_callV (rest := [.int v1, .ref (κ.1 + t11)]) X O (T_X12_takesCell l κ v0 t10 _ _ ht13) lk_X12_193 hut12 (Nat.le_of_ble_eq_true rfl) rfl hl.1 rfl (Nat.le_of_ble_eq_true rfl) dX12_readPaper_46 ⟨Nat.le_of_ble_eq_true rfl, Nat.le_of_ble_eq_true rfl⟩ (fun H locs O => ?_)
    refine W.eq (g2 := F0 m 49 ls [.int t13.1, .int v1, .ref (κ.1 + t11)]) rfl ?_
    obtain ⟨t14, ht14, h⟩ := Option.bind_eq_some_iff.mp h
    refine xr_stI X O ht14 dX12_readPaper_49 (fun H locs O => ?_)
    refine lv_aload_n hx hb dX12_readPaper_50 rfl (lv_at hl 0 rfl) ?_
    obtain ⟨t15, ht15, h⟩ := Option.bind_eq_some_iff.mp h
    refine xr_getP X O ht15 fl_X12_24 dX12_readPaper_51 ?_
    refine lv_iload_n hx hb dX12_readPaper_54 rfl (lv_at hl 1 rfl) ?_
    refine lv_iconst (v := (1 : Int32)) hx hb dX12_readPaper_55 (by decide) ?_
    refine lv_iadd hx hb dX12_readPaper_56 ?_
    refine lv_aload_n hx hb dX12_readPaper_57 rfl (lv_at hl 0 rfl) ?_
    obtain ⟨_, hut16, h⟩ := Option.bind_eq_some_iff.mp h
    obtain ⟨t17, ht17, h⟩ := Option.bind_eq_some_iff.mp h
    refine xr_callV (rest := [.int (v1 + (1 : Int32)), .ref (κ.1 + t15)]) X O (T_X12_takesCell l κ v0 t14 _ _ ht17) lk_X12_193 hut16 (Nat.le_of_ble_eq_true rfl) rfl hl.1 rfl (Nat.le_of_ble_eq_true rfl) dX12_readPaper_58 ⟨Nat.le_of_ble_eq_true rfl, Nat.le_of_ble_eq_true rfl⟩ (fun H locs O => ?_)
    refine W.eq (g2 := F0 m 61 ls [.int t17.1, .int (v1 + (1 : Int32)), .ref (κ.1 + t15)]) rfl ?_
    obtain ⟨t18, ht18, h⟩ := Option.bind_eq_some_iff.mp h
    refine xr_stI X O ht18 dX12_readPaper_61 (fun H locs O => ?_)
    refine lv_aload_n hx hb dX12_readPaper_62 rfl (lv_at hl 0 rfl) ?_
    obtain ⟨t19, ht19, h⟩ := Option.bind_eq_some_iff.mp h
    refine xr_getI X O ht19 fl_X12_129 (Or.inl rfl) dX12_readPaper_63 ?_
    refine lv_if_ne (tgt := 79) hx hb dX12_readPaper_66 (by decide) (fun hc66 => ?_) (fun hc66 => ?_)
    · rw [if_neg hc66] at h
      rw [← Option.some.inj h] at hK
      have hK : t18 = mo := hK
      rw [hK] at O
      exact xr_vret X hr hlk O dX12_readPaper_79
    rw [if_pos hc66] at h
    refine lv_aload_n hx hb dX12_readPaper_69 rfl (lv_at hl 0 rfl) ?_
    obtain ⟨t20, ht20, h⟩ := Option.bind_eq_some_iff.mp h
    refine xr_getP X O ht20 fl_X12_24 dX12_readPaper_70 ?_
    refine lv_iconst (v := (5 : Int32)) hx hb dX12_readPaper_73 (by decide) ?_
    refine lv_dup2_11 hx hb dX12_readPaper_74 rfl rfl ?_
    obtain ⟨t21, ht21, h⟩ := Option.bind_eq_some_iff.mp h
    refine xr_aldI X O ht21 dX12_readPaper_75 ?_
    refine lv_iconst (v := (1 : Int32)) hx hb dX12_readPaper_76 (by decide) ?_
    refine lv_iadd hx hb dX12_readPaper_77 ?_
    obtain ⟨t22, ht22, h⟩ := Option.bind_eq_some_iff.mp h
    refine xr_stI X O ht22 dX12_readPaper_78 (fun H locs O => ?_)
    rw [← Option.some.inj h] at hK
    have hK : t22 = mo := hK
    rw [hK] at O
    exact xr_vret X hr hlk O dX12_readPaper_79
  rw [if_neg hc32] at h
  rw [← Option.some.inj h] at hK
  have hK : M = mo := hK
  rw [hK] at O
  exact xr_vret X hr hlk O dX12_readPaper_35
set_option maxRecDepth 100000 in
set_option maxHeartbeats 4000000 in
theorem T_X12_readPaper (l : Launch) (κ : xQ) (a0 : Nat) (M : xM) (mo : xM) (h : F_X12_readPaper a0 M = some mo) : xC l yX12_readPaper cX12_readPaper 2 none 10 0 0 κ [.ref (κ.1 + a0)] M none mo := by
  refine xC_of rfl (Nat.le_of_ble_eq_true rfl) fun p e s m args below meth c X hr hlk hnm H locs ls O hl => ?_
  have X : xX p s m args c cX12_readPaper 2 RX12 κ := X
  have hl : lv_has ls 2 [(0, .ref (κ.1 + a0))] := hl
  have hx := X.1
  have hb := X.2.1
  obtain ⟨x, hx0⟩ : ∃ x, mo = x := ⟨_, rfl⟩
  rw [hx0] at h
  have hK : x = mo := hx0.symm
  unfold F_X12_readPaper at h
  refine lv_bipush (v := (31 : Int32)) hx hb dX12_readPaper_0 (by decide) ?_
  refine lv_iconst (v := (2 : Int32)) hx hb dX12_readPaper_2 (by decide) ?_
  refine lv_aload_n hx hb dX12_readPaper_3 rfl (lv_at hl 0 rfl) ?_
  obtain ⟨t1, ht1, h⟩ := Option.bind_eq_some_iff.mp h
  refine xr_getP X O ht1 fl_X12_24 dX12_readPaper_4 ?_
  refine lv_iconst (v := (5 : Int32)) hx hb dX12_readPaper_7 (by decide) ?_
  obtain ⟨t2, ht2, h⟩ := Option.bind_eq_some_iff.mp h
  refine xr_aldI X O ht2 dX12_readPaper_8 ?_
  refine lv_imul hx hb dX12_readPaper_9 ?_
  refine lv_iadd hx hb dX12_readPaper_10 ?_
  obtain ⟨t3, ht3, h⟩ := Option.bind_eq_some_iff.mp h
  refine xr_top (w := .int t3) (by rw [Option.some.inj ht3]) ?_
  refine lv_istore_n (lv' := [(1, .int t3), (0, .ref (κ.1 + a0))]) hx hb dX12_readPaper_11 rfl hl (by decide) rfl (fun ls hl => ?_)
  refine lv_aload_n hx hb dX12_readPaper_12 rfl (lv_at hl 1 rfl) ?_
  obtain ⟨t4, ht4, h⟩ := Option.bind_eq_some_iff.mp h
  refine xr_getP X O ht4 fl_X12_24 dX12_readPaper_13 ?_
  refine lv_iconst (v := (5 : Int32)) hx hb dX12_readPaper_16 (by decide) ?_
  obtain ⟨t5, ht5, h⟩ := Option.bind_eq_some_iff.mp h
  refine xr_aldI X O ht5 dX12_readPaper_17 ?_
  refine lv_bipush (v := (6 : Int32)) hx hb dX12_readPaper_18 (by decide) ?_
  refine lv_icmp_ne (tgt := 28) hx hb dX12_readPaper_20 (by decide) (fun hc20 => ?_) (fun hc20 => ?_)
  · rw [if_neg hc20] at h
    exact F_X12_readPaper_28_ok X hr hlk a0 t3 M _ h hK H locs ls O (lv_sub hl [1, 0] rfl)
  rw [if_pos hc20] at h
  refine lv_aload_n hx hb dX12_readPaper_23 rfl (lv_at hl 1 rfl) ?_
  refine lv_iconst (v := (4 : Int32)) hx hb dX12_readPaper_24 (by decide) ?_
  obtain ⟨_, hut6, h⟩ := Option.bind_eq_some_iff.mp h
  obtain ⟨t7, ht7, h⟩ := Option.bind_eq_some_iff.mp h
  refine xr_callV (rest := []) X O (T_X12_fails l κ a0 (4 : Int32) M _ ht7) lk_X12_141 hut6 (Nat.le_of_ble_eq_true rfl) rfl hl.1 rfl (Nat.le_of_ble_eq_true rfl) dX12_readPaper_25 ⟨Nat.le_of_ble_eq_true rfl, Nat.le_of_ble_eq_true rfl⟩ (fun H locs O => ?_)
  refine W.eq (g2 := F0 m 28 ls []) rfl ?_
  exact F_X12_readPaper_28_ok X hr hlk a0 t3 t7 _ h hK H locs ls O (lv_sub hl [1, 0] rfl)
def F_X12_readOwes_81 (v0 : Nat) (v1 : Int32) (M : xM) : Option (xM) :=
(xgP M v0 12 4).bind fun t22 =>
(xck M v0 12).bind fun _ =>
(F_X12_takes v0 (0 : Int32) (4 : Int32) M).bind fun t24 =>
(xsI t24.2 t22 (v1 + (1 : Int32)) t24.1).bind fun t25 =>
(xgP t25 v0 12 4).bind fun t26 =>
(xck t25 v0 12).bind fun _ =>
(F_X12_takes v0 (0 : Int32) (99 : Int32) t25).bind fun t28 =>
(xsI t28.2 t26 (v1 + (2 : Int32)) t28.1).bind fun t29 =>
(xgI t29 v0 12 11).bind fun t30 =>
if t30 = 0 then (
(xgP t29 v0 12 4).bind fun t31 =>
(xaI t29 20 t31 (6 : Int32)).bind fun t32 =>
(xsI t29 t31 (6 : Int32) (t32 + (1 : Int32))).bind fun t33 =>
some t33)
else (
some t29)
def F_X12_readOwes_30 (v0 : Nat) (v1 : Int32) (M : xM) : Option (xM) :=
(xgI M v0 12 11).bind fun t8 =>
if t8 = 0 then (
(xck M v0 12).bind fun _ =>
(F_X12_next v0 M).bind fun t10 =>
(xgP t10 v0 12 4).bind fun t11 =>
(xck t10 v0 12).bind fun _ =>
(F_X12_takes v0 (0 : Int32) (4 : Int32) t10).bind fun t13 =>
(xsI t13.2 t11 v1 t13.1).bind fun t14 =>
(xck t14 v0 12).bind fun _ =>
(F_X12_is v0 (29 : Int32) t14).bind fun t16 =>
if t16.1 = 0 then (
F_X12_readOwes_81 v0 v1 t16.2)
else (
(xgI t16.2 v0 12 10).bind fun t17 =>
(xgP t16.2 v0 12 4).bind fun t18 =>
(xaI t16.2 20 t18 v1).bind fun t19 =>
if t17 = t19 then (
(xck t16.2 v0 12).bind fun _ =>
(F_X12_fails v0 (3 : Int32) t16.2).bind fun t21 =>
F_X12_readOwes_81 v0 v1 t21)
else (
F_X12_readOwes_81 v0 v1 t16.2)))
else (
some M)
def F_X12_readOwes (a0 : Nat) (M : xM) : Option (xM) :=
(xgP M a0 12 4).bind fun t1 =>
(xaI M 20 t1 (6 : Int32)).bind fun t2 =>
(some (((43 : Int32) + ((3 : Int32) * t2)))).bind fun t3 =>
(xgP M a0 12 4).bind fun t4 =>
(xaI M 20 t4 (6 : Int32)).bind fun t5 =>
if t5 = (8 : Int32) then (
(xck M a0 12).bind fun _ =>
(F_X12_fails a0 (4 : Int32) M).bind fun t7 =>
F_X12_readOwes_30 a0 t3 t7)
else (
F_X12_readOwes_30 a0 t3 M)
set_option maxRecDepth 100000 in
set_option maxHeartbeats 4000000 in
theorem F_X12_readOwes_81_ok (X : xX p s m args c cX12_readOwes 2 RX12 κ) (hr : meth.sig.returnType = none) (hlk : meth.locks = false) {mo : xM} (v0 : Nat) (v1 : Int32) (M : xM) (x : xM) (h : F_X12_readOwes_81 v0 v1 M = some x) (hK : (fun o => o = mo) x) (H : Heap) (locs : List Loc) (ls : Array Slot) (O : xO κ s M H locs) (hl : lv_has ls 2 [(0, .ref (κ.1 + v0)), (1, .int v1)]) : W p l e (xRm 9 0 0) s m args below meth c H locs 0 0 (xQf below args s 0 0 κ none mo) (F0 m 81 ls []) := by
  unfold F_X12_readOwes_81 at h
  have hx := X.1
  have hb := X.2.1
  refine lv_aload_n hx hb dX12_readOwes_81 rfl (lv_at hl 0 rfl) ?_
  obtain ⟨t22, ht22, h⟩ := Option.bind_eq_some_iff.mp h
  refine xr_getP X O ht22 fl_X12_24 dX12_readOwes_82 ?_
  refine lv_iload_n hx hb dX12_readOwes_85 rfl (lv_at hl 1 rfl) ?_
  refine lv_iconst (v := (1 : Int32)) hx hb dX12_readOwes_86 (by decide) ?_
  refine lv_iadd hx hb dX12_readOwes_87 ?_
  refine lv_aload_n hx hb dX12_readOwes_88 rfl (lv_at hl 0 rfl) ?_
  refine lv_iconst (v := (0 : Int32)) hx hb dX12_readOwes_89 (by decide) ?_
  refine lv_iconst (v := (4 : Int32)) hx hb dX12_readOwes_90 (by decide) ?_
  obtain ⟨_, hut23, h⟩ := Option.bind_eq_some_iff.mp h
  obtain ⟨t24, ht24, h⟩ := Option.bind_eq_some_iff.mp h
  refine xr_callV (rest := [.int (v1 + (1 : Int32)), .ref (κ.1 + t22)]) X O (T_X12_takes l κ v0 (0 : Int32) (4 : Int32) M _ _ ht24) lk_X12_185 hut23 (Nat.le_of_ble_eq_true rfl) rfl hl.1 rfl (Nat.le_of_ble_eq_true rfl) dX12_readOwes_91 ⟨Nat.le_of_ble_eq_true rfl, Nat.le_of_ble_eq_true rfl⟩ (fun H locs O => ?_)
  refine W.eq (g2 := F0 m 94 ls [.int t24.1, .int (v1 + (1 : Int32)), .ref (κ.1 + t22)]) rfl ?_
  obtain ⟨t25, ht25, h⟩ := Option.bind_eq_some_iff.mp h
  refine xr_stI X O ht25 dX12_readOwes_94 (fun H locs O => ?_)
  refine lv_aload_n hx hb dX12_readOwes_95 rfl (lv_at hl 0 rfl) ?_
  obtain ⟨t26, ht26, h⟩ := Option.bind_eq_some_iff.mp h
  refine xr_getP X O ht26 fl_X12_24 dX12_readOwes_96 ?_
  refine lv_iload_n hx hb dX12_readOwes_99 rfl (lv_at hl 1 rfl) ?_
  refine lv_iconst (v := (2 : Int32)) hx hb dX12_readOwes_100 (by decide) ?_
  refine lv_iadd hx hb dX12_readOwes_101 ?_
  refine lv_aload_n hx hb dX12_readOwes_102 rfl (lv_at hl 0 rfl) ?_
  refine lv_iconst (v := (0 : Int32)) hx hb dX12_readOwes_103 (by decide) ?_
  refine lv_bipush (v := (99 : Int32)) hx hb dX12_readOwes_104 (by decide) ?_
  obtain ⟨_, hut27, h⟩ := Option.bind_eq_some_iff.mp h
  obtain ⟨t28, ht28, h⟩ := Option.bind_eq_some_iff.mp h
  refine xr_callV (rest := [.int (v1 + (2 : Int32)), .ref (κ.1 + t26)]) X O (T_X12_takes l κ v0 (0 : Int32) (99 : Int32) t25 _ _ ht28) lk_X12_185 hut27 (Nat.le_of_ble_eq_true rfl) rfl hl.1 rfl (Nat.le_of_ble_eq_true rfl) dX12_readOwes_106 ⟨Nat.le_of_ble_eq_true rfl, Nat.le_of_ble_eq_true rfl⟩ (fun H locs O => ?_)
  refine W.eq (g2 := F0 m 109 ls [.int t28.1, .int (v1 + (2 : Int32)), .ref (κ.1 + t26)]) rfl ?_
  obtain ⟨t29, ht29, h⟩ := Option.bind_eq_some_iff.mp h
  refine xr_stI X O ht29 dX12_readOwes_109 (fun H locs O => ?_)
  refine lv_aload_n hx hb dX12_readOwes_110 rfl (lv_at hl 0 rfl) ?_
  obtain ⟨t30, ht30, h⟩ := Option.bind_eq_some_iff.mp h
  refine xr_getI X O ht30 fl_X12_129 (Or.inl rfl) dX12_readOwes_111 ?_
  refine lv_if_ne (tgt := 128) hx hb dX12_readOwes_114 (by decide) (fun hc114 => ?_) (fun hc114 => ?_)
  · rw [if_neg hc114] at h
    rw [← Option.some.inj h] at hK
    have hK : t29 = mo := hK
    rw [hK] at O
    exact xr_vret X hr hlk O dX12_readOwes_128
  rw [if_pos hc114] at h
  refine lv_aload_n hx hb dX12_readOwes_117 rfl (lv_at hl 0 rfl) ?_
  obtain ⟨t31, ht31, h⟩ := Option.bind_eq_some_iff.mp h
  refine xr_getP X O ht31 fl_X12_24 dX12_readOwes_118 ?_
  refine lv_bipush (v := (6 : Int32)) hx hb dX12_readOwes_121 (by decide) ?_
  refine lv_dup2_11 hx hb dX12_readOwes_123 rfl rfl ?_
  obtain ⟨t32, ht32, h⟩ := Option.bind_eq_some_iff.mp h
  refine xr_aldI X O ht32 dX12_readOwes_124 ?_
  refine lv_iconst (v := (1 : Int32)) hx hb dX12_readOwes_125 (by decide) ?_
  refine lv_iadd hx hb dX12_readOwes_126 ?_
  obtain ⟨t33, ht33, h⟩ := Option.bind_eq_some_iff.mp h
  refine xr_stI X O ht33 dX12_readOwes_127 (fun H locs O => ?_)
  rw [← Option.some.inj h] at hK
  have hK : t33 = mo := hK
  rw [hK] at O
  exact xr_vret X hr hlk O dX12_readOwes_128
set_option maxRecDepth 100000 in
set_option maxHeartbeats 4000000 in
theorem F_X12_readOwes_30_ok (X : xX p s m args c cX12_readOwes 2 RX12 κ) (hr : meth.sig.returnType = none) (hlk : meth.locks = false) {mo : xM} (v0 : Nat) (v1 : Int32) (M : xM) (x : xM) (h : F_X12_readOwes_30 v0 v1 M = some x) (hK : (fun o => o = mo) x) (H : Heap) (locs : List Loc) (ls : Array Slot) (O : xO κ s M H locs) (hl : lv_has ls 2 [(0, .ref (κ.1 + v0)), (1, .int v1)]) : W p l e (xRm 9 0 0) s m args below meth c H locs 0 0 (xQf below args s 0 0 κ none mo) (F0 m 30 ls []) := by
  unfold F_X12_readOwes_30 at h
  have hx := X.1
  have hb := X.2.1
  refine lv_aload_n hx hb dX12_readOwes_30 rfl (lv_at hl 0 rfl) ?_
  obtain ⟨t8, ht8, h⟩ := Option.bind_eq_some_iff.mp h
  refine xr_getI X O ht8 fl_X12_129 (Or.inl rfl) dX12_readOwes_31 ?_
  refine lv_if_eq (tgt := 38) hx hb dX12_readOwes_34 (by decide) (fun hc34 => ?_) (fun hc34 => ?_)
  · rw [if_pos hc34] at h
    refine lv_aload_n hx hb dX12_readOwes_38 rfl (lv_at hl 0 rfl) ?_
    obtain ⟨_, hut9, h⟩ := Option.bind_eq_some_iff.mp h
    obtain ⟨t10, ht10, h⟩ := Option.bind_eq_some_iff.mp h
    refine xr_callV (rest := []) X O (T_X12_next l κ v0 M _ ht10) lk_X12_138 hut9 (Nat.le_of_ble_eq_true rfl) rfl hl.1 rfl (Nat.le_of_ble_eq_true rfl) dX12_readOwes_39 ⟨Nat.le_of_ble_eq_true rfl, Nat.le_of_ble_eq_true rfl⟩ (fun H locs O => ?_)
    refine W.eq (g2 := F0 m 42 ls []) rfl ?_
    refine lv_aload_n hx hb dX12_readOwes_42 rfl (lv_at hl 0 rfl) ?_
    obtain ⟨t11, ht11, h⟩ := Option.bind_eq_some_iff.mp h
    refine xr_getP X O ht11 fl_X12_24 dX12_readOwes_43 ?_
    refine lv_iload_n hx hb dX12_readOwes_46 rfl (lv_at hl 1 rfl) ?_
    refine lv_aload_n hx hb dX12_readOwes_47 rfl (lv_at hl 0 rfl) ?_
    refine lv_iconst (v := (0 : Int32)) hx hb dX12_readOwes_48 (by decide) ?_
    refine lv_iconst (v := (4 : Int32)) hx hb dX12_readOwes_49 (by decide) ?_
    obtain ⟨_, hut12, h⟩ := Option.bind_eq_some_iff.mp h
    obtain ⟨t13, ht13, h⟩ := Option.bind_eq_some_iff.mp h
    refine xr_callV (rest := [.int v1, .ref (κ.1 + t11)]) X O (T_X12_takes l κ v0 (0 : Int32) (4 : Int32) t10 _ _ ht13) lk_X12_185 hut12 (Nat.le_of_ble_eq_true rfl) rfl hl.1 rfl (Nat.le_of_ble_eq_true rfl) dX12_readOwes_50 ⟨Nat.le_of_ble_eq_true rfl, Nat.le_of_ble_eq_true rfl⟩ (fun H locs O => ?_)
    refine W.eq (g2 := F0 m 53 ls [.int t13.1, .int v1, .ref (κ.1 + t11)]) rfl ?_
    obtain ⟨t14, ht14, h⟩ := Option.bind_eq_some_iff.mp h
    refine xr_stI X O ht14 dX12_readOwes_53 (fun H locs O => ?_)
    refine lv_aload_n hx hb dX12_readOwes_54 rfl (lv_at hl 0 rfl) ?_
    refine lv_bipush (v := (29 : Int32)) hx hb dX12_readOwes_55 (by decide) ?_
    obtain ⟨_, hut15, h⟩ := Option.bind_eq_some_iff.mp h
    obtain ⟨t16, ht16, h⟩ := Option.bind_eq_some_iff.mp h
    refine xr_callV (rest := []) X O (T_X12_is l κ v0 (29 : Int32) t14 _ _ ht16) lk_X12_135 hut15 (Nat.le_of_ble_eq_true rfl) rfl hl.1 rfl (Nat.le_of_ble_eq_true rfl) dX12_readOwes_57 ⟨Nat.le_of_ble_eq_true rfl, Nat.le_of_ble_eq_true rfl⟩ (fun H locs O => ?_)
    refine W.eq (g2 := F0 m 60 ls [.int t16.1]) rfl ?_
    refine lv_if_eq (tgt := 81) hx hb dX12_readOwes_60 (by decide) (fun hc60 => ?_) (fun hc60 => ?_)
    · rw [if_pos hc60] at h
      exact F_X12_readOwes_81_ok X hr hlk v0 v1 t16.2 _ h hK H locs ls O (lv_sub hl [0, 1] rfl)
    rw [if_neg hc60] at h
    refine lv_aload_n hx hb dX12_readOwes_63 rfl (lv_at hl 0 rfl) ?_
    obtain ⟨t17, ht17, h⟩ := Option.bind_eq_some_iff.mp h
    refine xr_getI X O ht17 fl_X12_124 (Or.inl rfl) dX12_readOwes_64 ?_
    refine lv_aload_n hx hb dX12_readOwes_67 rfl (lv_at hl 0 rfl) ?_
    obtain ⟨t18, ht18, h⟩ := Option.bind_eq_some_iff.mp h
    refine xr_getP X O ht18 fl_X12_24 dX12_readOwes_68 ?_
    refine lv_iload_n hx hb dX12_readOwes_71 rfl (lv_at hl 1 rfl) ?_
    obtain ⟨t19, ht19, h⟩ := Option.bind_eq_some_iff.mp h
    refine xr_aldI X O ht19 dX12_readOwes_72 ?_
    refine lv_icmp_ne (tgt := 81) hx hb dX12_readOwes_73 (by decide) (fun hc73 => ?_) (fun hc73 => ?_)
    · rw [if_neg hc73] at h
      exact F_X12_readOwes_81_ok X hr hlk v0 v1 t16.2 _ h hK H locs ls O (lv_sub hl [0, 1] rfl)
    rw [if_pos hc73] at h
    refine lv_aload_n hx hb dX12_readOwes_76 rfl (lv_at hl 0 rfl) ?_
    refine lv_iconst (v := (3 : Int32)) hx hb dX12_readOwes_77 (by decide) ?_
    obtain ⟨_, hut20, h⟩ := Option.bind_eq_some_iff.mp h
    obtain ⟨t21, ht21, h⟩ := Option.bind_eq_some_iff.mp h
    refine xr_callV (rest := []) X O (T_X12_fails l κ v0 (3 : Int32) t16.2 _ ht21) lk_X12_141 hut20 (Nat.le_of_ble_eq_true rfl) rfl hl.1 rfl (Nat.le_of_ble_eq_true rfl) dX12_readOwes_78 ⟨Nat.le_of_ble_eq_true rfl, Nat.le_of_ble_eq_true rfl⟩ (fun H locs O => ?_)
    refine W.eq (g2 := F0 m 81 ls []) rfl ?_
    exact F_X12_readOwes_81_ok X hr hlk v0 v1 t21 _ h hK H locs ls O (lv_sub hl [0, 1] rfl)
  rw [if_neg hc34] at h
  rw [← Option.some.inj h] at hK
  have hK : M = mo := hK
  rw [hK] at O
  exact xr_vret X hr hlk O dX12_readOwes_37
set_option maxRecDepth 100000 in
set_option maxHeartbeats 4000000 in
theorem T_X12_readOwes (l : Launch) (κ : xQ) (a0 : Nat) (M : xM) (mo : xM) (h : F_X12_readOwes a0 M = some mo) : xC l yX12_readOwes cX12_readOwes 2 none 9 0 0 κ [.ref (κ.1 + a0)] M none mo := by
  refine xC_of rfl (Nat.le_of_ble_eq_true rfl) fun p e s m args below meth c X hr hlk hnm H locs ls O hl => ?_
  have X : xX p s m args c cX12_readOwes 2 RX12 κ := X
  have hl : lv_has ls 2 [(0, .ref (κ.1 + a0))] := hl
  have hx := X.1
  have hb := X.2.1
  obtain ⟨x, hx0⟩ : ∃ x, mo = x := ⟨_, rfl⟩
  rw [hx0] at h
  have hK : x = mo := hx0.symm
  unfold F_X12_readOwes at h
  refine lv_bipush (v := (43 : Int32)) hx hb dX12_readOwes_0 (by decide) ?_
  refine lv_iconst (v := (3 : Int32)) hx hb dX12_readOwes_2 (by decide) ?_
  refine lv_aload_n hx hb dX12_readOwes_3 rfl (lv_at hl 0 rfl) ?_
  obtain ⟨t1, ht1, h⟩ := Option.bind_eq_some_iff.mp h
  refine xr_getP X O ht1 fl_X12_24 dX12_readOwes_4 ?_
  refine lv_bipush (v := (6 : Int32)) hx hb dX12_readOwes_7 (by decide) ?_
  obtain ⟨t2, ht2, h⟩ := Option.bind_eq_some_iff.mp h
  refine xr_aldI X O ht2 dX12_readOwes_9 ?_
  refine lv_imul hx hb dX12_readOwes_10 ?_
  refine lv_iadd hx hb dX12_readOwes_11 ?_
  obtain ⟨t3, ht3, h⟩ := Option.bind_eq_some_iff.mp h
  refine xr_top (w := .int t3) (by rw [Option.some.inj ht3]) ?_
  refine lv_istore_n (lv' := [(1, .int t3), (0, .ref (κ.1 + a0))]) hx hb dX12_readOwes_12 rfl hl (by decide) rfl (fun ls hl => ?_)
  refine lv_aload_n hx hb dX12_readOwes_13 rfl (lv_at hl 1 rfl) ?_
  obtain ⟨t4, ht4, h⟩ := Option.bind_eq_some_iff.mp h
  refine xr_getP X O ht4 fl_X12_24 dX12_readOwes_14 ?_
  refine lv_bipush (v := (6 : Int32)) hx hb dX12_readOwes_17 (by decide) ?_
  obtain ⟨t5, ht5, h⟩ := Option.bind_eq_some_iff.mp h
  refine xr_aldI X O ht5 dX12_readOwes_19 ?_
  refine lv_bipush (v := (8 : Int32)) hx hb dX12_readOwes_20 (by decide) ?_
  refine lv_icmp_ne (tgt := 30) hx hb dX12_readOwes_22 (by decide) (fun hc22 => ?_) (fun hc22 => ?_)
  · rw [if_neg hc22] at h
    exact F_X12_readOwes_30_ok X hr hlk a0 t3 M _ h hK H locs ls O (lv_sub hl [1, 0] rfl)
  rw [if_pos hc22] at h
  refine lv_aload_n hx hb dX12_readOwes_25 rfl (lv_at hl 1 rfl) ?_
  refine lv_iconst (v := (4 : Int32)) hx hb dX12_readOwes_26 (by decide) ?_
  obtain ⟨_, hut6, h⟩ := Option.bind_eq_some_iff.mp h
  obtain ⟨t7, ht7, h⟩ := Option.bind_eq_some_iff.mp h
  refine xr_callV (rest := []) X O (T_X12_fails l κ a0 (4 : Int32) M _ ht7) lk_X12_141 hut6 (Nat.le_of_ble_eq_true rfl) rfl hl.1 rfl (Nat.le_of_ble_eq_true rfl) dX12_readOwes_27 ⟨Nat.le_of_ble_eq_true rfl, Nat.le_of_ble_eq_true rfl⟩ (fun H locs O => ?_)
  refine W.eq (g2 := F0 m 30 ls []) rfl ?_
  exact F_X12_readOwes_30_ok X hr hlk a0 t3 t7 _ h hK H locs ls O (lv_sub hl [1, 0] rfl)
def F_X12_readLaw_18 (v0 : Nat) (v1 : Int32) (M : xM) : Option (xM) :=
(xgP M v0 12 4).bind fun t7 =>
(xaI M 20 t7 (519 : Int32)).bind fun t8 =>
(xpI M v0 12 15 v1).bind fun t9 =>
(xck t9 v0 12).bind fun _ =>
(Fx_X12_readSum v0 (0 : Int32) t9).bind fun t11 =>
(xgI t11 v0 12 11).bind fun t12 =>
if t12 = 0 then (
(xgP t11 v0 12 4).bind fun t13 =>
(xsI t11 t13 ((7 : Int32) + v1) (1 : Int32)).bind fun t14 =>
(xgP t14 v0 12 4).bind fun t15 =>
(xsI t14 t15 ((9 : Int32) + v1) t8).bind fun t16 =>
(xgP t16 v0 12 4).bind fun t17 =>
(xgP t16 v0 12 4).bind fun t18 =>
(xaI t16 20 t18 (519 : Int32)).bind fun t19 =>
(xsI t16 t17 ((11 : Int32) + v1) (t19 - t8)).bind fun t20 =>
some t20)
else (
some t11)
def F_X12_readLaw (a0 : Nat) (a1 : Int32) (M : xM) : Option (xM) :=
(xck M a0 12).bind fun _ =>
(F_X12_next a0 M).bind fun t2 =>
(xck t2 a0 12).bind fun _ =>
(F_X12_eats a0 (33 : Int32) t2).bind fun t4 =>
if t4.1 = 0 then (
(xck t4.2 a0 12).bind fun _ =>
(F_X12_fails a0 (2 : Int32) t4.2).bind fun t6 =>
F_X12_readLaw_18 a0 a1 t6)
else (
F_X12_readLaw_18 a0 a1 t4.2)
set_option maxRecDepth 100000 in
set_option maxHeartbeats 4000000 in
theorem F_X12_readLaw_18_ok (X : xX p s m args c cX12_readLaw 3 RX12 κ) (hr : meth.sig.returnType = none) (hlk : meth.locks = false) {mo : xM} (v0 : Nat) (v1 : Int32) (M : xM) (x : xM) (h : F_X12_readLaw_18 v0 v1 M = some x) (hK : (fun o => o = mo) x) (H : Heap) (locs : List Loc) (ls : Array Slot) (O : xO κ s M H locs) (hl : lv_has ls 3 [(0, .ref (κ.1 + v0)), (1, .int v1)]) : W p l e (xRm 69 0 0) s m args below meth c H locs 0 0 (xQf below args s 0 0 κ none mo) (F0 m 18 ls []) := by
  unfold F_X12_readLaw_18 at h
  have hx := X.1
  have hb := X.2.1
  refine lv_aload_n hx hb dX12_readLaw_18 rfl (lv_at hl 0 rfl) ?_
  obtain ⟨t7, ht7, h⟩ := Option.bind_eq_some_iff.mp h
  refine xr_getP X O ht7 fl_X12_24 dX12_readLaw_19 ?_
  refine lv_sipush (v := (519 : Int32)) hx hb dX12_readLaw_22 (by decide) ?_
  obtain ⟨t8, ht8, h⟩ := Option.bind_eq_some_iff.mp h
  refine xr_aldI X O ht8 dX12_readLaw_25 ?_
  refine lv_istore_n (lv' := [(2, .int t8), (0, .ref (κ.1 + v0)), (1, .int v1)]) hx hb dX12_readLaw_26 rfl hl (by decide) rfl (fun ls hl => ?_)
  refine lv_aload_n hx hb dX12_readLaw_27 rfl (lv_at hl 1 rfl) ?_
  refine lv_iload_n hx hb dX12_readLaw_28 rfl (lv_at hl 2 rfl) ?_
  obtain ⟨t9, ht9, h⟩ := Option.bind_eq_some_iff.mp h
  refine xr_putI X O ht9 fl_X12_149 dX12_readLaw_29 (fun H locs O => ?_)
  refine lv_aload_n hx hb dX12_readLaw_32 rfl (lv_at hl 1 rfl) ?_
  refine lv_iconst (v := (0 : Int32)) hx hb dX12_readLaw_33 (by decide) ?_
  obtain ⟨_, hut10, h⟩ := Option.bind_eq_some_iff.mp h
  obtain ⟨t11, ht11, h⟩ := Option.bind_eq_some_iff.mp h
  refine xr_callV (rest := []) X O (Tx_X12_readSum l κ v0 (0 : Int32) t9 _ ht11) lk_X12_161 hut10 (Nat.le_of_ble_eq_true rfl) rfl hl.1 rfl (Nat.le_of_ble_eq_true rfl) dX12_readLaw_34 ⟨Nat.le_of_ble_eq_true rfl, Nat.le_of_ble_eq_true rfl⟩ (fun H locs O => ?_)
  refine W.eq (g2 := F0 m 37 ls []) rfl ?_
  refine lv_aload_n hx hb dX12_readLaw_37 rfl (lv_at hl 1 rfl) ?_
  obtain ⟨t12, ht12, h⟩ := Option.bind_eq_some_iff.mp h
  refine xr_getI X O ht12 fl_X12_129 (Or.inl rfl) dX12_readLaw_38 ?_
  refine lv_if_eq (tgt := 45) hx hb dX12_readLaw_41 (by decide) (fun hc41 => ?_) (fun hc41 => ?_)
  · rw [if_pos hc41] at h
    refine lv_aload_n hx hb dX12_readLaw_45 rfl (lv_at hl 1 rfl) ?_
    obtain ⟨t13, ht13, h⟩ := Option.bind_eq_some_iff.mp h
    refine xr_getP X O ht13 fl_X12_24 dX12_readLaw_46 ?_
    refine lv_bipush (v := (7 : Int32)) hx hb dX12_readLaw_49 (by decide) ?_
    refine lv_iload_n hx hb dX12_readLaw_51 rfl (lv_at hl 2 rfl) ?_
    refine lv_iadd hx hb dX12_readLaw_52 ?_
    refine lv_iconst (v := (1 : Int32)) hx hb dX12_readLaw_53 (by decide) ?_
    obtain ⟨t14, ht14, h⟩ := Option.bind_eq_some_iff.mp h
    refine xr_stI X O ht14 dX12_readLaw_54 (fun H locs O => ?_)
    refine lv_aload_n hx hb dX12_readLaw_55 rfl (lv_at hl 1 rfl) ?_
    obtain ⟨t15, ht15, h⟩ := Option.bind_eq_some_iff.mp h
    refine xr_getP X O ht15 fl_X12_24 dX12_readLaw_56 ?_
    refine lv_bipush (v := (9 : Int32)) hx hb dX12_readLaw_59 (by decide) ?_
    refine lv_iload_n hx hb dX12_readLaw_61 rfl (lv_at hl 2 rfl) ?_
    refine lv_iadd hx hb dX12_readLaw_62 ?_
    refine lv_iload_n hx hb dX12_readLaw_63 rfl (lv_at hl 0 rfl) ?_
    obtain ⟨t16, ht16, h⟩ := Option.bind_eq_some_iff.mp h
    refine xr_stI X O ht16 dX12_readLaw_64 (fun H locs O => ?_)
    refine lv_aload_n hx hb dX12_readLaw_65 rfl (lv_at hl 1 rfl) ?_
    obtain ⟨t17, ht17, h⟩ := Option.bind_eq_some_iff.mp h
    refine xr_getP X O ht17 fl_X12_24 dX12_readLaw_66 ?_
    refine lv_bipush (v := (11 : Int32)) hx hb dX12_readLaw_69 (by decide) ?_
    refine lv_iload_n hx hb dX12_readLaw_71 rfl (lv_at hl 2 rfl) ?_
    refine lv_iadd hx hb dX12_readLaw_72 ?_
    refine lv_aload_n hx hb dX12_readLaw_73 rfl (lv_at hl 1 rfl) ?_
    obtain ⟨t18, ht18, h⟩ := Option.bind_eq_some_iff.mp h
    refine xr_getP X O ht18 fl_X12_24 dX12_readLaw_74 ?_
    refine lv_sipush (v := (519 : Int32)) hx hb dX12_readLaw_77 (by decide) ?_
    obtain ⟨t19, ht19, h⟩ := Option.bind_eq_some_iff.mp h
    refine xr_aldI X O ht19 dX12_readLaw_80 ?_
    refine lv_iload_n hx hb dX12_readLaw_81 rfl (lv_at hl 0 rfl) ?_
    refine lv_isub hx hb dX12_readLaw_82 ?_
    obtain ⟨t20, ht20, h⟩ := Option.bind_eq_some_iff.mp h
    refine xr_stI X O ht20 dX12_readLaw_83 (fun H locs O => ?_)
    rw [← Option.some.inj h] at hK
    have hK : t20 = mo := hK
    rw [hK] at O
    exact xr_vret X hr hlk O dX12_readLaw_84
  rw [if_neg hc41] at h
  rw [← Option.some.inj h] at hK
  have hK : t11 = mo := hK
  rw [hK] at O
  exact xr_vret X hr hlk O dX12_readLaw_44
set_option maxRecDepth 100000 in
set_option maxHeartbeats 4000000 in
theorem T_X12_readLaw (l : Launch) (κ : xQ) (a0 : Nat) (a1 : Int32) (M : xM) (mo : xM) (h : F_X12_readLaw a0 a1 M = some mo) : xC l yX12_readLaw cX12_readLaw 3 none 69 0 0 κ [.ref (κ.1 + a0), .int a1] M none mo := by
  refine xC_of rfl (Nat.le_of_ble_eq_true rfl) fun p e s m args below meth c X hr hlk hnm H locs ls O hl => ?_
  have X : xX p s m args c cX12_readLaw 3 RX12 κ := X
  have hl : lv_has ls 3 [(0, .ref (κ.1 + a0)), (1, .int a1)] := hl
  have hx := X.1
  have hb := X.2.1
  obtain ⟨x, hx0⟩ : ∃ x, mo = x := ⟨_, rfl⟩
  rw [hx0] at h
  have hK : x = mo := hx0.symm
  unfold F_X12_readLaw at h
  refine lv_aload_n hx hb dX12_readLaw_0 rfl (lv_at hl 0 rfl) ?_
  obtain ⟨_, hut1, h⟩ := Option.bind_eq_some_iff.mp h
  obtain ⟨t2, ht2, h⟩ := Option.bind_eq_some_iff.mp h
  refine xr_callV (rest := []) X O (T_X12_next l κ a0 M _ ht2) lk_X12_138 hut1 (Nat.le_of_ble_eq_true rfl) rfl hl.1 rfl (Nat.le_of_ble_eq_true rfl) dX12_readLaw_1 ⟨Nat.le_of_ble_eq_true rfl, Nat.le_of_ble_eq_true rfl⟩ (fun H locs O => ?_)
  refine W.eq (g2 := F0 m 4 ls []) rfl ?_
  refine lv_aload_n hx hb dX12_readLaw_4 rfl (lv_at hl 0 rfl) ?_
  refine lv_bipush (v := (33 : Int32)) hx hb dX12_readLaw_5 (by decide) ?_
  obtain ⟨_, hut3, h⟩ := Option.bind_eq_some_iff.mp h
  obtain ⟨t4, ht4, h⟩ := Option.bind_eq_some_iff.mp h
  refine xr_callV (rest := []) X O (T_X12_eats l κ a0 (33 : Int32) t2 _ _ ht4) lk_X12_164 hut3 (Nat.le_of_ble_eq_true rfl) rfl hl.1 rfl (Nat.le_of_ble_eq_true rfl) dX12_readLaw_7 ⟨Nat.le_of_ble_eq_true rfl, Nat.le_of_ble_eq_true rfl⟩ (fun H locs O => ?_)
  refine W.eq (g2 := F0 m 10 ls [.int t4.1]) rfl ?_
  refine lv_if_ne (tgt := 18) hx hb dX12_readLaw_10 (by decide) (fun hc10 => ?_) (fun hc10 => ?_)
  · rw [if_neg hc10] at h
    exact F_X12_readLaw_18_ok X hr hlk a0 a1 t4.2 _ h hK H locs ls O (lv_sub hl [0, 1] rfl)
  rw [if_pos hc10] at h
  refine lv_aload_n hx hb dX12_readLaw_13 rfl (lv_at hl 0 rfl) ?_
  refine lv_iconst (v := (2 : Int32)) hx hb dX12_readLaw_14 (by decide) ?_
  obtain ⟨_, hut5, h⟩ := Option.bind_eq_some_iff.mp h
  obtain ⟨t6, ht6, h⟩ := Option.bind_eq_some_iff.mp h
  refine xr_callV (rest := []) X O (T_X12_fails l κ a0 (2 : Int32) t4.2 _ ht6) lk_X12_141 hut5 (Nat.le_of_ble_eq_true rfl) rfl hl.1 rfl (Nat.le_of_ble_eq_true rfl) dX12_readLaw_15 ⟨Nat.le_of_ble_eq_true rfl, Nat.le_of_ble_eq_true rfl⟩ (fun H locs O => ?_)
  refine W.eq (g2 := F0 m 18 ls []) rfl ?_
  exact F_X12_readLaw_18_ok X hr hlk a0 a1 t6 _ h hK H locs ls O (lv_sub hl [0, 1] rfl)
def F_X12_readLine_155 (v0 : Nat) (M : xM) : Option (xM) :=
(xgI M v0 12 9).bind fun t40 =>
(xck M v0 12).bind fun _ =>
(F_X12_readLaw v0 (t40 - (13 : Int32)) M).bind fun t42 =>
some t42
def F_X12_readLine (a0 : Nat) (M : xM) : Option (xM) :=
(xgI M a0 12 11).bind fun t1 =>
if t1 = 0 then (
(xck M a0 12).bind fun _ =>
(F_X12_is a0 (3 : Int32) M).bind fun t3 =>
if t3.1 = 0 then (
(xck t3.2 a0 12).bind fun _ =>
(F_X12_is a0 (4 : Int32) t3.2).bind fun t5 =>
if t5.1 = 0 then (
(xck t5.2 a0 12).bind fun _ =>
(F_X12_is a0 (6 : Int32) t5.2).bind fun t7 =>
if t7.1 = 0 then (
(xck t7.2 a0 12).bind fun _ =>
(F_X12_is a0 (9 : Int32) t7.2).bind fun t9 =>
if t9.1 = 0 then (
(xck t9.2 a0 12).bind fun _ =>
(F_X12_is a0 (10 : Int32) t9.2).bind fun t11 =>
if t11.1 = 0 then (
(xck t11.2 a0 12).bind fun _ =>
(F_X12_eats a0 (11 : Int32) t11.2).bind fun t13 =>
if t13.1 = 0 then (
(xck t13.2 a0 12).bind fun _ =>
(F_X12_eats a0 (12 : Int32) t13.2).bind fun t15 =>
if t15.1 = 0 then (
(xck t15.2 a0 12).bind fun _ =>
(F_X12_is a0 (13 : Int32) t15.2).bind fun t17 =>
if t17.1 = 0 then (
(xck t17.2 a0 12).bind fun _ =>
(F_X12_is a0 (14 : Int32) t17.2).bind fun t19 =>
if t19.1 = 0 then (
(xck t19.2 a0 12).bind fun _ =>
(F_X12_fails a0 (2 : Int32) t19.2).bind fun t21 =>
some t21)
else (
F_X12_readLine_155 a0 t19.2))
else (
F_X12_readLine_155 a0 t17.2))
else (
(xgP t15.2 a0 12 4).bind fun t22 =>
(xck t15.2 a0 12).bind fun _ =>
(F_X12_takes a0 (0 : Int32) (10 : Int32) t15.2).bind fun t24 =>
(xsI t24.2 t22 (3 : Int32) t24.1).bind fun t25 =>
some t25))
else (
(xgP t13.2 a0 12 4).bind fun t26 =>
(xck t13.2 a0 12).bind fun _ =>
(F_X12_takes a0 (0 : Int32) (9 : Int32) t13.2).bind fun t28 =>
(xsI t28.2 t26 (106 : Int32) t28.1).bind fun t29 =>
some t29))
else (
(xck t11.2 a0 12).bind fun _ =>
(F_X12_readOwes a0 t11.2).bind fun t31 =>
some t31))
else (
(xck t9.2 a0 12).bind fun _ =>
(F_X12_readPaper a0 t9.2).bind fun t33 =>
some t33))
else (
(xck t7.2 a0 12).bind fun _ =>
(F_X12_readPlot a0 t7.2).bind fun t35 =>
some t35))
else (
(xck t5.2 a0 12).bind fun _ =>
(F_X12_readHouse a0 t5.2).bind fun t37 =>
some t37))
else (
(xck t3.2 a0 12).bind fun _ =>
(F_X12_readSand a0 t3.2).bind fun t39 =>
some t39))
else (
some M)
set_option maxRecDepth 100000 in
set_option maxHeartbeats 4000000 in
theorem F_X12_readLine_155_ok (X : xX p s m args c cX12_readLine 1 RX12 κ) (hr : meth.sig.returnType = none) (hlk : meth.locks = false) {mo : xM} (v0 : Nat) (M : xM) (x : xM) (h : F_X12_readLine_155 v0 M = some x) (hK : (fun o => o = mo) x) (H : Heap) (locs : List Loc) (ls : Array Slot) (O : xO κ s M H locs) (hl : lv_has ls 1 [(0, .ref (κ.1 + v0))]) : W p l e (xRm 70 0 0) s m args below meth c H locs 0 0 (xQf below args s 0 0 κ none mo) (F0 m 155 ls []) := by
  unfold F_X12_readLine_155 at h
  have hx := X.1
  have hb := X.2.1
  refine lv_aload_n hx hb dX12_readLine_155 rfl (lv_at hl 0 rfl) ?_
  refine lv_aload_n hx hb dX12_readLine_156 rfl (lv_at hl 0 rfl) ?_
  obtain ⟨t40, ht40, h⟩ := Option.bind_eq_some_iff.mp h
  refine xr_getI X O ht40 fl_X12_111 (Or.inl rfl) dX12_readLine_157 ?_
  refine lv_bipush (v := (13 : Int32)) hx hb dX12_readLine_160 (by decide) ?_
  refine lv_isub hx hb dX12_readLine_162 ?_
  obtain ⟨_, hut41, h⟩ := Option.bind_eq_some_iff.mp h
  obtain ⟨t42, ht42, h⟩ := Option.bind_eq_some_iff.mp h
  refine xr_callV (rest := []) X O (T_X12_readLaw l κ v0 (t40 - (13 : Int32)) M _ ht42) lk_X12_218 hut41 (Nat.le_of_ble_eq_true rfl) rfl hl.1 rfl (Nat.le_of_ble_eq_true rfl) dX12_readLine_163 ⟨Nat.le_of_ble_eq_true rfl, Nat.le_of_ble_eq_true rfl⟩ (fun H locs O => ?_)
  refine W.eq (g2 := F0 m 166 ls []) rfl ?_
  refine lv_goto (tgt := 174) hx hb dX12_readLine_166 (by decide) ?_
  rw [← Option.some.inj h] at hK
  have hK : t42 = mo := hK
  rw [hK] at O
  exact xr_vret X hr hlk O dX12_readLine_174
set_option maxRecDepth 100000 in
set_option maxHeartbeats 4000000 in
theorem T_X12_readLine (l : Launch) (κ : xQ) (a0 : Nat) (M : xM) (mo : xM) (h : F_X12_readLine a0 M = some mo) : xC l yX12_readLine cX12_readLine 1 none 70 0 0 κ [.ref (κ.1 + a0)] M none mo := by
  refine xC_of rfl (Nat.le_of_ble_eq_true rfl) fun p e s m args below meth c X hr hlk hnm H locs ls O hl => ?_
  have X : xX p s m args c cX12_readLine 1 RX12 κ := X
  have hl : lv_has ls 1 [(0, .ref (κ.1 + a0))] := hl
  have hx := X.1
  have hb := X.2.1
  obtain ⟨x, hx0⟩ : ∃ x, mo = x := ⟨_, rfl⟩
  rw [hx0] at h
  have hK : x = mo := hx0.symm
  unfold F_X12_readLine at h
  refine lv_aload_n hx hb dX12_readLine_0 rfl (lv_at hl 0 rfl) ?_
  obtain ⟨t1, ht1, h⟩ := Option.bind_eq_some_iff.mp h
  refine xr_getI X O ht1 fl_X12_129 (Or.inl rfl) dX12_readLine_1 ?_
  refine lv_if_eq (tgt := 8) hx hb dX12_readLine_4 (by decide) (fun hc4 => ?_) (fun hc4 => ?_)
  · rw [if_pos hc4] at h
    refine lv_aload_n hx hb dX12_readLine_8 rfl (lv_at hl 0 rfl) ?_
    refine lv_iconst (v := (3 : Int32)) hx hb dX12_readLine_9 (by decide) ?_
    obtain ⟨_, hut2, h⟩ := Option.bind_eq_some_iff.mp h
    obtain ⟨t3, ht3, h⟩ := Option.bind_eq_some_iff.mp h
    refine xr_callV (rest := []) X O (T_X12_is l κ a0 (3 : Int32) M _ _ ht3) lk_X12_135 hut2 (Nat.le_of_ble_eq_true rfl) rfl hl.1 rfl (Nat.le_of_ble_eq_true rfl) dX12_readLine_10 ⟨Nat.le_of_ble_eq_true rfl, Nat.le_of_ble_eq_true rfl⟩ (fun H locs O => ?_)
    refine W.eq (g2 := F0 m 13 ls [.int t3.1]) rfl ?_
    refine lv_if_eq (tgt := 23) hx hb dX12_readLine_13 (by decide) (fun hc13 => ?_) (fun hc13 => ?_)
    · rw [if_pos hc13] at h
      refine lv_aload_n hx hb dX12_readLine_23 rfl (lv_at hl 0 rfl) ?_
      refine lv_iconst (v := (4 : Int32)) hx hb dX12_readLine_24 (by decide) ?_
      obtain ⟨_, hut4, h⟩ := Option.bind_eq_some_iff.mp h
      obtain ⟨t5, ht5, h⟩ := Option.bind_eq_some_iff.mp h
      refine xr_callV (rest := []) X O (T_X12_is l κ a0 (4 : Int32) t3.2 _ _ ht5) lk_X12_135 hut4 (Nat.le_of_ble_eq_true rfl) rfl hl.1 rfl (Nat.le_of_ble_eq_true rfl) dX12_readLine_25 ⟨Nat.le_of_ble_eq_true rfl, Nat.le_of_ble_eq_true rfl⟩ (fun H locs O => ?_)
      refine W.eq (g2 := F0 m 28 ls [.int t5.1]) rfl ?_
      refine lv_if_eq (tgt := 38) hx hb dX12_readLine_28 (by decide) (fun hc28 => ?_) (fun hc28 => ?_)
      · rw [if_pos hc28] at h
        refine lv_aload_n hx hb dX12_readLine_38 rfl (lv_at hl 0 rfl) ?_
        refine lv_bipush (v := (6 : Int32)) hx hb dX12_readLine_39 (by decide) ?_
        obtain ⟨_, hut6, h⟩ := Option.bind_eq_some_iff.mp h
        obtain ⟨t7, ht7, h⟩ := Option.bind_eq_some_iff.mp h
        refine xr_callV (rest := []) X O (T_X12_is l κ a0 (6 : Int32) t5.2 _ _ ht7) lk_X12_135 hut6 (Nat.le_of_ble_eq_true rfl) rfl hl.1 rfl (Nat.le_of_ble_eq_true rfl) dX12_readLine_41 ⟨Nat.le_of_ble_eq_true rfl, Nat.le_of_ble_eq_true rfl⟩ (fun H locs O => ?_)
        refine W.eq (g2 := F0 m 44 ls [.int t7.1]) rfl ?_
        refine lv_if_eq (tgt := 54) hx hb dX12_readLine_44 (by decide) (fun hc44 => ?_) (fun hc44 => ?_)
        · rw [if_pos hc44] at h
          refine lv_aload_n hx hb dX12_readLine_54 rfl (lv_at hl 0 rfl) ?_
          refine lv_bipush (v := (9 : Int32)) hx hb dX12_readLine_55 (by decide) ?_
          obtain ⟨_, hut8, h⟩ := Option.bind_eq_some_iff.mp h
          obtain ⟨t9, ht9, h⟩ := Option.bind_eq_some_iff.mp h
          refine xr_callV (rest := []) X O (T_X12_is l κ a0 (9 : Int32) t7.2 _ _ ht9) lk_X12_135 hut8 (Nat.le_of_ble_eq_true rfl) rfl hl.1 rfl (Nat.le_of_ble_eq_true rfl) dX12_readLine_57 ⟨Nat.le_of_ble_eq_true rfl, Nat.le_of_ble_eq_true rfl⟩ (fun H locs O => ?_)
          refine W.eq (g2 := F0 m 60 ls [.int t9.1]) rfl ?_
          refine lv_if_eq (tgt := 70) hx hb dX12_readLine_60 (by decide) (fun hc60 => ?_) (fun hc60 => ?_)
          · rw [if_pos hc60] at h
            refine lv_aload_n hx hb dX12_readLine_70 rfl (lv_at hl 0 rfl) ?_
            refine lv_bipush (v := (10 : Int32)) hx hb dX12_readLine_71 (by decide) ?_
            obtain ⟨_, hut10, h⟩ := Option.bind_eq_some_iff.mp h
            obtain ⟨t11, ht11, h⟩ := Option.bind_eq_some_iff.mp h
            refine xr_callV (rest := []) X O (T_X12_is l κ a0 (10 : Int32) t9.2 _ _ ht11) lk_X12_135 hut10 (Nat.le_of_ble_eq_true rfl) rfl hl.1 rfl (Nat.le_of_ble_eq_true rfl) dX12_readLine_73 ⟨Nat.le_of_ble_eq_true rfl, Nat.le_of_ble_eq_true rfl⟩ (fun H locs O => ?_)
            refine W.eq (g2 := F0 m 76 ls [.int t11.1]) rfl ?_
            refine lv_if_eq (tgt := 86) hx hb dX12_readLine_76 (by decide) (fun hc76 => ?_) (fun hc76 => ?_)
            · rw [if_pos hc76] at h
              refine lv_aload_n hx hb dX12_readLine_86 rfl (lv_at hl 0 rfl) ?_
              refine lv_bipush (v := (11 : Int32)) hx hb dX12_readLine_87 (by decide) ?_
              obtain ⟨_, hut12, h⟩ := Option.bind_eq_some_iff.mp h
              obtain ⟨t13, ht13, h⟩ := Option.bind_eq_some_iff.mp h
              refine xr_callV (rest := []) X O (T_X12_eats l κ a0 (11 : Int32) t11.2 _ _ ht13) lk_X12_164 hut12 (Nat.le_of_ble_eq_true rfl) rfl hl.1 rfl (Nat.le_of_ble_eq_true rfl) dX12_readLine_89 ⟨Nat.le_of_ble_eq_true rfl, Nat.le_of_ble_eq_true rfl⟩ (fun H locs O => ?_)
              refine W.eq (g2 := F0 m 92 ls [.int t13.1]) rfl ?_
              refine lv_if_eq (tgt := 112) hx hb dX12_readLine_92 (by decide) (fun hc92 => ?_) (fun hc92 => ?_)
              · rw [if_pos hc92] at h
                refine lv_aload_n hx hb dX12_readLine_112 rfl (lv_at hl 0 rfl) ?_
                refine lv_bipush (v := (12 : Int32)) hx hb dX12_readLine_113 (by decide) ?_
                obtain ⟨_, hut14, h⟩ := Option.bind_eq_some_iff.mp h
                obtain ⟨t15, ht15, h⟩ := Option.bind_eq_some_iff.mp h
                refine xr_callV (rest := []) X O (T_X12_eats l κ a0 (12 : Int32) t13.2 _ _ ht15) lk_X12_164 hut14 (Nat.le_of_ble_eq_true rfl) rfl hl.1 rfl (Nat.le_of_ble_eq_true rfl) dX12_readLine_115 ⟨Nat.le_of_ble_eq_true rfl, Nat.le_of_ble_eq_true rfl⟩ (fun H locs O => ?_)
                refine W.eq (g2 := F0 m 118 ls [.int t15.1]) rfl ?_
                refine lv_if_eq (tgt := 137) hx hb dX12_readLine_118 (by decide) (fun hc118 => ?_) (fun hc118 => ?_)
                · rw [if_pos hc118] at h
                  refine lv_aload_n hx hb dX12_readLine_137 rfl (lv_at hl 0 rfl) ?_
                  refine lv_bipush (v := (13 : Int32)) hx hb dX12_readLine_138 (by decide) ?_
                  obtain ⟨_, hut16, h⟩ := Option.bind_eq_some_iff.mp h
                  obtain ⟨t17, ht17, h⟩ := Option.bind_eq_some_iff.mp h
                  refine xr_callV (rest := []) X O (T_X12_is l κ a0 (13 : Int32) t15.2 _ _ ht17) lk_X12_135 hut16 (Nat.le_of_ble_eq_true rfl) rfl hl.1 rfl (Nat.le_of_ble_eq_true rfl) dX12_readLine_140 ⟨Nat.le_of_ble_eq_true rfl, Nat.le_of_ble_eq_true rfl⟩ (fun H locs O => ?_)
                  refine W.eq (g2 := F0 m 143 ls [.int t17.1]) rfl ?_
                  refine lv_if_ne (tgt := 155) hx hb dX12_readLine_143 (by decide) (fun hc143 => ?_) (fun hc143 => ?_)
                  · rw [if_neg hc143] at h
                    exact F_X12_readLine_155_ok X hr hlk a0 t17.2 _ h hK H locs ls O (lv_sub hl [0] rfl)
                  rw [if_pos hc143] at h
                  refine lv_aload_n hx hb dX12_readLine_146 rfl (lv_at hl 0 rfl) ?_
                  refine lv_bipush (v := (14 : Int32)) hx hb dX12_readLine_147 (by decide) ?_
                  obtain ⟨_, hut18, h⟩ := Option.bind_eq_some_iff.mp h
                  obtain ⟨t19, ht19, h⟩ := Option.bind_eq_some_iff.mp h
                  refine xr_callV (rest := []) X O (T_X12_is l κ a0 (14 : Int32) t17.2 _ _ ht19) lk_X12_135 hut18 (Nat.le_of_ble_eq_true rfl) rfl hl.1 rfl (Nat.le_of_ble_eq_true rfl) dX12_readLine_149 ⟨Nat.le_of_ble_eq_true rfl, Nat.le_of_ble_eq_true rfl⟩ (fun H locs O => ?_)
                  refine W.eq (g2 := F0 m 152 ls [.int t19.1]) rfl ?_
                  refine lv_if_eq (tgt := 169) hx hb dX12_readLine_152 (by decide) (fun hc152 => ?_) (fun hc152 => ?_)
                  · rw [if_pos hc152] at h
                    refine lv_aload_n hx hb dX12_readLine_169 rfl (lv_at hl 0 rfl) ?_
                    refine lv_iconst (v := (2 : Int32)) hx hb dX12_readLine_170 (by decide) ?_
                    obtain ⟨_, hut20, h⟩ := Option.bind_eq_some_iff.mp h
                    obtain ⟨t21, ht21, h⟩ := Option.bind_eq_some_iff.mp h
                    refine xr_callV (rest := []) X O (T_X12_fails l κ a0 (2 : Int32) t19.2 _ ht21) lk_X12_141 hut20 (Nat.le_of_ble_eq_true rfl) rfl hl.1 rfl (Nat.le_of_ble_eq_true rfl) dX12_readLine_171 ⟨Nat.le_of_ble_eq_true rfl, Nat.le_of_ble_eq_true rfl⟩ (fun H locs O => ?_)
                    refine W.eq (g2 := F0 m 174 ls []) rfl ?_
                    rw [← Option.some.inj h] at hK
                    have hK : t21 = mo := hK
                    rw [hK] at O
                    exact xr_vret X hr hlk O dX12_readLine_174
                  rw [if_neg hc152] at h
                  exact F_X12_readLine_155_ok X hr hlk a0 t19.2 _ h hK H locs ls O (lv_sub hl [0] rfl)
                rw [if_neg hc118] at h
                refine lv_aload_n hx hb dX12_readLine_121 rfl (lv_at hl 0 rfl) ?_
                obtain ⟨t22, ht22, h⟩ := Option.bind_eq_some_iff.mp h
                refine xr_getP X O ht22 fl_X12_24 dX12_readLine_122 ?_
                refine lv_iconst (v := (3 : Int32)) hx hb dX12_readLine_125 (by decide) ?_
                refine lv_aload_n hx hb dX12_readLine_126 rfl (lv_at hl 0 rfl) ?_
                refine lv_iconst (v := (0 : Int32)) hx hb dX12_readLine_127 (by decide) ?_
                refine lv_bipush (v := (10 : Int32)) hx hb dX12_readLine_128 (by decide) ?_
                obtain ⟨_, hut23, h⟩ := Option.bind_eq_some_iff.mp h
                obtain ⟨t24, ht24, h⟩ := Option.bind_eq_some_iff.mp h
                refine xr_callV (rest := [.int (3 : Int32), .ref (κ.1 + t22)]) X O (T_X12_takes l κ a0 (0 : Int32) (10 : Int32) t15.2 _ _ ht24) lk_X12_185 hut23 (Nat.le_of_ble_eq_true rfl) rfl hl.1 rfl (Nat.le_of_ble_eq_true rfl) dX12_readLine_130 ⟨Nat.le_of_ble_eq_true rfl, Nat.le_of_ble_eq_true rfl⟩ (fun H locs O => ?_)
                refine W.eq (g2 := F0 m 133 ls [.int t24.1, .int (3 : Int32), .ref (κ.1 + t22)]) rfl ?_
                obtain ⟨t25, ht25, h⟩ := Option.bind_eq_some_iff.mp h
                refine xr_stI X O ht25 dX12_readLine_133 (fun H locs O => ?_)
                refine lv_goto (tgt := 174) hx hb dX12_readLine_134 (by decide) ?_
                rw [← Option.some.inj h] at hK
                have hK : t25 = mo := hK
                rw [hK] at O
                exact xr_vret X hr hlk O dX12_readLine_174
              rw [if_neg hc92] at h
              refine lv_aload_n hx hb dX12_readLine_95 rfl (lv_at hl 0 rfl) ?_
              obtain ⟨t26, ht26, h⟩ := Option.bind_eq_some_iff.mp h
              refine xr_getP X O ht26 fl_X12_24 dX12_readLine_96 ?_
              refine lv_bipush (v := (106 : Int32)) hx hb dX12_readLine_99 (by decide) ?_
              refine lv_aload_n hx hb dX12_readLine_101 rfl (lv_at hl 0 rfl) ?_
              refine lv_iconst (v := (0 : Int32)) hx hb dX12_readLine_102 (by decide) ?_
              refine lv_bipush (v := (9 : Int32)) hx hb dX12_readLine_103 (by decide) ?_
              obtain ⟨_, hut27, h⟩ := Option.bind_eq_some_iff.mp h
              obtain ⟨t28, ht28, h⟩ := Option.bind_eq_some_iff.mp h
              refine xr_callV (rest := [.int (106 : Int32), .ref (κ.1 + t26)]) X O (T_X12_takes l κ a0 (0 : Int32) (9 : Int32) t13.2 _ _ ht28) lk_X12_185 hut27 (Nat.le_of_ble_eq_true rfl) rfl hl.1 rfl (Nat.le_of_ble_eq_true rfl) dX12_readLine_105 ⟨Nat.le_of_ble_eq_true rfl, Nat.le_of_ble_eq_true rfl⟩ (fun H locs O => ?_)
              refine W.eq (g2 := F0 m 108 ls [.int t28.1, .int (106 : Int32), .ref (κ.1 + t26)]) rfl ?_
              obtain ⟨t29, ht29, h⟩ := Option.bind_eq_some_iff.mp h
              refine xr_stI X O ht29 dX12_readLine_108 (fun H locs O => ?_)
              refine lv_goto (tgt := 174) hx hb dX12_readLine_109 (by decide) ?_
              rw [← Option.some.inj h] at hK
              have hK : t29 = mo := hK
              rw [hK] at O
              exact xr_vret X hr hlk O dX12_readLine_174
            rw [if_neg hc76] at h
            refine lv_aload_n hx hb dX12_readLine_79 rfl (lv_at hl 0 rfl) ?_
            obtain ⟨_, hut30, h⟩ := Option.bind_eq_some_iff.mp h
            obtain ⟨t31, ht31, h⟩ := Option.bind_eq_some_iff.mp h
            refine xr_callV (rest := []) X O (T_X12_readOwes l κ a0 t11.2 _ ht31) lk_X12_215 hut30 (Nat.le_of_ble_eq_true rfl) rfl hl.1 rfl (Nat.le_of_ble_eq_true rfl) dX12_readLine_80 ⟨Nat.le_of_ble_eq_true rfl, Nat.le_of_ble_eq_true rfl⟩ (fun H locs O => ?_)
            refine W.eq (g2 := F0 m 83 ls []) rfl ?_
            refine lv_goto (tgt := 174) hx hb dX12_readLine_83 (by decide) ?_
            rw [← Option.some.inj h] at hK
            have hK : t31 = mo := hK
            rw [hK] at O
            exact xr_vret X hr hlk O dX12_readLine_174
          rw [if_neg hc60] at h
          refine lv_aload_n hx hb dX12_readLine_63 rfl (lv_at hl 0 rfl) ?_
          obtain ⟨_, hut32, h⟩ := Option.bind_eq_some_iff.mp h
          obtain ⟨t33, ht33, h⟩ := Option.bind_eq_some_iff.mp h
          refine xr_callV (rest := []) X O (T_X12_readPaper l κ a0 t9.2 _ ht33) lk_X12_212 hut32 (Nat.le_of_ble_eq_true rfl) rfl hl.1 rfl (Nat.le_of_ble_eq_true rfl) dX12_readLine_64 ⟨Nat.le_of_ble_eq_true rfl, Nat.le_of_ble_eq_true rfl⟩ (fun H locs O => ?_)
          refine W.eq (g2 := F0 m 67 ls []) rfl ?_
          refine lv_goto (tgt := 174) hx hb dX12_readLine_67 (by decide) ?_
          rw [← Option.some.inj h] at hK
          have hK : t33 = mo := hK
          rw [hK] at O
          exact xr_vret X hr hlk O dX12_readLine_174
        rw [if_neg hc44] at h
        refine lv_aload_n hx hb dX12_readLine_47 rfl (lv_at hl 0 rfl) ?_
        obtain ⟨_, hut34, h⟩ := Option.bind_eq_some_iff.mp h
        obtain ⟨t35, ht35, h⟩ := Option.bind_eq_some_iff.mp h
        refine xr_callV (rest := []) X O (T_X12_readPlot l κ a0 t7.2 _ ht35) lk_X12_209 hut34 (Nat.le_of_ble_eq_true rfl) rfl hl.1 rfl (Nat.le_of_ble_eq_true rfl) dX12_readLine_48 ⟨Nat.le_of_ble_eq_true rfl, Nat.le_of_ble_eq_true rfl⟩ (fun H locs O => ?_)
        refine W.eq (g2 := F0 m 51 ls []) rfl ?_
        refine lv_goto (tgt := 174) hx hb dX12_readLine_51 (by decide) ?_
        rw [← Option.some.inj h] at hK
        have hK : t35 = mo := hK
        rw [hK] at O
        exact xr_vret X hr hlk O dX12_readLine_174
      rw [if_neg hc28] at h
      refine lv_aload_n hx hb dX12_readLine_31 rfl (lv_at hl 0 rfl) ?_
      obtain ⟨_, hut36, h⟩ := Option.bind_eq_some_iff.mp h
      obtain ⟨t37, ht37, h⟩ := Option.bind_eq_some_iff.mp h
      refine xr_callV (rest := []) X O (T_X12_readHouse l κ a0 t5.2 _ ht37) lk_X12_206 hut36 (Nat.le_of_ble_eq_true rfl) rfl hl.1 rfl (Nat.le_of_ble_eq_true rfl) dX12_readLine_32 ⟨Nat.le_of_ble_eq_true rfl, Nat.le_of_ble_eq_true rfl⟩ (fun H locs O => ?_)
      refine W.eq (g2 := F0 m 35 ls []) rfl ?_
      refine lv_goto (tgt := 174) hx hb dX12_readLine_35 (by decide) ?_
      rw [← Option.some.inj h] at hK
      have hK : t37 = mo := hK
      rw [hK] at O
      exact xr_vret X hr hlk O dX12_readLine_174
    rw [if_neg hc13] at h
    refine lv_aload_n hx hb dX12_readLine_16 rfl (lv_at hl 0 rfl) ?_
    obtain ⟨_, hut38, h⟩ := Option.bind_eq_some_iff.mp h
    obtain ⟨t39, ht39, h⟩ := Option.bind_eq_some_iff.mp h
    refine xr_callV (rest := []) X O (T_X12_readSand l κ a0 t3.2 _ ht39) lk_X12_203 hut38 (Nat.le_of_ble_eq_true rfl) rfl hl.1 rfl (Nat.le_of_ble_eq_true rfl) dX12_readLine_17 ⟨Nat.le_of_ble_eq_true rfl, Nat.le_of_ble_eq_true rfl⟩ (fun H locs O => ?_)
    refine W.eq (g2 := F0 m 20 ls []) rfl ?_
    refine lv_goto (tgt := 174) hx hb dX12_readLine_20 (by decide) ?_
    rw [← Option.some.inj h] at hK
    have hK : t39 = mo := hK
    rw [hK] at O
    exact xr_vret X hr hlk O dX12_readLine_174
  rw [if_neg hc4] at h
  rw [← Option.some.inj h] at hK
  have hK : M = mo := hK
  rw [hK] at O
  exact xr_vret X hr hlk O dX12_readLine_7
def F_X12_closes_14 (v0 : Nat) (M : xM) : Option (xM) :=
(xgP M v0 12 4).bind fun t5 =>
(xaI M 20 t5 (0 : Int32)).bind fun t6 =>
(xsI M t5 (0 : Int32) (t6 + (1 : Int32))).bind fun t7 =>
some t7
def F_X12_closes (a0 : Nat) (M : xM) : Option (xM) :=
(xck M a0 12).bind fun _ =>
(F_X12_eats a0 (32 : Int32) M).bind fun t2 =>
if t2.1 = 0 then (
(xck t2.2 a0 12).bind fun _ =>
(F_X12_fails a0 (2 : Int32) t2.2).bind fun t4 =>
F_X12_closes_14 a0 t4)
else (
F_X12_closes_14 a0 t2.2)
set_option maxRecDepth 100000 in
set_option maxHeartbeats 4000000 in
theorem F_X12_closes_14_ok (X : xX p s m args c cX12_closes 1 RX12 κ) (hr : meth.sig.returnType = none) (hlk : meth.locks = false) {mo : xM} (v0 : Nat) (M : xM) (x : xM) (h : F_X12_closes_14 v0 M = some x) (hK : (fun o => o = mo) x) (H : Heap) (locs : List Loc) (ls : Array Slot) (O : xO κ s M H locs) (hl : lv_has ls 1 [(0, .ref (κ.1 + v0))]) : W p l e (xRm 9 0 0) s m args below meth c H locs 0 0 (xQf below args s 0 0 κ none mo) (F0 m 14 ls []) := by
  unfold F_X12_closes_14 at h
  have hx := X.1
  have hb := X.2.1
  refine lv_aload_n hx hb dX12_closes_14 rfl (lv_at hl 0 rfl) ?_
  obtain ⟨t5, ht5, h⟩ := Option.bind_eq_some_iff.mp h
  refine xr_getP X O ht5 fl_X12_24 dX12_closes_15 ?_
  refine lv_iconst (v := (0 : Int32)) hx hb dX12_closes_18 (by decide) ?_
  refine lv_dup2_11 hx hb dX12_closes_19 rfl rfl ?_
  obtain ⟨t6, ht6, h⟩ := Option.bind_eq_some_iff.mp h
  refine xr_aldI X O ht6 dX12_closes_20 ?_
  refine lv_iconst (v := (1 : Int32)) hx hb dX12_closes_21 (by decide) ?_
  refine lv_iadd hx hb dX12_closes_22 ?_
  obtain ⟨t7, ht7, h⟩ := Option.bind_eq_some_iff.mp h
  refine xr_stI X O ht7 dX12_closes_23 (fun H locs O => ?_)
  rw [← Option.some.inj h] at hK
  have hK : t7 = mo := hK
  rw [hK] at O
  exact xr_vret X hr hlk O dX12_closes_24
set_option maxRecDepth 100000 in
set_option maxHeartbeats 4000000 in
theorem T_X12_closes (l : Launch) (κ : xQ) (a0 : Nat) (M : xM) (mo : xM) (h : F_X12_closes a0 M = some mo) : xC l yX12_closes cX12_closes 1 none 9 0 0 κ [.ref (κ.1 + a0)] M none mo := by
  refine xC_of rfl (Nat.le_of_ble_eq_true rfl) fun p e s m args below meth c X hr hlk hnm H locs ls O hl => ?_
  have X : xX p s m args c cX12_closes 1 RX12 κ := X
  have hl : lv_has ls 1 [(0, .ref (κ.1 + a0))] := hl
  have hx := X.1
  have hb := X.2.1
  obtain ⟨x, hx0⟩ : ∃ x, mo = x := ⟨_, rfl⟩
  rw [hx0] at h
  have hK : x = mo := hx0.symm
  unfold F_X12_closes at h
  refine lv_aload_n hx hb dX12_closes_0 rfl (lv_at hl 0 rfl) ?_
  refine lv_bipush (v := (32 : Int32)) hx hb dX12_closes_1 (by decide) ?_
  obtain ⟨_, hut1, h⟩ := Option.bind_eq_some_iff.mp h
  obtain ⟨t2, ht2, h⟩ := Option.bind_eq_some_iff.mp h
  refine xr_callV (rest := []) X O (T_X12_eats l κ a0 (32 : Int32) M _ _ ht2) lk_X12_164 hut1 (Nat.le_of_ble_eq_true rfl) rfl hl.1 rfl (Nat.le_of_ble_eq_true rfl) dX12_closes_3 ⟨Nat.le_of_ble_eq_true rfl, Nat.le_of_ble_eq_true rfl⟩ (fun H locs O => ?_)
  refine W.eq (g2 := F0 m 6 ls [.int t2.1]) rfl ?_
  refine lv_if_ne (tgt := 14) hx hb dX12_closes_6 (by decide) (fun hc6 => ?_) (fun hc6 => ?_)
  · rw [if_neg hc6] at h
    exact F_X12_closes_14_ok X hr hlk a0 t2.2 _ h hK H locs ls O (lv_sub hl [0] rfl)
  rw [if_pos hc6] at h
  refine lv_aload_n hx hb dX12_closes_9 rfl (lv_at hl 0 rfl) ?_
  refine lv_iconst (v := (2 : Int32)) hx hb dX12_closes_10 (by decide) ?_
  obtain ⟨_, hut3, h⟩ := Option.bind_eq_some_iff.mp h
  obtain ⟨t4, ht4, h⟩ := Option.bind_eq_some_iff.mp h
  refine xr_callV (rest := []) X O (T_X12_fails l κ a0 (2 : Int32) t2.2 _ ht4) lk_X12_141 hut3 (Nat.le_of_ble_eq_true rfl) rfl hl.1 rfl (Nat.le_of_ble_eq_true rfl) dX12_closes_11 ⟨Nat.le_of_ble_eq_true rfl, Nat.le_of_ble_eq_true rfl⟩ (fun H locs O => ?_)
  refine W.eq (g2 := F0 m 14 ls []) rfl ?_
  exact F_X12_closes_14_ok X hr hlk a0 t4 _ h hK H locs ls O (lv_sub hl [0] rfl)
def F_X12_shore_230 (v0 : Nat) (M : xM) : Option (Int32 × xM) :=
(xgP M v0 12 1).bind fun t48 =>
(xaI M 20 t48 (0 : Int32)).bind fun t49 =>
some (t49, M)
def F_X12_shore_205b (v0 : Nat) : (Int32 × xM) → Option ((Int32 × xM) ⊕ (Int32 × xM)) := fun ⟨v2, M⟩ =>
if (1420 : Int32) ≤ v2 then (
(F_X12_shore_230 v0 M).map Sum.inr)
else (
(xgP M v0 12 1).bind fun t44 =>
(xgP M v0 12 4).bind fun t45 =>
(xaI M 20 t45 v2).bind fun t46 =>
(xsI M t44 v2 t46).bind fun t47 =>
some (.inl ((v2 + 1), t47)))
def F_X12_shore_205 (v0 : Nat) (v2 : Int32) (M : xM) : Option (Int32 × xM) := xit (F_X12_shore_205b v0) xFU (v2, M)
def F_X12_shore_185 (v0 : Nat) (s0 : Int32) (s1 : Nat) (M : xM) : Option (Int32 × xM) :=
(xpI M s1 12 14 s0).bind fun t41 =>
(xgI t41 v0 12 11).bind fun t42 =>
if t42 = 0 then (
F_X12_shore_205 v0 (0 : Int32) t41)
else (
(xgI t41 v0 12 11).bind fun t43 =>
some (((-30 : Int32) - t43), t41))
def F_X12_shore_161 (v0 : Nat) (M : xM) : Option (Int32 × xM) :=
(xgI M v0 12 11).bind fun t37 =>
(xpI M v0 12 13 t37).bind fun t38 =>
(xgI t38 v0 12 11).bind fun t39 =>
if t39 = 0 then (
F_X12_shore_185 v0 (-1 : Int32) v0 t38)
else (
(xgI t38 v0 12 12).bind fun t40 =>
F_X12_shore_185 v0 t40 v0 t38)
def F_X12_shore_134b (v0 : Nat) : (xM) → Option ((xM) ⊕ (Int32 × xM)) := fun M =>
(xgI M v0 12 11).bind fun t31 =>
if t31 = 0 then (
(xgI M v0 12 9).bind fun t32 =>
if t32 = (30 : Int32) then (
(F_X12_shore_161 v0 M).map Sum.inr)
else (
(xck M v0 12).bind fun _ =>
(F_X12_readLine v0 M).bind fun t34 =>
(xck t34 v0 12).bind fun _ =>
(F_X12_closes v0 t34).bind fun t36 =>
some (.inl t36)))
else (
(F_X12_shore_161 v0 M).map Sum.inr)
def F_X12_shore_134 (v0 : Nat) (M : xM) : Option (Int32 × xM) := xit (F_X12_shore_134b v0) xFU M
def F_X12_shore_98b (v0 : Nat) : (Int32 × xM) → Option ((Int32 × xM) ⊕ (Int32 × xM)) := fun ⟨v2, M⟩ =>
if (25 : Int32) ≤ v2 then (
(F_X12_shore_134 v0 M).map Sum.inr)
else (
(xgI M v0 12 11).bind fun t26 =>
if t26 = 0 then (
(xgP M v0 12 4).bind fun t27 =>
(xgP M v0 12 4).bind fun t28 =>
(xaI M 20 t28 (2 : Int32)).bind fun t29 =>
if t29 = 0 then none else
(xsI M t27 ((67 : Int32) + v2) (v2 / t29)).bind fun t30 =>
some (.inl ((v2 + 1), t30)))
else (
(F_X12_shore_134 v0 M).map Sum.inr))
def F_X12_shore_98 (v0 : Nat) (v2 : Int32) (M : xM) : Option (Int32 × xM) := xit (F_X12_shore_98b v0) xFU (v2, M)
def F_X12_shore_66 (v0 : Nat) (M : xM) : Option (Int32 × xM) :=
(xgP M v0 12 4).bind fun t16 =>
(xck M v0 12).bind fun _ =>
(F_X12_named v0 (1 : Int32) (1 : Int32) (5 : Int32) M).bind fun t18 =>
(xsI t18.2 t16 (1 : Int32) t18.1).bind fun t19 =>
(xgP t19 v0 12 4).bind fun t20 =>
(xck t19 v0 12).bind fun _ =>
(F_X12_named v0 (2 : Int32) (1 : Int32) (5 : Int32) t19).bind fun t22 =>
(xsI t22.2 t20 (2 : Int32) t22.1).bind fun t23 =>
(xck t23 v0 12).bind fun _ =>
(F_X12_closes v0 t23).bind fun t25 =>
F_X12_shore_98 v0 (0 : Int32) t25
def F_X12_shore (a0 : Nat) (a1 : Int32) (M : xM) : Option (Int32 × xM) :=
(xpI M a0 12 0 (0 : Int32)).bind fun t1 =>
(xgI t1 a0 12 5).bind fun t2 =>
(F_X12_within a1.toInt64 (0 : Int64) t2.toInt64 t1).bind fun t3 =>
if t3.1 = 0 then (
some ((-3 : Int32), t3.2))
else (
(xpI t3.2 a0 12 8 a1).bind fun t4 =>
(xpI t4 a0 12 5 (0 : Int32)).bind fun t5 =>
(xpI t5 a0 12 7 (0 : Int32)).bind fun t6 =>
(xpI t6 a0 12 11 (0 : Int32)).bind fun t7 =>
(xgP t7 a0 12 4).bind fun t8 =>
(F_X12_plain t8 t7).bind fun t9 =>
(xck t9 a0 12).bind fun _ =>
(F_X12_next a0 t9).bind fun t11 =>
(xck t11 a0 12).bind fun _ =>
(F_X12_eats a0 (0 : Int32) t11).bind fun t13 =>
if t13.1 = 0 then (
(xck t13.2 a0 12).bind fun _ =>
(F_X12_fails a0 (2 : Int32) t13.2).bind fun t15 =>
F_X12_shore_66 a0 t15)
else (
F_X12_shore_66 a0 t13.2))
set_option maxRecDepth 100000 in
set_option maxHeartbeats 4000000 in
theorem F_X12_shore_230_ok (X : xX p s m args c cX12_shore 3 RX12 κ) (hr : meth.sig.returnType = (some .int)) (hlk : meth.locks = false) {ro : Int32} {mo : xM} (v0 : Nat) (M : xM) (x : Int32 × xM) (h : F_X12_shore_230 v0 M = some x) (hK : (fun o => o = (ro, mo)) x) (H : Heap) (locs : List Loc) (ls : Array Slot) (O : xO κ s M H locs) (hl : lv_has ls 3 [(0, .ref (κ.1 + v0))]) : W p l e (xRm 71 0 0) s m args below meth c H locs 0 0 (xQf below args s 0 0 κ (some (.int ro)) mo) (F0 m 230 ls []) := by
  unfold F_X12_shore_230 at h
  have hx := X.1
  have hb := X.2.1
  refine lv_aload_n hx hb dX12_shore_230 rfl (lv_at hl 0 rfl) ?_
  obtain ⟨t48, ht48, h⟩ := Option.bind_eq_some_iff.mp h
  refine xr_getP X O ht48 fl_X12_13 dX12_shore_231 ?_
  refine lv_iconst (v := (0 : Int32)) hx hb dX12_shore_234 (by decide) ?_
  obtain ⟨t49, ht49, h⟩ := Option.bind_eq_some_iff.mp h
  refine xr_aldI X O ht49 dX12_shore_235 ?_
  rw [← Option.some.inj h] at hK
  have hK : (t49, M) = (ro, mo) := hK
  obtain ⟨hK1, hK2⟩ := Prod.mk.inj hK
  rw [hK2] at O
  refine xr_top (w := .int ro) (by rw [hK1]) ?_
  exact xr_iret X hr hlk O dX12_shore_236
set_option maxRecDepth 100000 in
set_option maxHeartbeats 4000000 in
theorem F_X12_shore_205_bok (X : xX p s m args c cX12_shore 3 RX12 κ) (hr : meth.sig.returnType = (some .int)) (hlk : meth.locks = false) {ro : Int32} {mo : xM} (v0 : Nat) (v2 : Int32) {W205 : Int32 × xM → Prop} (hW205 : ∀ (v2 : Int32) (M : xM), W205 (v2, M) → ∀ (H : Heap) (locs : List Loc) (ls : Array Slot), xO κ s M H locs → lv_has ls 3 [(0, .ref (κ.1 + v0)), (2, .int v2)] → W p l e (xRm 71 0 0) s m args below meth c H locs 0 0 (xQf below args s 0 0 κ (some (.int ro)) mo) (F0 m 205 ls [])) (M : xM) (x : (Int32 × xM) ⊕ (Int32 × xM)) (h : F_X12_shore_205b v0 (v2, M) = some x) (hK : (xKl W205 (fun o => o = (ro, mo))) x) (H : Heap) (locs : List Loc) (ls : Array Slot) (O : xO κ s M H locs) (hl : lv_has ls 3 [(0, .ref (κ.1 + v0)), (2, .int v2)]) : W p l e (xRm 71 0 0) s m args below meth c H locs 0 0 (xQf below args s 0 0 κ (some (.int ro)) mo) (F0 m 205 ls []) := by
  unfold F_X12_shore_205b at h
  dsimp only at h
  have hx := X.1
  have hb := X.2.1
  refine lv_iload_n hx hb dX12_shore_205 rfl (lv_at hl 1 rfl) ?_
  refine lv_sipush (v := (1420 : Int32)) hx hb dX12_shore_206 (by decide) ?_
  refine lv_icmp_ge (tgt := 230) hx hb dX12_shore_209 (by decide) (fun hc209 => ?_) (fun hc209 => ?_)
  · rw [if_pos hc209] at h
    obtain ⟨_, hw0, ew0⟩ := Option.map_eq_some_iff.mp h
    rw [← ew0] at hK
    have h := hw0
    exact F_X12_shore_230_ok X hr hlk v0 M _ h hK H locs ls O (lv_sub hl [0] rfl)
  rw [if_neg hc209] at h
  refine lv_aload_n hx hb dX12_shore_212 rfl (lv_at hl 0 rfl) ?_
  obtain ⟨t44, ht44, h⟩ := Option.bind_eq_some_iff.mp h
  refine xr_getP X O ht44 fl_X12_13 dX12_shore_213 ?_
  refine lv_iload_n hx hb dX12_shore_216 rfl (lv_at hl 1 rfl) ?_
  refine lv_aload_n hx hb dX12_shore_217 rfl (lv_at hl 0 rfl) ?_
  obtain ⟨t45, ht45, h⟩ := Option.bind_eq_some_iff.mp h
  refine xr_getP X O ht45 fl_X12_24 dX12_shore_218 ?_
  refine lv_iload_n hx hb dX12_shore_221 rfl (lv_at hl 1 rfl) ?_
  obtain ⟨t46, ht46, h⟩ := Option.bind_eq_some_iff.mp h
  refine xr_aldI X O ht46 dX12_shore_222 ?_
  obtain ⟨t47, ht47, h⟩ := Option.bind_eq_some_iff.mp h
  refine xr_stI X O ht47 dX12_shore_223 (fun H locs O => ?_)
  refine lv_iinc (v := (v2 + 1)) (lv' := [(2, .int (v2 + 1)), (0, .ref (κ.1 + v0))]) hx hb dX12_shore_224 hl (k := 1) rfl rfl (by decide) rfl (fun ls hl => ?_)
  refine lv_goto (tgt := 205) hx hb dX12_shore_227 (by decide) ?_
  rw [← Option.some.inj h] at hK
  exact hW205 (v2 + 1) t47 hK H locs ls O (lv_sub hl [1, 0] rfl)
set_option maxRecDepth 100000 in
set_option maxHeartbeats 4000000 in
theorem F_X12_shore_205_ok (X : xX p s m args c cX12_shore 3 RX12 κ) (hr : meth.sig.returnType = (some .int)) (hlk : meth.locks = false) {ro : Int32} {mo : xM} (v0 : Nat) (v2 : Int32) (M : xM) (x : Int32 × xM) (h : F_X12_shore_205 v0 v2 M = some x) (hK : (fun o => o = (ro, mo)) x) (H : Heap) (locs : List Loc) (ls : Array Slot) (O : xO κ s M H locs) (hl : lv_has ls 3 [(0, .ref (κ.1 + v0)), (2, .int v2)]) : W p l e (xRm 71 0 0) s m args below meth c H locs 0 0 (xQf below args s 0 0 κ (some (.int ro)) mo) (F0 m 205 ls []) := by
  refine xit_K (Wh := fun x => ∀ (H : Heap) (locs : List Loc) (ls : Array Slot), xO κ s x.2 H locs → lv_has ls 3 [(0, .ref (κ.1 + v0)), (2, .int x.1)] → W p l e (xRm 71 0 0) s m args below meth c H locs 0 0 (xQf below args s 0 0 κ (some (.int ro)) mo) (F0 m 205 ls [])) (Kp := (fun o => o = (ro, mo))) ?_ xFU (v2, M) x h hK H locs ls O hl
  intro y x h hK H locs ls O hl
  exact F_X12_shore_205_bok X hr hlk v0 y.1 (fun _ _ hw => hw) y.2 x h hK H locs ls O hl
set_option maxRecDepth 100000 in
set_option maxHeartbeats 4000000 in
theorem F_X12_shore_185_ok (X : xX p s m args c cX12_shore 3 RX12 κ) (hr : meth.sig.returnType = (some .int)) (hlk : meth.locks = false) {ro : Int32} {mo : xM} (v0 : Nat) (s0 : Int32) (s1 : Nat) (M : xM) (x : Int32 × xM) (h : F_X12_shore_185 v0 s0 s1 M = some x) (hK : (fun o => o = (ro, mo)) x) (H : Heap) (locs : List Loc) (ls : Array Slot) (O : xO κ s M H locs) (hl : lv_has ls 3 [(0, .ref (κ.1 + v0))]) : W p l e (xRm 71 0 0) s m args below meth c H locs 0 0 (xQf below args s 0 0 κ (some (.int ro)) mo) (F0 m 185 ls [.int s0, .ref (κ.1 + s1)]) := by
  unfold F_X12_shore_185 at h
  have hx := X.1
  have hb := X.2.1
  obtain ⟨t41, ht41, h⟩ := Option.bind_eq_some_iff.mp h
  refine xr_putI X O ht41 fl_X12_27 dX12_shore_185 (fun H locs O => ?_)
  refine lv_aload_n hx hb dX12_shore_188 rfl (lv_at hl 0 rfl) ?_
  obtain ⟨t42, ht42, h⟩ := Option.bind_eq_some_iff.mp h
  refine xr_getI X O ht42 fl_X12_129 (Or.inl rfl) dX12_shore_189 ?_
  refine lv_if_eq (tgt := 203) hx hb dX12_shore_192 (by decide) (fun hc192 => ?_) (fun hc192 => ?_)
  · rw [if_pos hc192] at h
    refine lv_iconst (v := (0 : Int32)) hx hb dX12_shore_203 (by decide) ?_
    refine lv_istore_n (lv' := [(2, .int (0 : Int32)), (0, .ref (κ.1 + v0))]) hx hb dX12_shore_204 rfl hl (by decide) rfl (fun ls hl => ?_)
    exact F_X12_shore_205_ok X hr hlk v0 (0 : Int32) t41 _ h hK H locs ls O (lv_sub hl [1, 0] rfl)
  rw [if_neg hc192] at h
  refine lv_bipush (v := (-30 : Int32)) hx hb dX12_shore_195 (by decide) ?_
  refine lv_aload_n hx hb dX12_shore_197 rfl (lv_at hl 0 rfl) ?_
  obtain ⟨t43, ht43, h⟩ := Option.bind_eq_some_iff.mp h
  refine xr_getI X O ht43 fl_X12_129 (Or.inl rfl) dX12_shore_198 ?_
  refine lv_isub hx hb dX12_shore_201 ?_
  rw [← Option.some.inj h] at hK
  have hK : (((-30 : Int32) - t43), t41) = (ro, mo) := hK
  obtain ⟨hK1, hK2⟩ := Prod.mk.inj hK
  rw [hK2] at O
  refine xr_top (w := .int ro) (by rw [hK1]) ?_
  exact xr_iret X hr hlk O dX12_shore_202
set_option maxRecDepth 100000 in
set_option maxHeartbeats 4000000 in
theorem F_X12_shore_161_ok (X : xX p s m args c cX12_shore 3 RX12 κ) (hr : meth.sig.returnType = (some .int)) (hlk : meth.locks = false) {ro : Int32} {mo : xM} (v0 : Nat) (M : xM) (x : Int32 × xM) (h : F_X12_shore_161 v0 M = some x) (hK : (fun o => o = (ro, mo)) x) (H : Heap) (locs : List Loc) (ls : Array Slot) (O : xO κ s M H locs) (hl : lv_has ls 3 [(0, .ref (κ.1 + v0))]) : W p l e (xRm 71 0 0) s m args below meth c H locs 0 0 (xQf below args s 0 0 κ (some (.int ro)) mo) (F0 m 161 ls []) := by
  unfold F_X12_shore_161 at h
  have hx := X.1
  have hb := X.2.1
  refine lv_aload_n hx hb dX12_shore_161 rfl (lv_at hl 0 rfl) ?_
  refine lv_aload_n hx hb dX12_shore_162 rfl (lv_at hl 0 rfl) ?_
  obtain ⟨t37, ht37, h⟩ := Option.bind_eq_some_iff.mp h
  refine xr_getI X O ht37 fl_X12_129 (Or.inl rfl) dX12_shore_163 ?_
  obtain ⟨t38, ht38, h⟩ := Option.bind_eq_some_iff.mp h
  refine xr_putI X O ht38 fl_X12_227 dX12_shore_166 (fun H locs O => ?_)
  refine lv_aload_n hx hb dX12_shore_169 rfl (lv_at hl 0 rfl) ?_
  refine lv_aload_n hx hb dX12_shore_170 rfl (lv_at hl 0 rfl) ?_
  obtain ⟨t39, ht39, h⟩ := Option.bind_eq_some_iff.mp h
  refine xr_getI X O ht39 fl_X12_129 (Or.inl rfl) dX12_shore_171 ?_
  refine lv_if_ne (tgt := 181) hx hb dX12_shore_174 (by decide) (fun hc174 => ?_) (fun hc174 => ?_)
  · rw [if_neg hc174] at h
    refine lv_aload_n hx hb dX12_shore_181 rfl (lv_at hl 0 rfl) ?_
    obtain ⟨t40, ht40, h⟩ := Option.bind_eq_some_iff.mp h
    refine xr_getI X O ht40 fl_X12_132 (Or.inl rfl) dX12_shore_182 ?_
    exact F_X12_shore_185_ok X hr hlk v0 t40 v0 t38 _ h hK H locs ls O (lv_sub hl [0] rfl)
  rw [if_pos hc174] at h
  refine lv_iconst (v := (-1 : Int32)) hx hb dX12_shore_177 (by decide) ?_
  refine lv_goto (tgt := 185) hx hb dX12_shore_178 (by decide) ?_
  exact F_X12_shore_185_ok X hr hlk v0 (-1 : Int32) v0 t38 _ h hK H locs ls O (lv_sub hl [0] rfl)
set_option maxRecDepth 100000 in
set_option maxHeartbeats 4000000 in
theorem F_X12_shore_134_bok (X : xX p s m args c cX12_shore 3 RX12 κ) (hr : meth.sig.returnType = (some .int)) (hlk : meth.locks = false) {ro : Int32} {mo : xM} (v0 : Nat) {W134 : xM → Prop} (hW134 : ∀ (M : xM), W134 M → ∀ (H : Heap) (locs : List Loc) (ls : Array Slot), xO κ s M H locs → lv_has ls 3 [(0, .ref (κ.1 + v0))] → W p l e (xRm 71 0 0) s m args below meth c H locs 0 0 (xQf below args s 0 0 κ (some (.int ro)) mo) (F0 m 134 ls [])) (M : xM) (x : (xM) ⊕ (Int32 × xM)) (h : F_X12_shore_134b v0 M = some x) (hK : (xKl W134 (fun o => o = (ro, mo))) x) (H : Heap) (locs : List Loc) (ls : Array Slot) (O : xO κ s M H locs) (hl : lv_has ls 3 [(0, .ref (κ.1 + v0))]) : W p l e (xRm 71 0 0) s m args below meth c H locs 0 0 (xQf below args s 0 0 κ (some (.int ro)) mo) (F0 m 134 ls []) := by
  unfold F_X12_shore_134b at h
  have hx := X.1
  have hb := X.2.1
  refine lv_aload_n hx hb dX12_shore_134 rfl (lv_at hl 0 rfl) ?_
  obtain ⟨t31, ht31, h⟩ := Option.bind_eq_some_iff.mp h
  refine xr_getI X O ht31 fl_X12_129 (Or.inl rfl) dX12_shore_135 ?_
  refine lv_if_ne (tgt := 161) hx hb dX12_shore_138 (by decide) (fun hc138 => ?_) (fun hc138 => ?_)
  · rw [if_neg hc138] at h
    obtain ⟨_, hw0, ew0⟩ := Option.map_eq_some_iff.mp h
    rw [← ew0] at hK
    have h := hw0
    exact F_X12_shore_161_ok X hr hlk v0 M _ h hK H locs ls O (lv_sub hl [0] rfl)
  rw [if_pos hc138] at h
  refine lv_aload_n hx hb dX12_shore_141 rfl (lv_at hl 0 rfl) ?_
  obtain ⟨t32, ht32, h⟩ := Option.bind_eq_some_iff.mp h
  refine xr_getI X O ht32 fl_X12_111 (Or.inl rfl) dX12_shore_142 ?_
  refine lv_bipush (v := (30 : Int32)) hx hb dX12_shore_145 (by decide) ?_
  refine lv_icmp_eq (tgt := 161) hx hb dX12_shore_147 (by decide) (fun hc147 => ?_) (fun hc147 => ?_)
  · rw [if_pos hc147] at h
    obtain ⟨_, hw0, ew0⟩ := Option.map_eq_some_iff.mp h
    rw [← ew0] at hK
    have h := hw0
    exact F_X12_shore_161_ok X hr hlk v0 M _ h hK H locs ls O (lv_sub hl [0] rfl)
  rw [if_neg hc147] at h
  refine lv_aload_n hx hb dX12_shore_150 rfl (lv_at hl 0 rfl) ?_
  obtain ⟨_, hut33, h⟩ := Option.bind_eq_some_iff.mp h
  obtain ⟨t34, ht34, h⟩ := Option.bind_eq_some_iff.mp h
  refine xr_callV (rest := []) X O (T_X12_readLine l κ v0 M _ ht34) lk_X12_224 hut33 (Nat.le_of_ble_eq_true rfl) rfl hl.1 rfl (Nat.le_of_ble_eq_true rfl) dX12_shore_151 ⟨Nat.le_of_ble_eq_true rfl, Nat.le_of_ble_eq_true rfl⟩ (fun H locs O => ?_)
  refine W.eq (g2 := F0 m 154 ls []) rfl ?_
  refine lv_aload_n hx hb dX12_shore_154 rfl (lv_at hl 0 rfl) ?_
  obtain ⟨_, hut35, h⟩ := Option.bind_eq_some_iff.mp h
  obtain ⟨t36, ht36, h⟩ := Option.bind_eq_some_iff.mp h
  refine xr_callV (rest := []) X O (T_X12_closes l κ v0 t34 _ ht36) lk_X12_221 hut35 (Nat.le_of_ble_eq_true rfl) rfl hl.1 rfl (Nat.le_of_ble_eq_true rfl) dX12_shore_155 ⟨Nat.le_of_ble_eq_true rfl, Nat.le_of_ble_eq_true rfl⟩ (fun H locs O => ?_)
  refine W.eq (g2 := F0 m 158 ls []) rfl ?_
  refine lv_goto (tgt := 134) hx hb dX12_shore_158 (by decide) ?_
  rw [← Option.some.inj h] at hK
  exact hW134 t36 hK H locs ls O (lv_sub hl [0] rfl)
set_option maxRecDepth 100000 in
set_option maxHeartbeats 4000000 in
theorem F_X12_shore_134_ok (X : xX p s m args c cX12_shore 3 RX12 κ) (hr : meth.sig.returnType = (some .int)) (hlk : meth.locks = false) {ro : Int32} {mo : xM} (v0 : Nat) (M : xM) (x : Int32 × xM) (h : F_X12_shore_134 v0 M = some x) (hK : (fun o => o = (ro, mo)) x) (H : Heap) (locs : List Loc) (ls : Array Slot) (O : xO κ s M H locs) (hl : lv_has ls 3 [(0, .ref (κ.1 + v0))]) : W p l e (xRm 71 0 0) s m args below meth c H locs 0 0 (xQf below args s 0 0 κ (some (.int ro)) mo) (F0 m 134 ls []) := by
  refine xit_K (Wh := fun x => ∀ (H : Heap) (locs : List Loc) (ls : Array Slot), xO κ s x H locs → lv_has ls 3 [(0, .ref (κ.1 + v0))] → W p l e (xRm 71 0 0) s m args below meth c H locs 0 0 (xQf below args s 0 0 κ (some (.int ro)) mo) (F0 m 134 ls [])) (Kp := (fun o => o = (ro, mo))) ?_ xFU M x h hK H locs ls O hl
  intro y x h hK H locs ls O hl
  exact F_X12_shore_134_bok X hr hlk v0 (fun  _ hw => hw) y x h hK H locs ls O hl
set_option maxRecDepth 100000 in
set_option maxHeartbeats 4000000 in
theorem F_X12_shore_98_bok (X : xX p s m args c cX12_shore 3 RX12 κ) (hr : meth.sig.returnType = (some .int)) (hlk : meth.locks = false) {ro : Int32} {mo : xM} (v0 : Nat) (v2 : Int32) {W98 : Int32 × xM → Prop} (hW98 : ∀ (v2 : Int32) (M : xM), W98 (v2, M) → ∀ (H : Heap) (locs : List Loc) (ls : Array Slot), xO κ s M H locs → lv_has ls 3 [(0, .ref (κ.1 + v0)), (2, .int v2)] → W p l e (xRm 71 0 0) s m args below meth c H locs 0 0 (xQf below args s 0 0 κ (some (.int ro)) mo) (F0 m 98 ls [])) (M : xM) (x : (Int32 × xM) ⊕ (Int32 × xM)) (h : F_X12_shore_98b v0 (v2, M) = some x) (hK : (xKl W98 (fun o => o = (ro, mo))) x) (H : Heap) (locs : List Loc) (ls : Array Slot) (O : xO κ s M H locs) (hl : lv_has ls 3 [(0, .ref (κ.1 + v0)), (2, .int v2)]) : W p l e (xRm 71 0 0) s m args below meth c H locs 0 0 (xQf below args s 0 0 κ (some (.int ro)) mo) (F0 m 98 ls []) := by
  unfold F_X12_shore_98b at h
  dsimp only at h
  have hx := X.1
  have hb := X.2.1
  refine lv_iload_n hx hb dX12_shore_98 rfl (lv_at hl 1 rfl) ?_
  refine lv_bipush (v := (25 : Int32)) hx hb dX12_shore_99 (by decide) ?_
  refine lv_icmp_ge (tgt := 134) hx hb dX12_shore_101 (by decide) (fun hc101 => ?_) (fun hc101 => ?_)
  · rw [if_pos hc101] at h
    obtain ⟨_, hw0, ew0⟩ := Option.map_eq_some_iff.mp h
    rw [← ew0] at hK
    have h := hw0
    exact F_X12_shore_134_ok X hr hlk v0 M _ h hK H locs ls O (lv_sub hl [0] rfl)
  rw [if_neg hc101] at h
  refine lv_aload_n hx hb dX12_shore_104 rfl (lv_at hl 0 rfl) ?_
  obtain ⟨t26, ht26, h⟩ := Option.bind_eq_some_iff.mp h
  refine xr_getI X O ht26 fl_X12_129 (Or.inl rfl) dX12_shore_105 ?_
  refine lv_if_ne (tgt := 134) hx hb dX12_shore_108 (by decide) (fun hc108 => ?_) (fun hc108 => ?_)
  · rw [if_neg hc108] at h
    obtain ⟨_, hw0, ew0⟩ := Option.map_eq_some_iff.mp h
    rw [← ew0] at hK
    have h := hw0
    exact F_X12_shore_134_ok X hr hlk v0 M _ h hK H locs ls O (lv_sub hl [0] rfl)
  rw [if_pos hc108] at h
  refine lv_aload_n hx hb dX12_shore_111 rfl (lv_at hl 0 rfl) ?_
  obtain ⟨t27, ht27, h⟩ := Option.bind_eq_some_iff.mp h
  refine xr_getP X O ht27 fl_X12_24 dX12_shore_112 ?_
  refine lv_bipush (v := (67 : Int32)) hx hb dX12_shore_115 (by decide) ?_
  refine lv_iload_n hx hb dX12_shore_117 rfl (lv_at hl 1 rfl) ?_
  refine lv_iadd hx hb dX12_shore_118 ?_
  refine lv_iload_n hx hb dX12_shore_119 rfl (lv_at hl 1 rfl) ?_
  refine lv_aload_n hx hb dX12_shore_120 rfl (lv_at hl 0 rfl) ?_
  obtain ⟨t28, ht28, h⟩ := Option.bind_eq_some_iff.mp h
  refine xr_getP X O ht28 fl_X12_24 dX12_shore_121 ?_
  refine lv_iconst (v := (2 : Int32)) hx hb dX12_shore_124 (by decide) ?_
  obtain ⟨t29, ht29, h⟩ := Option.bind_eq_some_iff.mp h
  refine xr_aldI X O ht29 dX12_shore_125 ?_
  by_cases hz126 : t29 = 0
  · rw [if_pos hz126] at h; cases h
  rw [if_neg hz126] at h
  refine lv_idiv hx hb dX12_shore_126 hz126 ?_
  obtain ⟨t30, ht30, h⟩ := Option.bind_eq_some_iff.mp h
  refine xr_stI X O ht30 dX12_shore_127 (fun H locs O => ?_)
  refine lv_iinc (v := (v2 + 1)) (lv' := [(2, .int (v2 + 1)), (0, .ref (κ.1 + v0))]) hx hb dX12_shore_128 hl (k := 1) rfl rfl (by decide) rfl (fun ls hl => ?_)
  refine lv_goto (tgt := 98) hx hb dX12_shore_131 (by decide) ?_
  rw [← Option.some.inj h] at hK
  exact hW98 (v2 + 1) t30 hK H locs ls O (lv_sub hl [1, 0] rfl)
set_option maxRecDepth 100000 in
set_option maxHeartbeats 4000000 in
theorem F_X12_shore_98_ok (X : xX p s m args c cX12_shore 3 RX12 κ) (hr : meth.sig.returnType = (some .int)) (hlk : meth.locks = false) {ro : Int32} {mo : xM} (v0 : Nat) (v2 : Int32) (M : xM) (x : Int32 × xM) (h : F_X12_shore_98 v0 v2 M = some x) (hK : (fun o => o = (ro, mo)) x) (H : Heap) (locs : List Loc) (ls : Array Slot) (O : xO κ s M H locs) (hl : lv_has ls 3 [(0, .ref (κ.1 + v0)), (2, .int v2)]) : W p l e (xRm 71 0 0) s m args below meth c H locs 0 0 (xQf below args s 0 0 κ (some (.int ro)) mo) (F0 m 98 ls []) := by
  refine xit_K (Wh := fun x => ∀ (H : Heap) (locs : List Loc) (ls : Array Slot), xO κ s x.2 H locs → lv_has ls 3 [(0, .ref (κ.1 + v0)), (2, .int x.1)] → W p l e (xRm 71 0 0) s m args below meth c H locs 0 0 (xQf below args s 0 0 κ (some (.int ro)) mo) (F0 m 98 ls [])) (Kp := (fun o => o = (ro, mo))) ?_ xFU (v2, M) x h hK H locs ls O hl
  intro y x h hK H locs ls O hl
  exact F_X12_shore_98_bok X hr hlk v0 y.1 (fun _ _ hw => hw) y.2 x h hK H locs ls O hl
set_option maxRecDepth 100000 in
set_option maxHeartbeats 4000000 in
theorem F_X12_shore_66_ok (X : xX p s m args c cX12_shore 3 RX12 κ) (hr : meth.sig.returnType = (some .int)) (hlk : meth.locks = false) {ro : Int32} {mo : xM} (v0 : Nat) (M : xM) (x : Int32 × xM) (h : F_X12_shore_66 v0 M = some x) (hK : (fun o => o = (ro, mo)) x) (H : Heap) (locs : List Loc) (ls : Array Slot) (O : xO κ s M H locs) (hl : lv_has ls 3 [(0, .ref (κ.1 + v0))]) : W p l e (xRm 71 0 0) s m args below meth c H locs 0 0 (xQf below args s 0 0 κ (some (.int ro)) mo) (F0 m 66 ls []) := by
  unfold F_X12_shore_66 at h
  have hx := X.1
  have hb := X.2.1
  refine lv_aload_n hx hb dX12_shore_66 rfl (lv_at hl 0 rfl) ?_
  obtain ⟨t16, ht16, h⟩ := Option.bind_eq_some_iff.mp h
  refine xr_getP X O ht16 fl_X12_24 dX12_shore_67 ?_
  refine lv_iconst (v := (1 : Int32)) hx hb dX12_shore_70 (by decide) ?_
  refine lv_aload_n hx hb dX12_shore_71 rfl (lv_at hl 0 rfl) ?_
  refine lv_iconst (v := (1 : Int32)) hx hb dX12_shore_72 (by decide) ?_
  refine lv_iconst (v := (1 : Int32)) hx hb dX12_shore_73 (by decide) ?_
  refine lv_iconst (v := (5 : Int32)) hx hb dX12_shore_74 (by decide) ?_
  obtain ⟨_, hut17, h⟩ := Option.bind_eq_some_iff.mp h
  obtain ⟨t18, ht18, h⟩ := Option.bind_eq_some_iff.mp h
  refine xr_callV (rest := [.int (1 : Int32), .ref (κ.1 + t16)]) X O (T_X12_named l κ v0 (1 : Int32) (1 : Int32) (5 : Int32) M _ _ ht18) lk_X12_199 hut17 (Nat.le_of_ble_eq_true rfl) rfl hl.1 rfl (Nat.le_of_ble_eq_true rfl) dX12_shore_75 ⟨Nat.le_of_ble_eq_true rfl, Nat.le_of_ble_eq_true rfl⟩ (fun H locs O => ?_)
  refine W.eq (g2 := F0 m 78 ls [.int t18.1, .int (1 : Int32), .ref (κ.1 + t16)]) rfl ?_
  obtain ⟨t19, ht19, h⟩ := Option.bind_eq_some_iff.mp h
  refine xr_stI X O ht19 dX12_shore_78 (fun H locs O => ?_)
  refine lv_aload_n hx hb dX12_shore_79 rfl (lv_at hl 0 rfl) ?_
  obtain ⟨t20, ht20, h⟩ := Option.bind_eq_some_iff.mp h
  refine xr_getP X O ht20 fl_X12_24 dX12_shore_80 ?_
  refine lv_iconst (v := (2 : Int32)) hx hb dX12_shore_83 (by decide) ?_
  refine lv_aload_n hx hb dX12_shore_84 rfl (lv_at hl 0 rfl) ?_
  refine lv_iconst (v := (2 : Int32)) hx hb dX12_shore_85 (by decide) ?_
  refine lv_iconst (v := (1 : Int32)) hx hb dX12_shore_86 (by decide) ?_
  refine lv_iconst (v := (5 : Int32)) hx hb dX12_shore_87 (by decide) ?_
  obtain ⟨_, hut21, h⟩ := Option.bind_eq_some_iff.mp h
  obtain ⟨t22, ht22, h⟩ := Option.bind_eq_some_iff.mp h
  refine xr_callV (rest := [.int (2 : Int32), .ref (κ.1 + t20)]) X O (T_X12_named l κ v0 (2 : Int32) (1 : Int32) (5 : Int32) t19 _ _ ht22) lk_X12_199 hut21 (Nat.le_of_ble_eq_true rfl) rfl hl.1 rfl (Nat.le_of_ble_eq_true rfl) dX12_shore_88 ⟨Nat.le_of_ble_eq_true rfl, Nat.le_of_ble_eq_true rfl⟩ (fun H locs O => ?_)
  refine W.eq (g2 := F0 m 91 ls [.int t22.1, .int (2 : Int32), .ref (κ.1 + t20)]) rfl ?_
  obtain ⟨t23, ht23, h⟩ := Option.bind_eq_some_iff.mp h
  refine xr_stI X O ht23 dX12_shore_91 (fun H locs O => ?_)
  refine lv_aload_n hx hb dX12_shore_92 rfl (lv_at hl 0 rfl) ?_
  obtain ⟨_, hut24, h⟩ := Option.bind_eq_some_iff.mp h
  obtain ⟨t25, ht25, h⟩ := Option.bind_eq_some_iff.mp h
  refine xr_callV (rest := []) X O (T_X12_closes l κ v0 t23 _ ht25) lk_X12_221 hut24 (Nat.le_of_ble_eq_true rfl) rfl hl.1 rfl (Nat.le_of_ble_eq_true rfl) dX12_shore_93 ⟨Nat.le_of_ble_eq_true rfl, Nat.le_of_ble_eq_true rfl⟩ (fun H locs O => ?_)
  refine W.eq (g2 := F0 m 96 ls []) rfl ?_
  refine lv_iconst (v := (0 : Int32)) hx hb dX12_shore_96 (by decide) ?_
  refine lv_istore_n (lv' := [(2, .int (0 : Int32)), (0, .ref (κ.1 + v0))]) hx hb dX12_shore_97 rfl hl (by decide) rfl (fun ls hl => ?_)
  exact F_X12_shore_98_ok X hr hlk v0 (0 : Int32) t25 _ h hK H locs ls O (lv_sub hl [1, 0] rfl)
set_option maxRecDepth 100000 in
set_option maxHeartbeats 4000000 in
theorem T_X12_shore (l : Launch) (κ : xQ) (a0 : Nat) (a1 : Int32) (M : xM) (ro : Int32) (mo : xM) (h : F_X12_shore a0 a1 M = some (ro, mo)) : xC l yX12_shore cX12_shore 3 (some .int) 71 0 0 κ [.ref (κ.1 + a0), .int a1] M (some (.int ro)) mo := by
  refine xC_of rfl (Nat.le_of_ble_eq_true rfl) fun p e s m args below meth c X hr hlk hnm H locs ls O hl => ?_
  have X : xX p s m args c cX12_shore 3 RX12 κ := X
  have hl : lv_has ls 3 [(0, .ref (κ.1 + a0)), (1, .int a1)] := hl
  have hx := X.1
  have hb := X.2.1
  obtain ⟨x, hx0⟩ : ∃ x, (ro, mo) = x := ⟨_, rfl⟩
  rw [hx0] at h
  have hK : x = (ro, mo) := hx0.symm
  unfold F_X12_shore at h
  refine lv_aload_n hx hb dX12_shore_0 rfl (lv_at hl 0 rfl) ?_
  refine lv_iconst (v := (0 : Int32)) hx hb dX12_shore_1 (by decide) ?_
  obtain ⟨t1, ht1, h⟩ := Option.bind_eq_some_iff.mp h
  refine xr_putI X O ht1 fl_X12_1 dX12_shore_2 (fun H locs O => ?_)
  refine lv_iload_n hx hb dX12_shore_5 rfl (lv_at hl 1 rfl) ?_
  refine lv_i2l (v := a1.toInt64) hx hb dX12_shore_6 rfl ?_
  refine lv_lconst (v := (0 : Int64)) hx hb dX12_shore_7 (by decide) ?_
  refine lv_aload_n hx hb dX12_shore_8 rfl (lv_at hl 0 rfl) ?_
  obtain ⟨t2, ht2, h⟩ := Option.bind_eq_some_iff.mp h
  refine xr_getI X O ht2 fl_X12_83 (Or.inl rfl) dX12_shore_9 ?_
  refine lv_i2l (v := t2.toInt64) hx hb dX12_shore_12 rfl ?_
  obtain ⟨t3, ht3, h⟩ := Option.bind_eq_some_iff.mp h
  refine xr_callS (rest := []) X O (T_X12_within l κ a1.toInt64 (0 : Int64) t2.toInt64 t1 _ _ ht3) lk_X12_145 (Nat.le_of_ble_eq_true rfl) rfl hl.1 rfl (Nat.le_of_ble_eq_true rfl) dX12_shore_13 ⟨Nat.le_of_ble_eq_true rfl, Nat.le_of_ble_eq_true rfl⟩ (fun H locs O => ?_)
  refine W.eq (g2 := F0 m 16 ls [.int t3.1]) rfl ?_
  refine lv_if_ne (tgt := 22) hx hb dX12_shore_16 (by decide) (fun hc16 => ?_) (fun hc16 => ?_)
  · rw [if_neg hc16] at h
    refine lv_aload_n hx hb dX12_shore_22 rfl (lv_at hl 0 rfl) ?_
    refine lv_iload_n hx hb dX12_shore_23 rfl (lv_at hl 1 rfl) ?_
    obtain ⟨t4, ht4, h⟩ := Option.bind_eq_some_iff.mp h
    refine xr_putI X O ht4 fl_X12_86 dX12_shore_24 (fun H locs O => ?_)
    refine lv_aload_n hx hb dX12_shore_27 rfl (lv_at hl 0 rfl) ?_
    refine lv_iconst (v := (0 : Int32)) hx hb dX12_shore_28 (by decide) ?_
    obtain ⟨t5, ht5, h⟩ := Option.bind_eq_some_iff.mp h
    refine xr_putI X O ht5 fl_X12_83 dX12_shore_29 (fun H locs O => ?_)
    refine lv_aload_n hx hb dX12_shore_32 rfl (lv_at hl 0 rfl) ?_
    refine lv_iconst (v := (0 : Int32)) hx hb dX12_shore_33 (by decide) ?_
    obtain ⟨t6, ht6, h⟩ := Option.bind_eq_some_iff.mp h
    refine xr_putI X O ht6 fl_X12_104 dX12_shore_34 (fun H locs O => ?_)
    refine lv_aload_n hx hb dX12_shore_37 rfl (lv_at hl 0 rfl) ?_
    refine lv_iconst (v := (0 : Int32)) hx hb dX12_shore_38 (by decide) ?_
    obtain ⟨t7, ht7, h⟩ := Option.bind_eq_some_iff.mp h
    refine xr_putI X O ht7 fl_X12_129 dX12_shore_39 (fun H locs O => ?_)
    refine lv_aload_n hx hb dX12_shore_42 rfl (lv_at hl 0 rfl) ?_
    obtain ⟨t8, ht8, h⟩ := Option.bind_eq_some_iff.mp h
    refine xr_getP X O ht8 fl_X12_24 dX12_shore_43 ?_
    obtain ⟨t9, ht9, h⟩ := Option.bind_eq_some_iff.mp h
    refine xr_callS (rest := []) X O (T_X12_plain l κ t8 t7 _ ht9) lk_X12_79 (Nat.le_of_ble_eq_true rfl) rfl hl.1 rfl (Nat.le_of_ble_eq_true rfl) dX12_shore_46 ⟨Nat.le_of_ble_eq_true rfl, Nat.le_of_ble_eq_true rfl⟩ (fun H locs O => ?_)
    refine W.eq (g2 := F0 m 49 ls []) rfl ?_
    refine lv_aload_n hx hb dX12_shore_49 rfl (lv_at hl 0 rfl) ?_
    obtain ⟨_, hut10, h⟩ := Option.bind_eq_some_iff.mp h
    obtain ⟨t11, ht11, h⟩ := Option.bind_eq_some_iff.mp h
    refine xr_callV (rest := []) X O (T_X12_next l κ a0 t9 _ ht11) lk_X12_138 hut10 (Nat.le_of_ble_eq_true rfl) rfl hl.1 rfl (Nat.le_of_ble_eq_true rfl) dX12_shore_50 ⟨Nat.le_of_ble_eq_true rfl, Nat.le_of_ble_eq_true rfl⟩ (fun H locs O => ?_)
    refine W.eq (g2 := F0 m 53 ls []) rfl ?_
    refine lv_aload_n hx hb dX12_shore_53 rfl (lv_at hl 0 rfl) ?_
    refine lv_iconst (v := (0 : Int32)) hx hb dX12_shore_54 (by decide) ?_
    obtain ⟨_, hut12, h⟩ := Option.bind_eq_some_iff.mp h
    obtain ⟨t13, ht13, h⟩ := Option.bind_eq_some_iff.mp h
    refine xr_callV (rest := []) X O (T_X12_eats l κ a0 (0 : Int32) t11 _ _ ht13) lk_X12_164 hut12 (Nat.le_of_ble_eq_true rfl) rfl hl.1 rfl (Nat.le_of_ble_eq_true rfl) dX12_shore_55 ⟨Nat.le_of_ble_eq_true rfl, Nat.le_of_ble_eq_true rfl⟩ (fun H locs O => ?_)
    refine W.eq (g2 := F0 m 58 ls [.int t13.1]) rfl ?_
    refine lv_if_ne (tgt := 66) hx hb dX12_shore_58 (by decide) (fun hc58 => ?_) (fun hc58 => ?_)
    · rw [if_neg hc58] at h
      exact F_X12_shore_66_ok X hr hlk a0 t13.2 _ h hK H locs ls O (lv_sub hl [0] rfl)
    rw [if_pos hc58] at h
    refine lv_aload_n hx hb dX12_shore_61 rfl (lv_at hl 0 rfl) ?_
    refine lv_iconst (v := (2 : Int32)) hx hb dX12_shore_62 (by decide) ?_
    obtain ⟨_, hut14, h⟩ := Option.bind_eq_some_iff.mp h
    obtain ⟨t15, ht15, h⟩ := Option.bind_eq_some_iff.mp h
    refine xr_callV (rest := []) X O (T_X12_fails l κ a0 (2 : Int32) t13.2 _ ht15) lk_X12_141 hut14 (Nat.le_of_ble_eq_true rfl) rfl hl.1 rfl (Nat.le_of_ble_eq_true rfl) dX12_shore_63 ⟨Nat.le_of_ble_eq_true rfl, Nat.le_of_ble_eq_true rfl⟩ (fun H locs O => ?_)
    refine W.eq (g2 := F0 m 66 ls []) rfl ?_
    exact F_X12_shore_66_ok X hr hlk a0 t15 _ h hK H locs ls O (lv_sub hl [0] rfl)
  rw [if_pos hc16] at h
  refine lv_bipush (v := (-3 : Int32)) hx hb dX12_shore_19 (by decide) ?_
  rw [← Option.some.inj h] at hK
  have hK : ((-3 : Int32), t3.2) = (ro, mo) := hK
  obtain ⟨hK1, hK2⟩ := Prod.mk.inj hK
  rw [hK2] at O
  refine xr_top (w := .int ro) (by rw [hK1]) ?_
  exact xr_iret X hr hlk O dX12_shore_21
def F_X12_fault (a0 : Nat) (a1 : Int32) (M : xM) : Option (Int32 × xM) :=
(xpI M a0 12 0 (0 : Int32)).bind fun t1 =>
if a1 = 0 then (
(xgI t1 a0 12 13).bind fun t3 =>
some (t3, t1))
else (
if a1 = (1 : Int32) then (
(xgI t1 a0 12 14).bind fun t2 =>
some (t2, t1))
else (
some ((-1 : Int32), t1)))
set_option maxRecDepth 100000 in
set_option maxHeartbeats 4000000 in
theorem T_X12_fault (l : Launch) (κ : xQ) (a0 : Nat) (a1 : Int32) (M : xM) (ro : Int32) (mo : xM) (h : F_X12_fault a0 a1 M = some (ro, mo)) : xC l yX12_fault cX12_fault 2 (some .int) 2 0 0 κ [.ref (κ.1 + a0), .int a1] M (some (.int ro)) mo := by
  refine xC_of rfl (Nat.le_of_ble_eq_true rfl) fun p e s m args below meth c X hr hlk hnm H locs ls O hl => ?_
  have X : xX p s m args c cX12_fault 2 RX12 κ := X
  have hl : lv_has ls 2 [(0, .ref (κ.1 + a0)), (1, .int a1)] := hl
  have hx := X.1
  have hb := X.2.1
  obtain ⟨x, hx0⟩ : ∃ x, (ro, mo) = x := ⟨_, rfl⟩
  rw [hx0] at h
  have hK : x = (ro, mo) := hx0.symm
  unfold F_X12_fault at h
  refine lv_aload_n hx hb dX12_fault_0 rfl (lv_at hl 0 rfl) ?_
  refine lv_iconst (v := (0 : Int32)) hx hb dX12_fault_1 (by decide) ?_
  obtain ⟨t1, ht1, h⟩ := Option.bind_eq_some_iff.mp h
  refine xr_putI X O ht1 fl_X12_1 dX12_fault_2 (fun H locs O => ?_)
  refine lv_iload_n hx hb dX12_fault_5 rfl (lv_at hl 1 rfl) ?_
  refine lv_if_ne (tgt := 16) hx hb dX12_fault_6 (by decide) (fun hc6 => ?_) (fun hc6 => ?_)
  · rw [if_neg hc6] at h
    refine lv_iload_n hx hb dX12_fault_16 rfl (lv_at hl 1 rfl) ?_
    refine lv_iconst (v := (1 : Int32)) hx hb dX12_fault_17 (by decide) ?_
    refine lv_icmp_ne (tgt := 28) hx hb dX12_fault_18 (by decide) (fun hc18 => ?_) (fun hc18 => ?_)
    · rw [if_neg hc18] at h
      refine lv_iconst (v := (-1 : Int32)) hx hb dX12_fault_28 (by decide) ?_
      rw [← Option.some.inj h] at hK
      have hK : ((-1 : Int32), t1) = (ro, mo) := hK
      obtain ⟨hK1, hK2⟩ := Prod.mk.inj hK
      rw [hK2] at O
      refine xr_top (w := .int ro) (by rw [hK1]) ?_
      exact xr_iret X hr hlk O dX12_fault_29
    rw [if_pos hc18] at h
    refine lv_aload_n hx hb dX12_fault_21 rfl (lv_at hl 0 rfl) ?_
    obtain ⟨t2, ht2, h⟩ := Option.bind_eq_some_iff.mp h
    refine xr_getI X O ht2 fl_X12_27 (Or.inl rfl) dX12_fault_22 ?_
    refine lv_goto (tgt := 29) hx hb dX12_fault_25 (by decide) ?_
    rw [← Option.some.inj h] at hK
    have hK : (t2, t1) = (ro, mo) := hK
    obtain ⟨hK1, hK2⟩ := Prod.mk.inj hK
    rw [hK2] at O
    refine xr_top (w := .int ro) (by rw [hK1]) ?_
    exact xr_iret X hr hlk O dX12_fault_29
  rw [if_pos hc6] at h
  refine lv_aload_n hx hb dX12_fault_9 rfl (lv_at hl 0 rfl) ?_
  obtain ⟨t3, ht3, h⟩ := Option.bind_eq_some_iff.mp h
  refine xr_getI X O ht3 fl_X12_227 (Or.inl rfl) dX12_fault_10 ?_
  refine lv_goto (tgt := 29) hx hb dX12_fault_13 (by decide) ?_
  rw [← Option.some.inj h] at hK
  have hK : (t3, t1) = (ro, mo) := hK
  obtain ⟨hK1, hK2⟩ := Prod.mk.inj hK
  rw [hK2] at O
  refine xr_top (w := .int ro) (by rw [hK1]) ?_
  exact xr_iret X hr hlk O dX12_fault_29
def F_X12_isCell (a0 : Nat) (a1 : Int64) (M : xM) : Option (Int32 × xM) :=
(xgP M a0 12 1).bind fun t1 =>
(xck M a0 12).bind fun _ =>
(F_X12_cellsOf a0 t1 M).bind fun t3 =>
(F_X12_within a1 (0 : Int64) (t3.1 - (1 : Int32)).toInt64 t3.2).bind fun t4 =>
(xz t4.1).bind fun t5 =>
some (t5, t4.2)
set_option maxRecDepth 100000 in
set_option maxHeartbeats 4000000 in
theorem T_X12_isCell (l : Launch) (κ : xQ) (a0 : Nat) (a1 : Int64) (M : xM) (ro : Int32) (mo : xM) (h : F_X12_isCell a0 a1 M = some (ro, mo)) : xC l yX12_isCell cX12_isCell 3 (some .boolean) 3 0 0 κ [.ref (κ.1 + a0), .long a1] M (some (.int ro)) mo := by
  refine xC_of rfl (Nat.le_of_ble_eq_true rfl) fun p e s m args below meth c X hr hlk hnm H locs ls O hl => ?_
  have X : xX p s m args c cX12_isCell 3 RX12 κ := X
  have hl : lv_has ls 3 [(0, .ref (κ.1 + a0)), (1, .long a1)] := hl
  have hx := X.1
  have hb := X.2.1
  obtain ⟨x, hx0⟩ : ∃ x, (ro, mo) = x := ⟨_, rfl⟩
  rw [hx0] at h
  have hK : x = (ro, mo) := hx0.symm
  unfold F_X12_isCell at h
  refine lv_lload_n hx hb dX12_isCell_0 rfl (lv_at hl 1 rfl) ?_
  refine lv_lconst (v := (0 : Int64)) hx hb dX12_isCell_1 (by decide) ?_
  refine lv_aload_n hx hb dX12_isCell_2 rfl (lv_at hl 0 rfl) ?_
  refine lv_aload_n hx hb dX12_isCell_3 rfl (lv_at hl 0 rfl) ?_
  obtain ⟨t1, ht1, h⟩ := Option.bind_eq_some_iff.mp h
  refine xr_getP X O ht1 fl_X12_13 dX12_isCell_4 ?_
  obtain ⟨_, hut2, h⟩ := Option.bind_eq_some_iff.mp h
  obtain ⟨t3, ht3, h⟩ := Option.bind_eq_some_iff.mp h
  refine xr_callV (rest := [.long (0 : Int64), .long a1]) X O (T_X12_cellsOf l κ a0 t1 M _ _ ht3) lk_X12_189 hut2 (Nat.le_of_ble_eq_true rfl) rfl hl.1 rfl (Nat.le_of_ble_eq_true rfl) dX12_isCell_7 ⟨Nat.le_of_ble_eq_true rfl, Nat.le_of_ble_eq_true rfl⟩ (fun H locs O => ?_)
  refine W.eq (g2 := F0 m 10 ls [.int t3.1, .long (0 : Int64), .long a1]) rfl ?_
  refine lv_iconst (v := (1 : Int32)) hx hb dX12_isCell_10 (by decide) ?_
  refine lv_isub hx hb dX12_isCell_11 ?_
  refine lv_i2l (v := (t3.1 - (1 : Int32)).toInt64) hx hb dX12_isCell_12 rfl ?_
  obtain ⟨t4, ht4, h⟩ := Option.bind_eq_some_iff.mp h
  refine xr_callS (rest := []) X O (T_X12_within l κ a1 (0 : Int64) (t3.1 - (1 : Int32)).toInt64 t3.2 _ _ ht4) lk_X12_145 (Nat.le_of_ble_eq_true rfl) rfl hl.1 rfl (Nat.le_of_ble_eq_true rfl) dX12_isCell_13 ⟨Nat.le_of_ble_eq_true rfl, Nat.le_of_ble_eq_true rfl⟩ (fun H locs O => ?_)
  refine W.eq (g2 := F0 m 16 ls [.int t4.1]) rfl ?_
  obtain ⟨t5, ht5, h⟩ := Option.bind_eq_some_iff.mp h
  rw [← Option.some.inj h] at hK
  have hK : (t5, t4.2) = (ro, mo) := hK
  obtain ⟨hK1, hK2⟩ := Prod.mk.inj hK
  rw [hK1] at ht5
  rw [hK2] at O
  exact xr_zret X hr hlk O ht5 dX12_isCell_16
def F_X12_isHouse (a0 : Nat) (a1 : Int64) (M : xM) : Option (Int32 × xM) :=
(xgP M a0 12 1).bind fun t1 =>
(xaI M 20 t1 (92 : Int32)).bind fun t2 =>
(F_X12_within a1 (0 : Int64) (t2 - (1 : Int32)).toInt64 M).bind fun t3 =>
(xz t3.1).bind fun t4 =>
some (t4, t3.2)
set_option maxRecDepth 100000 in
set_option maxHeartbeats 4000000 in
theorem T_X12_isHouse (l : Launch) (κ : xQ) (a0 : Nat) (a1 : Int64) (M : xM) (ro : Int32) (mo : xM) (h : F_X12_isHouse a0 a1 M = some (ro, mo)) : xC l yX12_isHouse cX12_isHouse 3 (some .boolean) 3 0 0 κ [.ref (κ.1 + a0), .long a1] M (some (.int ro)) mo := by
  refine xC_of rfl (Nat.le_of_ble_eq_true rfl) fun p e s m args below meth c X hr hlk hnm H locs ls O hl => ?_
  have X : xX p s m args c cX12_isHouse 3 RX12 κ := X
  have hl : lv_has ls 3 [(0, .ref (κ.1 + a0)), (1, .long a1)] := hl
  have hx := X.1
  have hb := X.2.1
  obtain ⟨x, hx0⟩ : ∃ x, (ro, mo) = x := ⟨_, rfl⟩
  rw [hx0] at h
  have hK : x = (ro, mo) := hx0.symm
  unfold F_X12_isHouse at h
  refine lv_lload_n hx hb dX12_isHouse_0 rfl (lv_at hl 1 rfl) ?_
  refine lv_lconst (v := (0 : Int64)) hx hb dX12_isHouse_1 (by decide) ?_
  refine lv_aload_n hx hb dX12_isHouse_2 rfl (lv_at hl 0 rfl) ?_
  obtain ⟨t1, ht1, h⟩ := Option.bind_eq_some_iff.mp h
  refine xr_getP X O ht1 fl_X12_13 dX12_isHouse_3 ?_
  refine lv_bipush (v := (92 : Int32)) hx hb dX12_isHouse_6 (by decide) ?_
  obtain ⟨t2, ht2, h⟩ := Option.bind_eq_some_iff.mp h
  refine xr_aldI X O ht2 dX12_isHouse_8 ?_
  refine lv_iconst (v := (1 : Int32)) hx hb dX12_isHouse_9 (by decide) ?_
  refine lv_isub hx hb dX12_isHouse_10 ?_
  refine lv_i2l (v := (t2 - (1 : Int32)).toInt64) hx hb dX12_isHouse_11 rfl ?_
  obtain ⟨t3, ht3, h⟩ := Option.bind_eq_some_iff.mp h
  refine xr_callS (rest := []) X O (T_X12_within l κ a1 (0 : Int64) (t2 - (1 : Int32)).toInt64 M _ _ ht3) lk_X12_145 (Nat.le_of_ble_eq_true rfl) rfl hl.1 rfl (Nat.le_of_ble_eq_true rfl) dX12_isHouse_12 ⟨Nat.le_of_ble_eq_true rfl, Nat.le_of_ble_eq_true rfl⟩ (fun H locs O => ?_)
  refine W.eq (g2 := F0 m 15 ls [.int t3.1]) rfl ?_
  obtain ⟨t4, ht4, h⟩ := Option.bind_eq_some_iff.mp h
  rw [← Option.some.inj h] at hK
  have hK : (t4, t3.2) = (ro, mo) := hK
  obtain ⟨hK1, hK2⟩ := Prod.mk.inj hK
  rw [hK1] at ht4
  rw [hK2] at O
  exact xr_zret X hr hlk O ht4 dX12_isHouse_15
def F_X12_bitsOf_24 (v1 : Int32) (M : xM) : Option (Int32 × xM) :=
some (v1, M)
def F_X12_bitsOf_4b (v0 : Int32) : (Int32 × Int32 × xM) → Option ((Int32 × Int32 × xM) ⊕ (Int32 × xM)) := fun ⟨v1, v2, M⟩ =>
if (25 : Int32) ≤ v2 then (
(F_X12_bitsOf_24 v1 M).map Sum.inr)
else (
(some ((v1 + ((v0 >>> (v2 &&& 31)) &&& (1 : Int32))))).bind fun t1 =>
some (.inl (t1, (v2 + 1), M)))
def F_X12_bitsOf_4 (v0 : Int32) (v1 : Int32) (v2 : Int32) (M : xM) : Option (Int32 × xM) := xit (F_X12_bitsOf_4b v0) xFU (v1, v2, M)
def F_X12_bitsOf (a0 : Int32) (M : xM) : Option (Int32 × xM) :=
F_X12_bitsOf_4 a0 (0 : Int32) (0 : Int32) M
set_option maxRecDepth 100000 in
set_option maxHeartbeats 4000000 in
theorem F_X12_bitsOf_24_ok (X : xX p s m args c cX12_bitsOf 3 RX12 κ) (hr : meth.sig.returnType = (some .int)) (hlk : meth.locks = false) {ro : Int32} {mo : xM} (v1 : Int32) (M : xM) (x : Int32 × xM) (h : F_X12_bitsOf_24 v1 M = some x) (hK : (fun o => o = (ro, mo)) x) (H : Heap) (locs : List Loc) (ls : Array Slot) (O : xO κ s M H locs) (hl : lv_has ls 3 [(1, .int v1)]) : W p l e (xRm 2 0 0) s m args below meth c H locs 0 0 (xQf below args s 0 0 κ (some (.int ro)) mo) (F0 m 24 ls []) := by
  unfold F_X12_bitsOf_24 at h
  have hx := X.1
  have hb := X.2.1
  refine lv_iload_n hx hb dX12_bitsOf_24 rfl (lv_at hl 0 rfl) ?_
  rw [← Option.some.inj h] at hK
  have hK : (v1, M) = (ro, mo) := hK
  obtain ⟨hK1, hK2⟩ := Prod.mk.inj hK
  rw [hK2] at O
  refine xr_top (w := .int ro) (by rw [hK1]) ?_
  exact xr_iret X hr hlk O dX12_bitsOf_25
set_option maxRecDepth 100000 in
set_option maxHeartbeats 4000000 in
theorem F_X12_bitsOf_4_bok (X : xX p s m args c cX12_bitsOf 3 RX12 κ) (hr : meth.sig.returnType = (some .int)) (hlk : meth.locks = false) {ro : Int32} {mo : xM} (v0 : Int32) (v1 : Int32) (v2 : Int32) {W4 : Int32 × Int32 × xM → Prop} (hW4 : ∀ (v1 : Int32) (v2 : Int32) (M : xM), W4 (v1, v2, M) → ∀ (H : Heap) (locs : List Loc) (ls : Array Slot), xO κ s M H locs → lv_has ls 3 [(0, .int v0), (1, .int v1), (2, .int v2)] → W p l e (xRm 2 0 0) s m args below meth c H locs 0 0 (xQf below args s 0 0 κ (some (.int ro)) mo) (F0 m 4 ls [])) (M : xM) (x : (Int32 × Int32 × xM) ⊕ (Int32 × xM)) (h : F_X12_bitsOf_4b v0 (v1, v2, M) = some x) (hK : (xKl W4 (fun o => o = (ro, mo))) x) (H : Heap) (locs : List Loc) (ls : Array Slot) (O : xO κ s M H locs) (hl : lv_has ls 3 [(0, .int v0), (1, .int v1), (2, .int v2)]) : W p l e (xRm 2 0 0) s m args below meth c H locs 0 0 (xQf below args s 0 0 κ (some (.int ro)) mo) (F0 m 4 ls []) := by
  unfold F_X12_bitsOf_4b at h
  dsimp only at h
  have hx := X.1
  have hb := X.2.1
  refine lv_iload_n hx hb dX12_bitsOf_4 rfl (lv_at hl 2 rfl) ?_
  refine lv_bipush (v := (25 : Int32)) hx hb dX12_bitsOf_5 (by decide) ?_
  refine lv_icmp_ge (tgt := 24) hx hb dX12_bitsOf_7 (by decide) (fun hc7 => ?_) (fun hc7 => ?_)
  · rw [if_pos hc7] at h
    obtain ⟨_, hw0, ew0⟩ := Option.map_eq_some_iff.mp h
    rw [← ew0] at hK
    have h := hw0
    exact F_X12_bitsOf_24_ok X hr hlk v1 M _ h hK H locs ls O (lv_sub hl [1] rfl)
  rw [if_neg hc7] at h
  refine lv_iload_n hx hb dX12_bitsOf_10 rfl (lv_at hl 1 rfl) ?_
  refine lv_iload_n hx hb dX12_bitsOf_11 rfl (lv_at hl 0 rfl) ?_
  refine lv_iload_n hx hb dX12_bitsOf_12 rfl (lv_at hl 2 rfl) ?_
  refine lv_ishr hx hb dX12_bitsOf_13 ?_
  refine lv_iconst (v := (1 : Int32)) hx hb dX12_bitsOf_14 (by decide) ?_
  refine lv_iand hx hb dX12_bitsOf_15 ?_
  refine lv_iadd hx hb dX12_bitsOf_16 ?_
  obtain ⟨t1, ht1, h⟩ := Option.bind_eq_some_iff.mp h
  refine xr_top (w := .int t1) (by rw [Option.some.inj ht1]) ?_
  refine lv_istore_n (lv' := [(1, .int t1), (0, .int v0), (2, .int v2)]) hx hb dX12_bitsOf_17 rfl hl (by decide) rfl (fun ls hl => ?_)
  refine lv_iinc (v := (v2 + 1)) (lv' := [(2, .int (v2 + 1)), (1, .int t1), (0, .int v0)]) hx hb dX12_bitsOf_18 hl (k := 2) rfl rfl (by decide) rfl (fun ls hl => ?_)
  refine lv_goto (tgt := 4) hx hb dX12_bitsOf_21 (by decide) ?_
  rw [← Option.some.inj h] at hK
  exact hW4 t1 (v2 + 1) M hK H locs ls O (lv_sub hl [2, 1, 0] rfl)
set_option maxRecDepth 100000 in
set_option maxHeartbeats 4000000 in
theorem F_X12_bitsOf_4_ok (X : xX p s m args c cX12_bitsOf 3 RX12 κ) (hr : meth.sig.returnType = (some .int)) (hlk : meth.locks = false) {ro : Int32} {mo : xM} (v0 : Int32) (v1 : Int32) (v2 : Int32) (M : xM) (x : Int32 × xM) (h : F_X12_bitsOf_4 v0 v1 v2 M = some x) (hK : (fun o => o = (ro, mo)) x) (H : Heap) (locs : List Loc) (ls : Array Slot) (O : xO κ s M H locs) (hl : lv_has ls 3 [(0, .int v0), (1, .int v1), (2, .int v2)]) : W p l e (xRm 2 0 0) s m args below meth c H locs 0 0 (xQf below args s 0 0 κ (some (.int ro)) mo) (F0 m 4 ls []) := by
  refine xit_K (Wh := fun x => ∀ (H : Heap) (locs : List Loc) (ls : Array Slot), xO κ s x.2.2 H locs → lv_has ls 3 [(0, .int v0), (1, .int x.1), (2, .int x.2.1)] → W p l e (xRm 2 0 0) s m args below meth c H locs 0 0 (xQf below args s 0 0 κ (some (.int ro)) mo) (F0 m 4 ls [])) (Kp := (fun o => o = (ro, mo))) ?_ xFU (v1, v2, M) x h hK H locs ls O hl
  intro y x h hK H locs ls O hl
  exact F_X12_bitsOf_4_bok X hr hlk v0 y.1 y.2.1 (fun _ _ _ hw => hw) y.2.2 x h hK H locs ls O hl
set_option maxRecDepth 100000 in
set_option maxHeartbeats 4000000 in
theorem T_X12_bitsOf (l : Launch) (κ : xQ) (a0 : Int32) (M : xM) (ro : Int32) (mo : xM) (h : F_X12_bitsOf a0 M = some (ro, mo)) : xC l yX12_bitsOf cX12_bitsOf 3 (some .int) 2 0 0 κ [.int a0] M (some (.int ro)) mo := by
  refine xC_of rfl (Nat.le_of_ble_eq_true rfl) fun p e s m args below meth c X hr hlk hnm H locs ls O hl => ?_
  have X : xX p s m args c cX12_bitsOf 3 RX12 κ := X
  have hl : lv_has ls 3 [(0, .int a0)] := hl
  have hx := X.1
  have hb := X.2.1
  obtain ⟨x, hx0⟩ : ∃ x, (ro, mo) = x := ⟨_, rfl⟩
  rw [hx0] at h
  have hK : x = (ro, mo) := hx0.symm
  unfold F_X12_bitsOf at h
  refine lv_iconst (v := (0 : Int32)) hx hb dX12_bitsOf_0 (by decide) ?_
  refine lv_istore_n (lv' := [(1, .int (0 : Int32)), (0, .int a0)]) hx hb dX12_bitsOf_1 rfl hl (by decide) rfl (fun ls hl => ?_)
  refine lv_iconst (v := (0 : Int32)) hx hb dX12_bitsOf_2 (by decide) ?_
  refine lv_istore_n (lv' := [(2, .int (0 : Int32)), (1, .int (0 : Int32)), (0, .int a0)]) hx hb dX12_bitsOf_3 rfl hl (by decide) rfl (fun ls hl => ?_)
  exact F_X12_bitsOf_4_ok X hr hlk a0 (0 : Int32) (0 : Int32) M _ h hK H locs ls O (lv_sub hl [2, 1, 0] rfl)
def F_X12_besides_55 (v1 : Int32) (v2 : Int32) (v3 : Int32) (M : xM) : Option (Int32 × xM) :=
if v2 = 0 then none else
if (v2 - (1 : Int32)) ≤ (v1 - v1 / v2 * v2) then (
some (v3, M))
else (
(some ((v3 ||| ((1 : Int32) <<< ((v1 + (1 : Int32)) &&& 31))))).bind fun t8 =>
some (t8, M))
def F_X12_besides_41 (v1 : Int32) (v2 : Int32) (v3 : Int32) (M : xM) : Option (Int32 × xM) :=
if v2 = 0 then none else
if (v1 - v1 / v2 * v2) ≤ 0 then (
F_X12_besides_55 v1 v2 v3 M)
else (
(some ((v3 ||| ((1 : Int32) <<< ((v1 - (1 : Int32)) &&& 31))))).bind fun t7 =>
F_X12_besides_55 v1 v2 t7 M)
def F_X12_besides_22 (v0 : Nat) (v1 : Int32) (v2 : Int32) (v3 : Int32) (M : xM) : Option (Int32 × xM) :=
(xck M v0 12).bind fun _ =>
(F_X12_isCell v0 (v1 + v2).toInt64 M).bind fun t5 =>
if t5.1 = 0 then (
F_X12_besides_41 v1 v2 v3 t5.2)
else (
(some ((v3 ||| ((1 : Int32) <<< ((v1 + v2) &&& 31))))).bind fun t6 =>
F_X12_besides_41 v1 v2 t6 t5.2)
def F_X12_besides (a0 : Nat) (a1 : Int32) (M : xM) : Option (Int32 × xM) :=
(xgP M a0 12 1).bind fun t1 =>
(xaI M 20 t1 (2 : Int32)).bind fun t2 =>
if a1 < t2 then (
F_X12_besides_22 a0 a1 t2 (0 : Int32) M)
else (
(some (((0 : Int32) ||| ((1 : Int32) <<< ((a1 - t2) &&& 31))))).bind fun t3 =>
F_X12_besides_22 a0 a1 t2 t3 M)
set_option maxRecDepth 100000 in
set_option maxHeartbeats 4000000 in
theorem F_X12_besides_55_ok (X : xX p s m args c cX12_besides 4 RX12 κ) (hr : meth.sig.returnType = (some .int)) (hlk : meth.locks = false) {ro : Int32} {mo : xM} (v1 : Int32) (v2 : Int32) (v3 : Int32) (M : xM) (x : Int32 × xM) (h : F_X12_besides_55 v1 v2 v3 M = some x) (hK : (fun o => o = (ro, mo)) x) (H : Heap) (locs : List Loc) (ls : Array Slot) (O : xO κ s M H locs) (hl : lv_has ls 4 [(1, .int v1), (2, .int v2), (3, .int v3)]) : W p l e (xRm 4 0 0) s m args below meth c H locs 0 0 (xQf below args s 0 0 κ (some (.int ro)) mo) (F0 m 55 ls []) := by
  unfold F_X12_besides_55 at h
  have hx := X.1
  have hb := X.2.1
  refine lv_iload_n hx hb dX12_besides_55 rfl (lv_at hl 0 rfl) ?_
  refine lv_iload_n hx hb dX12_besides_56 rfl (lv_at hl 1 rfl) ?_
  by_cases hz57 : v2 = 0
  · rw [if_pos hz57] at h; cases h
  rw [if_neg hz57] at h
  refine lv_irem hx hb dX12_besides_57 hz57 ?_
  refine lv_iload_n hx hb dX12_besides_58 rfl (lv_at hl 1 rfl) ?_
  refine lv_iconst (v := (1 : Int32)) hx hb dX12_besides_59 (by decide) ?_
  refine lv_isub hx hb dX12_besides_60 ?_
  refine lv_icmp_ge (tgt := 72) hx hb dX12_besides_61 (by decide) (fun hc61 => ?_) (fun hc61 => ?_)
  · rw [if_pos hc61] at h
    refine lv_iload_n hx hb dX12_besides_72 rfl (lv_at hl 2 rfl) ?_
    rw [← Option.some.inj h] at hK
    have hK : (v3, M) = (ro, mo) := hK
    obtain ⟨hK1, hK2⟩ := Prod.mk.inj hK
    rw [hK2] at O
    refine xr_top (w := .int ro) (by rw [hK1]) ?_
    exact xr_iret X hr hlk O dX12_besides_73
  rw [if_neg hc61] at h
  refine lv_iload_n hx hb dX12_besides_64 rfl (lv_at hl 2 rfl) ?_
  refine lv_iconst (v := (1 : Int32)) hx hb dX12_besides_65 (by decide) ?_
  refine lv_iload_n hx hb dX12_besides_66 rfl (lv_at hl 0 rfl) ?_
  refine lv_iconst (v := (1 : Int32)) hx hb dX12_besides_67 (by decide) ?_
  refine lv_iadd hx hb dX12_besides_68 ?_
  refine lv_ishl hx hb dX12_besides_69 ?_
  refine lv_ior hx hb dX12_besides_70 ?_
  obtain ⟨t8, ht8, h⟩ := Option.bind_eq_some_iff.mp h
  refine xr_top (w := .int t8) (by rw [Option.some.inj ht8]) ?_
  refine lv_istore_n (lv' := [(3, .int t8), (1, .int v1), (2, .int v2)]) hx hb dX12_besides_71 rfl hl (by decide) rfl (fun ls hl => ?_)
  refine lv_iload_n hx hb dX12_besides_72 rfl (lv_at hl 0 rfl) ?_
  rw [← Option.some.inj h] at hK
  have hK : (t8, M) = (ro, mo) := hK
  obtain ⟨hK1, hK2⟩ := Prod.mk.inj hK
  rw [hK2] at O
  refine xr_top (w := .int ro) (by rw [hK1]) ?_
  exact xr_iret X hr hlk O dX12_besides_73
set_option maxRecDepth 100000 in
set_option maxHeartbeats 4000000 in
theorem F_X12_besides_41_ok (X : xX p s m args c cX12_besides 4 RX12 κ) (hr : meth.sig.returnType = (some .int)) (hlk : meth.locks = false) {ro : Int32} {mo : xM} (v1 : Int32) (v2 : Int32) (v3 : Int32) (M : xM) (x : Int32 × xM) (h : F_X12_besides_41 v1 v2 v3 M = some x) (hK : (fun o => o = (ro, mo)) x) (H : Heap) (locs : List Loc) (ls : Array Slot) (O : xO κ s M H locs) (hl : lv_has ls 4 [(1, .int v1), (2, .int v2), (3, .int v3)]) : W p l e (xRm 4 0 0) s m args below meth c H locs 0 0 (xQf below args s 0 0 κ (some (.int ro)) mo) (F0 m 41 ls []) := by
  unfold F_X12_besides_41 at h
  have hx := X.1
  have hb := X.2.1
  refine lv_iload_n hx hb dX12_besides_41 rfl (lv_at hl 0 rfl) ?_
  refine lv_iload_n hx hb dX12_besides_42 rfl (lv_at hl 1 rfl) ?_
  by_cases hz43 : v2 = 0
  · rw [if_pos hz43] at h; cases h
  rw [if_neg hz43] at h
  refine lv_irem hx hb dX12_besides_43 hz43 ?_
  refine lv_if_le (tgt := 55) hx hb dX12_besides_44 (by decide) (fun hc44 => ?_) (fun hc44 => ?_)
  · rw [if_pos hc44] at h
    exact F_X12_besides_55_ok X hr hlk v1 v2 v3 M _ h hK H locs ls O (lv_sub hl [0, 1, 2] rfl)
  rw [if_neg hc44] at h
  refine lv_iload_n hx hb dX12_besides_47 rfl (lv_at hl 2 rfl) ?_
  refine lv_iconst (v := (1 : Int32)) hx hb dX12_besides_48 (by decide) ?_
  refine lv_iload_n hx hb dX12_besides_49 rfl (lv_at hl 0 rfl) ?_
  refine lv_iconst (v := (1 : Int32)) hx hb dX12_besides_50 (by decide) ?_
  refine lv_isub hx hb dX12_besides_51 ?_
  refine lv_ishl hx hb dX12_besides_52 ?_
  refine lv_ior hx hb dX12_besides_53 ?_
  obtain ⟨t7, ht7, h⟩ := Option.bind_eq_some_iff.mp h
  refine xr_top (w := .int t7) (by rw [Option.some.inj ht7]) ?_
  refine lv_istore_n (lv' := [(3, .int t7), (1, .int v1), (2, .int v2)]) hx hb dX12_besides_54 rfl hl (by decide) rfl (fun ls hl => ?_)
  exact F_X12_besides_55_ok X hr hlk v1 v2 t7 M _ h hK H locs ls O (lv_sub hl [1, 2, 0] rfl)
set_option maxRecDepth 100000 in
set_option maxHeartbeats 4000000 in
theorem F_X12_besides_22_ok (X : xX p s m args c cX12_besides 4 RX12 κ) (hr : meth.sig.returnType = (some .int)) (hlk : meth.locks = false) {ro : Int32} {mo : xM} (v0 : Nat) (v1 : Int32) (v2 : Int32) (v3 : Int32) (M : xM) (x : Int32 × xM) (h : F_X12_besides_22 v0 v1 v2 v3 M = some x) (hK : (fun o => o = (ro, mo)) x) (H : Heap) (locs : List Loc) (ls : Array Slot) (O : xO κ s M H locs) (hl : lv_has ls 4 [(0, .ref (κ.1 + v0)), (1, .int v1), (2, .int v2), (3, .int v3)]) : W p l e (xRm 4 0 0) s m args below meth c H locs 0 0 (xQf below args s 0 0 κ (some (.int ro)) mo) (F0 m 22 ls []) := by
  unfold F_X12_besides_22 at h
  have hx := X.1
  have hb := X.2.1
  refine lv_aload_n hx hb dX12_besides_22 rfl (lv_at hl 0 rfl) ?_
  refine lv_iload_n hx hb dX12_besides_23 rfl (lv_at hl 1 rfl) ?_
  refine lv_iload_n hx hb dX12_besides_24 rfl (lv_at hl 2 rfl) ?_
  refine lv_iadd hx hb dX12_besides_25 ?_
  refine lv_i2l (v := (v1 + v2).toInt64) hx hb dX12_besides_26 rfl ?_
  obtain ⟨_, hut4, h⟩ := Option.bind_eq_some_iff.mp h
  obtain ⟨t5, ht5, h⟩ := Option.bind_eq_some_iff.mp h
  refine xr_callV (rest := []) X O (T_X12_isCell l κ v0 (v1 + v2).toInt64 M _ _ ht5) lk_X12_230 hut4 (Nat.le_of_ble_eq_true rfl) rfl hl.1 rfl (Nat.le_of_ble_eq_true rfl) dX12_besides_27 ⟨Nat.le_of_ble_eq_true rfl, Nat.le_of_ble_eq_true rfl⟩ (fun H locs O => ?_)
  refine W.eq (g2 := F0 m 30 ls [.int t5.1]) rfl ?_
  refine lv_if_eq (tgt := 41) hx hb dX12_besides_30 (by decide) (fun hc30 => ?_) (fun hc30 => ?_)
  · rw [if_pos hc30] at h
    exact F_X12_besides_41_ok X hr hlk v1 v2 v3 t5.2 _ h hK H locs ls O (lv_sub hl [1, 2, 3] rfl)
  rw [if_neg hc30] at h
  refine lv_iload_n hx hb dX12_besides_33 rfl (lv_at hl 3 rfl) ?_
  refine lv_iconst (v := (1 : Int32)) hx hb dX12_besides_34 (by decide) ?_
  refine lv_iload_n hx hb dX12_besides_35 rfl (lv_at hl 1 rfl) ?_
  refine lv_iload_n hx hb dX12_besides_36 rfl (lv_at hl 2 rfl) ?_
  refine lv_iadd hx hb dX12_besides_37 ?_
  refine lv_ishl hx hb dX12_besides_38 ?_
  refine lv_ior hx hb dX12_besides_39 ?_
  obtain ⟨t6, ht6, h⟩ := Option.bind_eq_some_iff.mp h
  refine xr_top (w := .int t6) (by rw [Option.some.inj ht6]) ?_
  refine lv_istore_n (lv' := [(3, .int t6), (0, .ref (κ.1 + v0)), (1, .int v1), (2, .int v2)]) hx hb dX12_besides_40 rfl hl (by decide) rfl (fun ls hl => ?_)
  exact F_X12_besides_41_ok X hr hlk v1 v2 t6 t5.2 _ h hK H locs ls O (lv_sub hl [2, 3, 0] rfl)
set_option maxRecDepth 100000 in
set_option maxHeartbeats 4000000 in
theorem T_X12_besides (l : Launch) (κ : xQ) (a0 : Nat) (a1 : Int32) (M : xM) (ro : Int32) (mo : xM) (h : F_X12_besides a0 a1 M = some (ro, mo)) : xC l yX12_besides cX12_besides 4 (some .int) 4 0 0 κ [.ref (κ.1 + a0), .int a1] M (some (.int ro)) mo := by
  refine xC_of rfl (Nat.le_of_ble_eq_true rfl) fun p e s m args below meth c X hr hlk hnm H locs ls O hl => ?_
  have X : xX p s m args c cX12_besides 4 RX12 κ := X
  have hl : lv_has ls 4 [(0, .ref (κ.1 + a0)), (1, .int a1)] := hl
  have hx := X.1
  have hb := X.2.1
  obtain ⟨x, hx0⟩ : ∃ x, (ro, mo) = x := ⟨_, rfl⟩
  rw [hx0] at h
  have hK : x = (ro, mo) := hx0.symm
  unfold F_X12_besides at h
  refine lv_aload_n hx hb dX12_besides_0 rfl (lv_at hl 0 rfl) ?_
  obtain ⟨t1, ht1, h⟩ := Option.bind_eq_some_iff.mp h
  refine xr_getP X O ht1 fl_X12_13 dX12_besides_1 ?_
  refine lv_iconst (v := (2 : Int32)) hx hb dX12_besides_4 (by decide) ?_
  obtain ⟨t2, ht2, h⟩ := Option.bind_eq_some_iff.mp h
  refine xr_aldI X O ht2 dX12_besides_5 ?_
  refine lv_istore_n (lv' := [(2, .int t2), (0, .ref (κ.1 + a0)), (1, .int a1)]) hx hb dX12_besides_6 rfl hl (by decide) rfl (fun ls hl => ?_)
  refine lv_iconst (v := (0 : Int32)) hx hb dX12_besides_7 (by decide) ?_
  refine lv_istore_n (lv' := [(3, .int (0 : Int32)), (2, .int t2), (0, .ref (κ.1 + a0)), (1, .int a1)]) hx hb dX12_besides_8 rfl hl (by decide) rfl (fun ls hl => ?_)
  refine lv_iload_n hx hb dX12_besides_9 rfl (lv_at hl 3 rfl) ?_
  refine lv_iload_n hx hb dX12_besides_10 rfl (lv_at hl 1 rfl) ?_
  refine lv_icmp_lt (tgt := 22) hx hb dX12_besides_11 (by decide) (fun hc11 => ?_) (fun hc11 => ?_)
  · rw [if_pos hc11] at h
    exact F_X12_besides_22_ok X hr hlk a0 a1 t2 (0 : Int32) M _ h hK H locs ls O (lv_sub hl [2, 3, 1, 0] rfl)
  rw [if_neg hc11] at h
  refine lv_iload_n hx hb dX12_besides_14 rfl (lv_at hl 0 rfl) ?_
  refine lv_iconst (v := (1 : Int32)) hx hb dX12_besides_15 (by decide) ?_
  refine lv_iload_n hx hb dX12_besides_16 rfl (lv_at hl 3 rfl) ?_
  refine lv_iload_n hx hb dX12_besides_17 rfl (lv_at hl 1 rfl) ?_
  refine lv_isub hx hb dX12_besides_18 ?_
  refine lv_ishl hx hb dX12_besides_19 ?_
  refine lv_ior hx hb dX12_besides_20 ?_
  obtain ⟨t3, ht3, h⟩ := Option.bind_eq_some_iff.mp h
  refine xr_top (w := .int t3) (by rw [Option.some.inj ht3]) ?_
  refine lv_istore_n (lv' := [(3, .int t3), (2, .int t2), (0, .ref (κ.1 + a0)), (1, .int a1)]) hx hb dX12_besides_21 rfl hl (by decide) rfl (fun ls hl => ?_)
  exact F_X12_besides_22_ok X hr hlk a0 a1 t2 t3 M _ h hK H locs ls O (lv_sub hl [2, 3, 1, 0] rfl)
def F_X12_standing (a0 : Nat) (M : xM) : Option (Int32 × xM) :=
(xgP M a0 12 1).bind fun t1 =>
(xaI M 20 t1 (92 : Int32)).bind fun t2 =>
(xgP M a0 12 1).bind fun t3 =>
(xaI M 20 t3 (105 : Int32)).bind fun t4 =>
some (((((1 : Int32) <<< (t2 &&& 31)) - (1 : Int32)) &&& (t4 ^^^ (-1 : Int32))), M)
set_option maxRecDepth 100000 in
set_option maxHeartbeats 4000000 in
theorem T_X12_standing (l : Launch) (κ : xQ) (a0 : Nat) (M : xM) (ro : Int32) (mo : xM) (h : F_X12_standing a0 M = some (ro, mo)) : xC l yX12_standing cX12_standing 1 (some .int) 2 0 0 κ [.ref (κ.1 + a0)] M (some (.int ro)) mo := by
  refine xC_of rfl (Nat.le_of_ble_eq_true rfl) fun p e s m args below meth c X hr hlk hnm H locs ls O hl => ?_
  have X : xX p s m args c cX12_standing 1 RX12 κ := X
  have hl : lv_has ls 1 [(0, .ref (κ.1 + a0))] := hl
  have hx := X.1
  have hb := X.2.1
  obtain ⟨x, hx0⟩ : ∃ x, (ro, mo) = x := ⟨_, rfl⟩
  rw [hx0] at h
  have hK : x = (ro, mo) := hx0.symm
  unfold F_X12_standing at h
  refine lv_iconst (v := (1 : Int32)) hx hb dX12_standing_0 (by decide) ?_
  refine lv_aload_n hx hb dX12_standing_1 rfl (lv_at hl 0 rfl) ?_
  obtain ⟨t1, ht1, h⟩ := Option.bind_eq_some_iff.mp h
  refine xr_getP X O ht1 fl_X12_13 dX12_standing_2 ?_
  refine lv_bipush (v := (92 : Int32)) hx hb dX12_standing_5 (by decide) ?_
  obtain ⟨t2, ht2, h⟩ := Option.bind_eq_some_iff.mp h
  refine xr_aldI X O ht2 dX12_standing_7 ?_
  refine lv_ishl hx hb dX12_standing_8 ?_
  refine lv_iconst (v := (1 : Int32)) hx hb dX12_standing_9 (by decide) ?_
  refine lv_isub hx hb dX12_standing_10 ?_
  refine lv_aload_n hx hb dX12_standing_11 rfl (lv_at hl 0 rfl) ?_
  obtain ⟨t3, ht3, h⟩ := Option.bind_eq_some_iff.mp h
  refine xr_getP X O ht3 fl_X12_13 dX12_standing_12 ?_
  refine lv_bipush (v := (105 : Int32)) hx hb dX12_standing_15 (by decide) ?_
  obtain ⟨t4, ht4, h⟩ := Option.bind_eq_some_iff.mp h
  refine xr_aldI X O ht4 dX12_standing_17 ?_
  refine lv_iconst (v := (-1 : Int32)) hx hb dX12_standing_18 (by decide) ?_
  refine lv_ixor hx hb dX12_standing_19 ?_
  refine lv_iand hx hb dX12_standing_20 ?_
  rw [← Option.some.inj h] at hK
  have hK : (((((1 : Int32) <<< (t2 &&& 31)) - (1 : Int32)) &&& (t4 ^^^ (-1 : Int32))), M) = (ro, mo) := hK
  obtain ⟨hK1, hK2⟩ := Prod.mk.inj hK
  rw [hK2] at O
  refine xr_top (w := .int ro) (by rw [hK1]) ?_
  exact xr_iret X hr hlk O dX12_standing_21
end G
