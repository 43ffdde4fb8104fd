section G
variable {p : Program} {l : Launch} {e : Env} {s : State} {m : MethodId} {args : Array Value} {below : List Frame} {meth : Method} {c : Code} {κ : xQ}
def F_X12_mostOften_100 (v0 : Nat) (v1 : Int32) (v2 : Int32) (v3 : Int32) (v4 : Int32) (M : xM) : Option ((Int32 × Int32 × xM) ⊕ (Int32 × xM)) :=
some (.inl (v3, (v4 + 1), M))
def F_X12_mostOften_99 (v0 : Nat) (v1 : Int32) (v2 : Int32) (v4 : Int32) (s0 : Int32) (M : xM) : Option ((Int32 × Int32 × xM) ⊕ (Int32 × xM)) :=
F_X12_mostOften_100 v0 v1 v2 s0 v4 M
def F_X12_mostOften_106 (v3 : Int32) (M : xM) : Option (Int32 × xM) :=
some (v3, M)
def F_X12_mostOften_29b (v0 : Nat) (v1 : Int32) (v2 : Int32) : (Int32 × Int32 × xM) → Option ((Int32 × Int32 × xM) ⊕ (Int32 × xM)) := fun ⟨v3, v4, M⟩ =>
if (10 : Int32) ≤ v4 then (
(F_X12_mostOften_106 v3 M).map Sum.inr)
else (
(F_X12_isIn v2.toInt64 v4 M).bind fun t3 =>
if t3.1 = 0 then (
F_X12_mostOften_100 v0 v1 v2 v3 v4 t3.2)
else (
(xgP t3.2 v0 12 1).bind fun t4 =>
(xaI t3.2 20 t4 (107 : Int32)).bind fun t5 =>
(xck t3.2 v0 12).bind fun _ =>
(F_X12_levelOf v0 (t5 + v1) v4 t3.2).bind fun t7 =>
(xgP t7.2 v0 12 30).bind fun t8 =>
(xaI t7.2 20 t8 t7.1).bind fun t9 =>
(xsI t7.2 t8 t7.1 (t9 + (1 : Int32))).bind fun t10 =>
(xgP t10 v0 12 30).bind fun t11 =>
(xaI t10 20 t11 t7.1).bind fun t12 =>
if t12 ≤ v3 then (
F_X12_mostOften_99 v0 v1 v2 v4 v3 t10)
else (
(xgP t10 v0 12 30).bind fun t13 =>
(xaI t10 20 t13 t7.1).bind fun t14 =>
F_X12_mostOften_99 v0 v1 v2 v4 t14 t10)))
def F_X12_mostOften_29 (v0 : Nat) (v1 : Int32) (v2 : Int32) (v3 : Int32) (v4 : Int32) (M : xM) : Option (Int32 × xM) := xit (F_X12_mostOften_29b v0 v1 v2) xFU (v3, v4, M)
def F_X12_mostOften_26 (v0 : Nat) (v1 : Int32) (v2 : Int32) (v3 : Int32) (M : xM) : Option (Int32 × xM) :=
F_X12_mostOften_29 v0 v1 v2 v3 (0 : Int32) M
def F_X12_mostOften_5b (v0 : Nat) (v1 : Int32) (v2 : Int32) (v3 : Int32) : (Int32 × xM) → Option ((Int32 × xM) ⊕ (Int32 × xM)) := fun ⟨v4, M⟩ =>
if (10 : Int32) < v4 then (
(F_X12_mostOften_26 v0 v1 v2 v3 M).map Sum.inr)
else (
(xgP M v0 12 30).bind fun t1 =>
(xsI M t1 v4 (0 : Int32)).bind fun t2 =>
some (.inl ((v4 + 1), t2)))
def F_X12_mostOften_5 (v0 : Nat) (v1 : Int32) (v2 : Int32) (v3 : Int32) (v4 : Int32) (M : xM) : Option (Int32 × xM) := xit (F_X12_mostOften_5b v0 v1 v2 v3) xFU (v4, M)
def F_X12_mostOften (a0 : Nat) (a1 : Int32) (a2 : Int32) (M : xM) : Option (Int32 × xM) :=
F_X12_mostOften_5 a0 a1 a2 (0 : Int32) (0 : Int32) M
set_option maxRecDepth 100000 in
set_option maxHeartbeats 4000000 in
theorem F_X12_mostOften_100_ok (X : xX p s m args c cX12_mostOften 6 RX12 κ) (hr : meth.sig.returnType = (some .int)) (hlk : meth.locks = false) {ro : Int32} {mo : xM} (v0 : Nat) (v1 : Int32) (v2 : Int32) (v3 : Int32) (v4 : Int32) {W29 : Int32 × Int32 × xM → Prop} (hW29 : ∀ (v3 : Int32) (v4 : Int32) (M : xM), W29 (v3, v4, M) → ∀ (H : Heap) (locs : List Loc) (ls : Array Slot), xO κ s M H locs → lv_has ls 6 [(0, .ref (κ.1 + v0)), (1, .int v1), (2, .int v2), (3, .int v3), (4, .int v4)] → W p l e (xRm 5 0 0) s m args below meth c H locs 0 0 (xQf below args s 0 0 κ (some (.int ro)) mo) (F0 m 29 ls [])) (M : xM) (x : (Int32 × Int32 × xM) ⊕ (Int32 × xM)) (h : F_X12_mostOften_100 v0 v1 v2 v3 v4 M = some x) (hK : (xKl W29 (fun o => o = (ro, mo))) x) (H : Heap) (locs : List Loc) (ls : Array Slot) (O : xO κ s M H locs) (hl : lv_has ls 6 [(0, .ref (κ.1 + v0)), (1, .int v1), (2, .int v2), (3, .int v3), (4, .int v4)]) : W p l e (xRm 5 0 0) s m args below meth c H locs 0 0 (xQf below args s 0 0 κ (some (.int ro)) mo) (F0 m 100 ls []) := by
  unfold F_X12_mostOften_100 at h
  have hx := X.1
  have hb := X.2.1
  refine lv_iinc (v := (v4 + 1)) (lv' := [(4, .int (v4 + 1)), (0, .ref (κ.1 + v0)), (1, .int v1), (2, .int v2), (3, .int v3)]) hx hb dX12_mostOften_100 hl (k := 4) rfl rfl (by decide) rfl (fun ls hl => ?_)
  refine lv_goto (tgt := 29) hx hb dX12_mostOften_103 (by decide) ?_
  rw [← Option.some.inj h] at hK
  exact hW29 v3 (v4 + 1) M hK H locs ls O (lv_sub hl [1, 2, 3, 4, 0] rfl)
set_option maxRecDepth 100000 in
set_option maxHeartbeats 4000000 in
theorem F_X12_mostOften_99_ok (X : xX p s m args c cX12_mostOften 6 RX12 κ) (hr : meth.sig.returnType = (some .int)) (hlk : meth.locks = false) {ro : Int32} {mo : xM} (v0 : Nat) (v1 : Int32) (v2 : Int32) (v4 : Int32) (s0 : Int32) {W29 : Int32 × Int32 × xM → Prop} (hW29 : ∀ (v3 : Int32) (v4 : Int32) (M : xM), W29 (v3, v4, M) → ∀ (H : Heap) (locs : List Loc) (ls : Array Slot), xO κ s M H locs → lv_has ls 6 [(0, .ref (κ.1 + v0)), (1, .int v1), (2, .int v2), (3, .int v3), (4, .int v4)] → W p l e (xRm 5 0 0) s m args below meth c H locs 0 0 (xQf below args s 0 0 κ (some (.int ro)) mo) (F0 m 29 ls [])) (M : xM) (x : (Int32 × Int32 × xM) ⊕ (Int32 × xM)) (h : F_X12_mostOften_99 v0 v1 v2 v4 s0 M = some x) (hK : (xKl W29 (fun o => o = (ro, mo))) x) (H : Heap) (locs : List Loc) (ls : Array Slot) (O : xO κ s M H locs) (hl : lv_has ls 6 [(0, .ref (κ.1 + v0)), (1, .int v1), (2, .int v2), (4, .int v4)]) : W p l e (xRm 5 0 0) s m args below meth c H locs 0 0 (xQf below args s 0 0 κ (some (.int ro)) mo) (F0 m 99 ls [.int s0]) := by
  unfold F_X12_mostOften_99 at h
  have hx := X.1
  have hb := X.2.1
  refine lv_istore_n (lv' := [(3, .int s0), (0, .ref (κ.1 + v0)), (1, .int v1), (2, .int v2), (4, .int v4)]) hx hb dX12_mostOften_99 rfl hl (by decide) rfl (fun ls hl => ?_)
  exact F_X12_mostOften_100_ok X hr hlk v0 v1 v2 s0 v4 hW29 M _ h hK H locs ls O (lv_sub hl [1, 2, 3, 0, 4] rfl)
set_option maxRecDepth 100000 in
set_option maxHeartbeats 4000000 in
theorem F_X12_mostOften_106_ok (X : xX p s m args c cX12_mostOften 6 RX12 κ) (hr : meth.sig.returnType = (some .int)) (hlk : meth.locks = false) {ro : Int32} {mo : xM} (v3 : Int32) (M : xM) (x : Int32 × xM) (h : F_X12_mostOften_106 v3 M = some x) (hK : (fun o => o = (ro, mo)) x) (H : Heap) (locs : List Loc) (ls : Array Slot) (O : xO κ s M H locs) (hl : lv_has ls 6 [(3, .int v3)]) : W p l e (xRm 5 0 0) s m args below meth c H locs 0 0 (xQf below args s 0 0 κ (some (.int ro)) mo) (F0 m 106 ls []) := by
  unfold F_X12_mostOften_106 at h
  have hx := X.1
  have hb := X.2.1
  refine lv_iload_n hx hb dX12_mostOften_106 rfl (lv_at hl 0 rfl) ?_
  rw [← Option.some.inj h] at hK
  have hK : (v3, M) = (ro, mo) := hK
  obtain ⟨hK1, hK2⟩ := Prod.mk.inj hK
  rw [hK2] at O
  refine xr_top (w := .int ro) (by rw [hK1]) ?_
  exact xr_iret X hr hlk O dX12_mostOften_107
set_option maxRecDepth 100000 in
set_option maxHeartbeats 4000000 in
theorem F_X12_mostOften_29_bok (X : xX p s m args c cX12_mostOften 6 RX12 κ) (hr : meth.sig.returnType = (some .int)) (hlk : meth.locks = false) {ro : Int32} {mo : xM} (v0 : Nat) (v1 : Int32) (v2 : Int32) (v3 : Int32) (v4 : Int32) {W29 : Int32 × Int32 × xM → Prop} (hW29 : ∀ (v3 : Int32) (v4 : Int32) (M : xM), W29 (v3, v4, M) → ∀ (H : Heap) (locs : List Loc) (ls : Array Slot), xO κ s M H locs → lv_has ls 6 [(0, .ref (κ.1 + v0)), (1, .int v1), (2, .int v2), (3, .int v3), (4, .int v4)] → W p l e (xRm 5 0 0) s m args below meth c H locs 0 0 (xQf below args s 0 0 κ (some (.int ro)) mo) (F0 m 29 ls [])) (M : xM) (x : (Int32 × Int32 × xM) ⊕ (Int32 × xM)) (h : F_X12_mostOften_29b v0 v1 v2 (v3, v4, M) = some x) (hK : (xKl W29 (fun o => o = (ro, mo))) x) (H : Heap) (locs : List Loc) (ls : Array Slot) (O : xO κ s M H locs) (hl : lv_has ls 6 [(0, .ref (κ.1 + v0)), (1, .int v1), (2, .int v2), (3, .int v3), (4, .int v4)]) : W p l e (xRm 5 0 0) s m args below meth c H locs 0 0 (xQf below args s 0 0 κ (some (.int ro)) mo) (F0 m 29 ls []) := by
  unfold F_X12_mostOften_29b at h
  dsimp only at h
  have hx := X.1
  have hb := X.2.1
  refine lv_iload hx hb dX12_mostOften_29 (lv_at hl 4 rfl) ?_
  refine lv_bipush (v := (10 : Int32)) hx hb dX12_mostOften_31 (by decide) ?_
  refine lv_icmp_ge (tgt := 106) hx hb dX12_mostOften_33 (by decide) (fun hc33 => ?_) (fun hc33 => ?_)
  · rw [if_pos hc33] at h
    obtain ⟨_, hw0, ew0⟩ := Option.map_eq_some_iff.mp h
    rw [← ew0] at hK
    have h := hw0
    exact F_X12_mostOften_106_ok X hr hlk v3 M _ h hK H locs ls O (lv_sub hl [3] rfl)
  rw [if_neg hc33] at h
  refine lv_iload_n hx hb dX12_mostOften_36 rfl (lv_at hl 2 rfl) ?_
  refine lv_i2l (v := v2.toInt64) hx hb dX12_mostOften_37 rfl ?_
  refine lv_iload hx hb dX12_mostOften_38 (lv_at hl 4 rfl) ?_
  obtain ⟨t3, ht3, h⟩ := Option.bind_eq_some_iff.mp h
  refine xr_callS (rest := []) X O (T_X12_isIn l κ v2.toInt64 v4 M _ _ ht3) lk_X12_253 (Nat.le_of_ble_eq_true rfl) rfl hl.1 rfl (Nat.le_of_ble_eq_true rfl) dX12_mostOften_40 ⟨Nat.le_of_ble_eq_true rfl, Nat.le_of_ble_eq_true rfl⟩ (fun H locs O => ?_)
  refine W.eq (g2 := F0 m 43 ls [.int t3.1]) rfl ?_
  refine lv_if_ne (tgt := 49) hx hb dX12_mostOften_43 (by decide) (fun hc43 => ?_) (fun hc43 => ?_)
  · rw [if_neg hc43] at h
    refine lv_aload_n hx hb dX12_mostOften_49 rfl (lv_at hl 0 rfl) ?_
    refine lv_aload_n hx hb dX12_mostOften_50 rfl (lv_at hl 0 rfl) ?_
    obtain ⟨t4, ht4, h⟩ := Option.bind_eq_some_iff.mp h
    refine xr_getP X O ht4 fl_X12_13 dX12_mostOften_51 ?_
    refine lv_bipush (v := (107 : Int32)) hx hb dX12_mostOften_54 (by decide) ?_
    obtain ⟨t5, ht5, h⟩ := Option.bind_eq_some_iff.mp h
    refine xr_aldI X O ht5 dX12_mostOften_56 ?_
    refine lv_iload_n hx hb dX12_mostOften_57 rfl (lv_at hl 1 rfl) ?_
    refine lv_iadd hx hb dX12_mostOften_58 ?_
    refine lv_iload hx hb dX12_mostOften_59 (lv_at hl 4 rfl) ?_
    obtain ⟨_, hut6, h⟩ := Option.bind_eq_some_iff.mp h
    obtain ⟨t7, ht7, h⟩ := Option.bind_eq_some_iff.mp h
    refine xr_callV (rest := []) X O (T_X12_levelOf l κ v0 (t5 + v1) v4 t3.2 _ _ ht7) lk_X12_263 hut6 (Nat.le_of_ble_eq_true rfl) rfl hl.1 rfl (Nat.le_of_ble_eq_true rfl) dX12_mostOften_61 ⟨Nat.le_of_ble_eq_true rfl, Nat.le_of_ble_eq_true rfl⟩ (fun H locs O => ?_)
    refine W.eq (g2 := F0 m 64 ls [.int t7.1]) rfl ?_
    refine lv_istore (lv' := [(5, .int t7.1), (0, .ref (κ.1 + v0)), (1, .int v1), (2, .int v2), (3, .int v3), (4, .int v4)]) hx hb dX12_mostOften_64 hl (by decide) rfl (fun ls hl => ?_)
    refine lv_aload_n hx hb dX12_mostOften_66 rfl (lv_at hl 1 rfl) ?_
    obtain ⟨t8, ht8, h⟩ := Option.bind_eq_some_iff.mp h
    refine xr_getP X O ht8 fl_X12_60 dX12_mostOften_67 ?_
    refine lv_iload hx hb dX12_mostOften_70 (lv_at hl 0 rfl) ?_
    refine lv_dup2_11 hx hb dX12_mostOften_72 rfl rfl ?_
    obtain ⟨t9, ht9, h⟩ := Option.bind_eq_some_iff.mp h
    refine xr_aldI X O ht9 dX12_mostOften_73 ?_
    refine lv_iconst (v := (1 : Int32)) hx hb dX12_mostOften_74 (by decide) ?_
    refine lv_iadd hx hb dX12_mostOften_75 ?_
    obtain ⟨t10, ht10, h⟩ := Option.bind_eq_some_iff.mp h
    refine xr_stI X O ht10 dX12_mostOften_76 (fun H locs O => ?_)
    refine lv_aload_n hx hb dX12_mostOften_77 rfl (lv_at hl 1 rfl) ?_
    obtain ⟨t11, ht11, h⟩ := Option.bind_eq_some_iff.mp h
    refine xr_getP X O ht11 fl_X12_60 dX12_mostOften_78 ?_
    refine lv_iload hx hb dX12_mostOften_81 (lv_at hl 0 rfl) ?_
    obtain ⟨t12, ht12, h⟩ := Option.bind_eq_some_iff.mp h
    refine xr_aldI X O ht12 dX12_mostOften_83 ?_
    refine lv_iload_n hx hb dX12_mostOften_84 rfl (lv_at hl 4 rfl) ?_
    refine lv_icmp_le (tgt := 98) hx hb dX12_mostOften_85 (by decide) (fun hc85 => ?_) (fun hc85 => ?_)
    · rw [if_pos hc85] at h
      refine lv_iload_n hx hb dX12_mostOften_98 rfl (lv_at hl 4 rfl) ?_
      exact F_X12_mostOften_99_ok X hr hlk v0 v1 v2 v4 v3 hW29 t10 _ h hK H locs ls O (lv_sub hl [1, 2, 3, 5] rfl)
    rw [if_neg hc85] at h
    refine lv_aload_n hx hb dX12_mostOften_88 rfl (lv_at hl 1 rfl) ?_
    obtain ⟨t13, ht13, h⟩ := Option.bind_eq_some_iff.mp h
    refine xr_getP X O ht13 fl_X12_60 dX12_mostOften_89 ?_
    refine lv_iload hx hb dX12_mostOften_92 (lv_at hl 0 rfl) ?_
    obtain ⟨t14, ht14, h⟩ := Option.bind_eq_some_iff.mp h
    refine xr_aldI X O ht14 dX12_mostOften_94 ?_
    refine lv_goto (tgt := 99) hx hb dX12_mostOften_95 (by decide) ?_
    exact F_X12_mostOften_99_ok X hr hlk v0 v1 v2 v4 t14 hW29 t10 _ h hK H locs ls O (lv_sub hl [1, 2, 3, 5] rfl)
  rw [if_pos hc43] at h
  refine lv_goto (tgt := 100) hx hb dX12_mostOften_46 (by decide) ?_
  exact F_X12_mostOften_100_ok X hr hlk v0 v1 v2 v3 v4 hW29 t3.2 _ h hK H locs ls O (lv_sub hl [0, 1, 2, 3, 4] rfl)
set_option maxRecDepth 100000 in
set_option maxHeartbeats 4000000 in
theorem F_X12_mostOften_29_ok (X : xX p s m args c cX12_mostOften 6 RX12 κ) (hr : meth.sig.returnType = (some .int)) (hlk : meth.locks = false) {ro : Int32} {mo : xM} (v0 : Nat) (v1 : Int32) (v2 : Int32) (v3 : Int32) (v4 : Int32) (M : xM) (x : Int32 × xM) (h : F_X12_mostOften_29 v0 v1 v2 v3 v4 M = some x) (hK : (fun o => o = (ro, mo)) x) (H : Heap) (locs : List Loc) (ls : Array Slot) (O : xO κ s M H locs) (hl : lv_has ls 6 [(0, .ref (κ.1 + v0)), (1, .int v1), (2, .int v2), (3, .int v3), (4, .int v4)]) : W p l e (xRm 5 0 0) s m args below meth c H locs 0 0 (xQf below args s 0 0 κ (some (.int ro)) mo) (F0 m 29 ls []) := by
  refine xit_K (Wh := fun x => ∀ (H : Heap) (locs : List Loc) (ls : Array Slot), xO κ s x.2.2 H locs → lv_has ls 6 [(0, .ref (κ.1 + v0)), (1, .int v1), (2, .int v2), (3, .int x.1), (4, .int x.2.1)] → W p l e (xRm 5 0 0) s m args below meth c H locs 0 0 (xQf below args s 0 0 κ (some (.int ro)) mo) (F0 m 29 ls [])) (Kp := (fun o => o = (ro, mo))) ?_ xFU (v3, v4, M) x h hK H locs ls O hl
  intro y x h hK H locs ls O hl
  exact F_X12_mostOften_29_bok X hr hlk v0 v1 v2 y.1 y.2.1 (fun _ _ _ hw => hw) y.2.2 x h hK H locs ls O hl
set_option maxRecDepth 100000 in
set_option maxHeartbeats 4000000 in
theorem F_X12_mostOften_26_ok (X : xX p s m args c cX12_mostOften 6 RX12 κ) (hr : meth.sig.returnType = (some .int)) (hlk : meth.locks = false) {ro : Int32} {mo : xM} (v0 : Nat) (v1 : Int32) (v2 : Int32) (v3 : Int32) (M : xM) (x : Int32 × xM) (h : F_X12_mostOften_26 v0 v1 v2 v3 M = some x) (hK : (fun o => o = (ro, mo)) x) (H : Heap) (locs : List Loc) (ls : Array Slot) (O : xO κ s M H locs) (hl : lv_has ls 6 [(0, .ref (κ.1 + v0)), (1, .int v1), (2, .int v2), (3, .int v3)]) : W p l e (xRm 5 0 0) s m args below meth c H locs 0 0 (xQf below args s 0 0 κ (some (.int ro)) mo) (F0 m 26 ls []) := by
  unfold F_X12_mostOften_26 at h
  have hx := X.1
  have hb := X.2.1
  refine lv_iconst (v := (0 : Int32)) hx hb dX12_mostOften_26 (by decide) ?_
  refine lv_istore (lv' := [(4, .int (0 : Int32)), (0, .ref (κ.1 + v0)), (1, .int v1), (2, .int v2), (3, .int v3)]) hx hb dX12_mostOften_27 hl (by decide) rfl (fun ls hl => ?_)
  exact F_X12_mostOften_29_ok X hr hlk v0 v1 v2 v3 (0 : Int32) M _ h hK H locs ls O (lv_sub hl [1, 2, 3, 4, 0] rfl)
set_option maxRecDepth 100000 in
set_option maxHeartbeats 4000000 in
theorem F_X12_mostOften_5_bok (X : xX p s m args c cX12_mostOften 6 RX12 κ) (hr : meth.sig.returnType = (some .int)) (hlk : meth.locks = false) {ro : Int32} {mo : xM} (v0 : Nat) (v1 : Int32) (v2 : Int32) (v3 : Int32) (v4 : Int32) {W5 : Int32 × xM → Prop} (hW5 : ∀ (v4 : Int32) (M : xM), W5 (v4, M) → ∀ (H : Heap) (locs : List Loc) (ls : Array Slot), xO κ s M H locs → lv_has ls 6 [(0, .ref (κ.1 + v0)), (1, .int v1), (2, .int v2), (3, .int v3), (4, .int v4)] → W p l e (xRm 5 0 0) s m args below meth c H locs 0 0 (xQf below args s 0 0 κ (some (.int ro)) mo) (F0 m 5 ls [])) (M : xM) (x : (Int32 × xM) ⊕ (Int32 × xM)) (h : F_X12_mostOften_5b v0 v1 v2 v3 (v4, M) = some x) (hK : (xKl W5 (fun o => o = (ro, mo))) x) (H : Heap) (locs : List Loc) (ls : Array Slot) (O : xO κ s M H locs) (hl : lv_has ls 6 [(0, .ref (κ.1 + v0)), (1, .int v1), (2, .int v2), (3, .int v3), (4, .int v4)]) : W p l e (xRm 5 0 0) s m args below meth c H locs 0 0 (xQf below args s 0 0 κ (some (.int ro)) mo) (F0 m 5 ls []) := by
  unfold F_X12_mostOften_5b at h
  dsimp only at h
  have hx := X.1
  have hb := X.2.1
  refine lv_iload hx hb dX12_mostOften_5 (lv_at hl 4 rfl) ?_
  refine lv_bipush (v := (10 : Int32)) hx hb dX12_mostOften_7 (by decide) ?_
  refine lv_icmp_gt (tgt := 26) hx hb dX12_mostOften_9 (by decide) (fun hc9 => ?_) (fun hc9 => ?_)
  · rw [if_pos hc9] at h
    obtain ⟨_, hw0, ew0⟩ := Option.map_eq_some_iff.mp h
    rw [← ew0] at hK
    have h := hw0
    exact F_X12_mostOften_26_ok X hr hlk v0 v1 v2 v3 M _ h hK H locs ls O (lv_sub hl [0, 1, 2, 3] rfl)
  rw [if_neg hc9] at h
  refine lv_aload_n hx hb dX12_mostOften_12 rfl (lv_at hl 0 rfl) ?_
  obtain ⟨t1, ht1, h⟩ := Option.bind_eq_some_iff.mp h
  refine xr_getP X O ht1 fl_X12_60 dX12_mostOften_13 ?_
  refine lv_iload hx hb dX12_mostOften_16 (lv_at hl 4 rfl) ?_
  refine lv_iconst (v := (0 : Int32)) hx hb dX12_mostOften_18 (by decide) ?_
  obtain ⟨t2, ht2, h⟩ := Option.bind_eq_some_iff.mp h
  refine xr_stI X O ht2 dX12_mostOften_19 (fun H locs O => ?_)
  refine lv_iinc (v := (v4 + 1)) (lv' := [(4, .int (v4 + 1)), (0, .ref (κ.1 + v0)), (1, .int v1), (2, .int v2), (3, .int v3)]) hx hb dX12_mostOften_20 hl (k := 4) rfl rfl (by decide) rfl (fun ls hl => ?_)
  refine lv_goto (tgt := 5) hx hb dX12_mostOften_23 (by decide) ?_
  rw [← Option.some.inj h] at hK
  exact hW5 (v4 + 1) t2 hK H locs ls O (lv_sub hl [1, 2, 3, 4, 0] rfl)
set_option maxRecDepth 100000 in
set_option maxHeartbeats 4000000 in
theorem F_X12_mostOften_5_ok (X : xX p s m args c cX12_mostOften 6 RX12 κ) (hr : meth.sig.returnType = (some .int)) (hlk : meth.locks = false) {ro : Int32} {mo : xM} (v0 : Nat) (v1 : Int32) (v2 : Int32) (v3 : Int32) (v4 : Int32) (M : xM) (x : Int32 × xM) (h : F_X12_mostOften_5 v0 v1 v2 v3 v4 M = some x) (hK : (fun o => o = (ro, mo)) x) (H : Heap) (locs : List Loc) (ls : Array Slot) (O : xO κ s M H locs) (hl : lv_has ls 6 [(0, .ref (κ.1 + v0)), (1, .int v1), (2, .int v2), (3, .int v3), (4, .int v4)]) : W p l e (xRm 5 0 0) s m args below meth c H locs 0 0 (xQf below args s 0 0 κ (some (.int ro)) mo) (F0 m 5 ls []) := by
  refine xit_K (Wh := fun x => ∀ (H : Heap) (locs : List Loc) (ls : Array Slot), xO κ s x.2 H locs → lv_has ls 6 [(0, .ref (κ.1 + v0)), (1, .int v1), (2, .int v2), (3, .int v3), (4, .int x.1)] → W p l e (xRm 5 0 0) s m args below meth c H locs 0 0 (xQf below args s 0 0 κ (some (.int ro)) mo) (F0 m 5 ls [])) (Kp := (fun o => o = (ro, mo))) ?_ xFU (v4, M) x h hK H locs ls O hl
  intro y x h hK H locs ls O hl
  exact F_X12_mostOften_5_bok X hr hlk v0 v1 v2 v3 y.1 (fun _ _ hw => hw) y.2 x h hK H locs ls O hl
set_option maxRecDepth 100000 in
set_option maxHeartbeats 4000000 in
theorem T_X12_mostOften (l : Launch) (κ : xQ) (a0 : Nat) (a1 : Int32) (a2 : Int32) (M : xM) (ro : Int32) (mo : xM) (h : F_X12_mostOften a0 a1 a2 M = some (ro, mo)) : xC l yX12_mostOften cX12_mostOften 6 (some .int) 5 0 0 κ [.ref (κ.1 + a0), .int a1, .int a2] M (some (.int ro)) mo := by
  refine xC_of rfl (Nat.le_of_ble_eq_true rfl) fun p e s m args below meth c X hr hlk hnm H locs ls O hl => ?_
  have X : xX p s m args c cX12_mostOften 6 RX12 κ := X
  have hl : lv_has ls 6 [(0, .ref (κ.1 + a0)), (1, .int a1), (2, .int a2)] := hl
  have hx := X.1
  have hb := X.2.1
  obtain ⟨x, hx0⟩ : ∃ x, (ro, mo) = x := ⟨_, rfl⟩
  rw [hx0] at h
  have hK : x = (ro, mo) := hx0.symm
  unfold F_X12_mostOften at h
  refine lv_iconst (v := (0 : Int32)) hx hb dX12_mostOften_0 (by decide) ?_
  refine lv_istore_n (lv' := [(3, .int (0 : Int32)), (0, .ref (κ.1 + a0)), (1, .int a1), (2, .int a2)]) hx hb dX12_mostOften_1 rfl hl (by decide) rfl (fun ls hl => ?_)
  refine lv_iconst (v := (0 : Int32)) hx hb dX12_mostOften_2 (by decide) ?_
  refine lv_istore (lv' := [(4, .int (0 : Int32)), (3, .int (0 : Int32)), (0, .ref (κ.1 + a0)), (1, .int a1), (2, .int a2)]) hx hb dX12_mostOften_3 hl (by decide) rfl (fun ls hl => ?_)
  exact F_X12_mostOften_5_ok X hr hlk a0 a1 a2 (0 : Int32) (0 : Int32) M _ h hK H locs ls O (lv_sub hl [2, 3, 4, 1, 0] rfl)
def F_X12_look_72 (v0 : Nat) (v3 : Int32) (v4 : Int32) (v5 : Int32) (v6 : Int32) (M : xM) : Option ((Int32 × Int32 × Int32 × xM) ⊕ (Int32 × xM)) :=
some (.inl (v4, v5, (v6 + 1), M))
def F_X12_look_78 (v4 : Int32) (M : xM) : Option (Int32 × xM) :=
some (v4, M)
def F_X12_look_34b (v0 : Nat) (v3 : Int32) : (Int32 × Int32 × Int32 × xM) → Option ((Int32 × Int32 × Int32 × xM) ⊕ (Int32 × xM)) := fun ⟨v4, v5, v6, M⟩ =>
if (100 : Int32) ≤ v6 then (
(F_X12_look_78 v4 M).map Sum.inr)
else (
if v3 = 0 then (
(F_X12_look_78 v4 M).map Sum.inr)
else (
(xck M v0 12).bind fun _ =>
(F_X12_mostOften v0 v6 v3 M).bind fun t7 =>
if t7.1 < v5 then (
F_X12_look_72 v0 v3 v6 t7.1 v6 t7.2)
else (
F_X12_look_72 v0 v3 v4 v5 v6 t7.2)))
def F_X12_look_34 (v0 : Nat) (v3 : Int32) (v4 : Int32) (v5 : Int32) (v6 : Int32) (M : xM) : Option (Int32 × xM) := xit (F_X12_look_34b v0 v3) xFU (v4, v5, v6, M)
def F_X12_look (a0 : Nat) (a1 : Int32) (M : xM) : Option (Int32 × xM) :=
(xpI M a0 12 0 (0 : Int32)).bind fun t1 =>
(xck t1 a0 12).bind fun _ =>
(F_X12_noLooked a0 a1 t1).bind fun t3 =>
if t3.1 = 0 then (
(xck t3.2 a0 12).bind fun _ =>
(F_X12_moonsOf a0 a1 t3.2).bind fun t5 =>
F_X12_look_34 a0 t5.1 (-1 : Int32) (268435456 : Int32) (0 : Int32) t5.2)
else (
some (t3.1, t3.2))
set_option maxRecDepth 100000 in
set_option maxHeartbeats 4000000 in
theorem F_X12_look_72_ok (X : xX p s m args c cX12_look 8 RX12 κ) (hr : meth.sig.returnType = (some .int)) (hlk : meth.locks = false) {ro : Int32} {mo : xM} (v0 : Nat) (v3 : Int32) (v4 : Int32) (v5 : Int32) (v6 : Int32) {W34 : Int32 × Int32 × Int32 × xM → Prop} (hW34 : ∀ (v4 : Int32) (v5 : Int32) (v6 : Int32) (M : xM), W34 (v4, v5, v6, M) → ∀ (H : Heap) (locs : List Loc) (ls : Array Slot), xO κ s M H locs → lv_has ls 8 [(0, .ref (κ.1 + v0)), (3, .int v3), (4, .int v4), (5, .int v5), (6, .int v6)] → W p l e (xRm 6 0 0) s m args below meth c H locs 0 0 (xQf below args s 0 0 κ (some (.int ro)) mo) (F0 m 34 ls [])) (M : xM) (x : (Int32 × Int32 × Int32 × xM) ⊕ (Int32 × xM)) (h : F_X12_look_72 v0 v3 v4 v5 v6 M = some x) (hK : (xKl W34 (fun o => o = (ro, mo))) x) (H : Heap) (locs : List Loc) (ls : Array Slot) (O : xO κ s M H locs) (hl : lv_has ls 8 [(0, .ref (κ.1 + v0)), (3, .int v3), (4, .int v4), (5, .int v5), (6, .int v6)]) : W p l e (xRm 6 0 0) s m args below meth c H locs 0 0 (xQf below args s 0 0 κ (some (.int ro)) mo) (F0 m 72 ls []) := by
  unfold F_X12_look_72 at h
  have hx := X.1
  have hb := X.2.1
  refine lv_iinc (v := (v6 + 1)) (lv' := [(6, .int (v6 + 1)), (0, .ref (κ.1 + v0)), (3, .int v3), (4, .int v4), (5, .int v5)]) hx hb dX12_look_72 hl (k := 4) rfl rfl (by decide) rfl (fun ls hl => ?_)
  refine lv_goto (tgt := 34) hx hb dX12_look_75 (by decide) ?_
  rw [← Option.some.inj h] at hK
  exact hW34 v4 v5 (v6 + 1) M hK H locs ls O (lv_sub hl [1, 2, 3, 4, 0] rfl)
set_option maxRecDepth 100000 in
set_option maxHeartbeats 4000000 in
theorem F_X12_look_78_ok (X : xX p s m args c cX12_look 8 RX12 κ) (hr : meth.sig.returnType = (some .int)) (hlk : meth.locks = false) {ro : Int32} {mo : xM} (v4 : Int32) (M : xM) (x : Int32 × xM) (h : F_X12_look_78 v4 M = some x) (hK : (fun o => o = (ro, mo)) x) (H : Heap) (locs : List Loc) (ls : Array Slot) (O : xO κ s M H locs) (hl : lv_has ls 8 [(4, .int v4)]) : W p l e (xRm 6 0 0) s m args below meth c H locs 0 0 (xQf below args s 0 0 κ (some (.int ro)) mo) (F0 m 78 ls []) := by
  unfold F_X12_look_78 at h
  have hx := X.1
  have hb := X.2.1
  refine lv_iload hx hb dX12_look_78 (lv_at hl 0 rfl) ?_
  rw [← Option.some.inj h] at hK
  have hK : (v4, M) = (ro, mo) := hK
  obtain ⟨hK1, hK2⟩ := Prod.mk.inj hK
  rw [hK2] at O
  refine xr_top (w := .int ro) (by rw [hK1]) ?_
  exact xr_iret X hr hlk O dX12_look_80
set_option maxRecDepth 100000 in
set_option maxHeartbeats 4000000 in
theorem F_X12_look_34_bok (X : xX p s m args c cX12_look 8 RX12 κ) (hr : meth.sig.returnType = (some .int)) (hlk : meth.locks = false) {ro : Int32} {mo : xM} (v0 : Nat) (v3 : Int32) (v4 : Int32) (v5 : Int32) (v6 : Int32) {W34 : Int32 × Int32 × Int32 × xM → Prop} (hW34 : ∀ (v4 : Int32) (v5 : Int32) (v6 : Int32) (M : xM), W34 (v4, v5, v6, M) → ∀ (H : Heap) (locs : List Loc) (ls : Array Slot), xO κ s M H locs → lv_has ls 8 [(0, .ref (κ.1 + v0)), (3, .int v3), (4, .int v4), (5, .int v5), (6, .int v6)] → W p l e (xRm 6 0 0) s m args below meth c H locs 0 0 (xQf below args s 0 0 κ (some (.int ro)) mo) (F0 m 34 ls [])) (M : xM) (x : (Int32 × Int32 × Int32 × xM) ⊕ (Int32 × xM)) (h : F_X12_look_34b v0 v3 (v4, v5, v6, M) = some x) (hK : (xKl W34 (fun o => o = (ro, mo))) x) (H : Heap) (locs : List Loc) (ls : Array Slot) (O : xO κ s M H locs) (hl : lv_has ls 8 [(0, .ref (κ.1 + v0)), (3, .int v3), (4, .int v4), (5, .int v5), (6, .int v6)]) : W p l e (xRm 6 0 0) s m args below meth c H locs 0 0 (xQf below args s 0 0 κ (some (.int ro)) mo) (F0 m 34 ls []) := by
  unfold F_X12_look_34b at h
  dsimp only at h
  have hx := X.1
  have hb := X.2.1
  refine lv_iload hx hb dX12_look_34 (lv_at hl 4 rfl) ?_
  refine lv_bipush (v := (100 : Int32)) hx hb dX12_look_36 (by decide) ?_
  refine lv_icmp_ge (tgt := 78) hx hb dX12_look_38 (by decide) (fun hc38 => ?_) (fun hc38 => ?_)
  · rw [if_pos hc38] at h
    obtain ⟨_, hw0, ew0⟩ := Option.map_eq_some_iff.mp h
    rw [← ew0] at hK
    have h := hw0
    exact F_X12_look_78_ok X hr hlk v4 M _ h hK H locs ls O (lv_sub hl [2] rfl)
  rw [if_neg hc38] at h
  refine lv_iload_n hx hb dX12_look_41 rfl (lv_at hl 1 rfl) ?_
  refine lv_if_eq (tgt := 78) hx hb dX12_look_42 (by decide) (fun hc42 => ?_) (fun hc42 => ?_)
  · rw [if_pos hc42] at h
    obtain ⟨_, hw0, ew0⟩ := Option.map_eq_some_iff.mp h
    rw [← ew0] at hK
    have h := hw0
    exact F_X12_look_78_ok X hr hlk v4 M _ h hK H locs ls O (lv_sub hl [2] rfl)
  rw [if_neg hc42] at h
  refine lv_aload_n hx hb dX12_look_45 rfl (lv_at hl 0 rfl) ?_
  refine lv_iload hx hb dX12_look_46 (lv_at hl 4 rfl) ?_
  refine lv_iload_n hx hb dX12_look_48 rfl (lv_at hl 1 rfl) ?_
  obtain ⟨_, hut6, h⟩ := Option.bind_eq_some_iff.mp h
  obtain ⟨t7, ht7, h⟩ := Option.bind_eq_some_iff.mp h
  refine xr_callV (rest := []) X O (T_X12_mostOften l κ v0 v6 v3 M _ _ ht7) lk_X12_441 hut6 (Nat.le_of_ble_eq_true rfl) rfl hl.1 rfl (Nat.le_of_ble_eq_true rfl) dX12_look_49 ⟨Nat.le_of_ble_eq_true rfl, Nat.le_of_ble_eq_true rfl⟩ (fun H locs O => ?_)
  refine W.eq (g2 := F0 m 52 ls [.int t7.1]) rfl ?_
  refine lv_istore (lv' := [(7, .int t7.1), (0, .ref (κ.1 + v0)), (3, .int v3), (4, .int v4), (5, .int v5), (6, .int v6)]) hx hb dX12_look_52 hl (by decide) rfl (fun ls hl => ?_)
  refine lv_iload hx hb dX12_look_54 (lv_at hl 0 rfl) ?_
  refine lv_iload hx hb dX12_look_56 (lv_at hl 4 rfl) ?_
  refine lv_icmp_lt (tgt := 64) hx hb dX12_look_58 (by decide) (fun hc58 => ?_) (fun hc58 => ?_)
  · rw [if_pos hc58] at h
    refine lv_iload hx hb dX12_look_64 (lv_at hl 5 rfl) ?_
    refine lv_istore (lv' := [(4, .int v6), (7, .int t7.1), (0, .ref (κ.1 + v0)), (3, .int v3), (5, .int v5), (6, .int v6)]) hx hb dX12_look_66 hl (by decide) rfl (fun ls hl => ?_)
    refine lv_iload hx hb dX12_look_68 (lv_at hl 1 rfl) ?_
    refine lv_istore (lv' := [(5, .int t7.1), (4, .int v6), (7, .int t7.1), (0, .ref (κ.1 + v0)), (3, .int v3), (6, .int v6)]) hx hb dX12_look_70 hl (by decide) rfl (fun ls hl => ?_)
    exact F_X12_look_72_ok X hr hlk v0 v3 v6 t7.1 v6 hW34 t7.2 _ h hK H locs ls O (lv_sub hl [3, 4, 1, 0, 5] rfl)
  rw [if_neg hc58] at h
  refine lv_goto (tgt := 72) hx hb dX12_look_61 (by decide) ?_
  exact F_X12_look_72_ok X hr hlk v0 v3 v4 v5 v6 hW34 t7.2 _ h hK H locs ls O (lv_sub hl [1, 2, 3, 4, 5] rfl)
set_option maxRecDepth 100000 in
set_option maxHeartbeats 4000000 in
theorem F_X12_look_34_ok (X : xX p s m args c cX12_look 8 RX12 κ) (hr : meth.sig.returnType = (some .int)) (hlk : meth.locks = false) {ro : Int32} {mo : xM} (v0 : Nat) (v3 : Int32) (v4 : Int32) (v5 : Int32) (v6 : Int32) (M : xM) (x : Int32 × xM) (h : F_X12_look_34 v0 v3 v4 v5 v6 M = some x) (hK : (fun o => o = (ro, mo)) x) (H : Heap) (locs : List Loc) (ls : Array Slot) (O : xO κ s M H locs) (hl : lv_has ls 8 [(0, .ref (κ.1 + v0)), (3, .int v3), (4, .int v4), (5, .int v5), (6, .int v6)]) : W p l e (xRm 6 0 0) s m args below meth c H locs 0 0 (xQf below args s 0 0 κ (some (.int ro)) mo) (F0 m 34 ls []) := by
  refine xit_K (Wh := fun x => ∀ (H : Heap) (locs : List Loc) (ls : Array Slot), xO κ s x.2.2.2 H locs → lv_has ls 8 [(0, .ref (κ.1 + v0)), (3, .int v3), (4, .int x.1), (5, .int x.2.1), (6, .int x.2.2.1)] → W p l e (xRm 6 0 0) s m args below meth c H locs 0 0 (xQf below args s 0 0 κ (some (.int ro)) mo) (F0 m 34 ls [])) (Kp := (fun o => o = (ro, mo))) ?_ xFU (v4, v5, v6, M) x h hK H locs ls O hl
  intro y x h hK H locs ls O hl
  exact F_X12_look_34_bok X hr hlk v0 v3 y.1 y.2.1 y.2.2.1 (fun _ _ _ _ hw => hw) y.2.2.2 x h hK H locs ls O hl
set_option maxRecDepth 100000 in
set_option maxHeartbeats 4000000 in
theorem T_X12_look (l : Launch) (κ : xQ) (a0 : Nat) (a1 : Int32) (M : xM) (ro : Int32) (mo : xM) (h : F_X12_look a0 a1 M = some (ro, mo)) : xC l yX12_look cX12_look 8 (some .int) 6 0 0 κ [.ref (κ.1 + a0), .int a1] M (some (.int ro)) mo := by
  refine xC_of rfl (Nat.le_of_ble_eq_true rfl) fun p e s m args below meth c X hr hlk hnm H locs ls O hl => ?_
  have X : xX p s m args c cX12_look 8 RX12 κ := X
  have hl : lv_has ls 8 [(0, .ref (κ.1 + a0)), (1, .int a1)] := hl
  have hx := X.1
  have hb := X.2.1
  obtain ⟨x, hx0⟩ : ∃ x, (ro, mo) = x := ⟨_, rfl⟩
  rw [hx0] at h
  have hK : x = (ro, mo) := hx0.symm
  unfold F_X12_look at h
  refine lv_aload_n hx hb dX12_look_0 rfl (lv_at hl 0 rfl) ?_
  refine lv_iconst (v := (0 : Int32)) hx hb dX12_look_1 (by decide) ?_
  obtain ⟨t1, ht1, h⟩ := Option.bind_eq_some_iff.mp h
  refine xr_putI X O ht1 fl_X12_1 dX12_look_2 (fun H locs O => ?_)
  refine lv_aload_n hx hb dX12_look_5 rfl (lv_at hl 0 rfl) ?_
  refine lv_iload_n hx hb dX12_look_6 rfl (lv_at hl 1 rfl) ?_
  obtain ⟨_, hut2, h⟩ := Option.bind_eq_some_iff.mp h
  obtain ⟨t3, ht3, h⟩ := Option.bind_eq_some_iff.mp h
  refine xr_callV (rest := []) X O (T_X12_noLooked l κ a0 a1 t1 _ _ ht3) lk_X12_435 hut2 (Nat.le_of_ble_eq_true rfl) rfl hl.1 rfl (Nat.le_of_ble_eq_true rfl) dX12_look_7 ⟨Nat.le_of_ble_eq_true rfl, Nat.le_of_ble_eq_true rfl⟩ (fun H locs O => ?_)
  refine W.eq (g2 := F0 m 10 ls [.int t3.1]) rfl ?_
  refine lv_istore_n (lv' := [(2, .int t3.1), (0, .ref (κ.1 + a0)), (1, .int a1)]) hx hb dX12_look_10 rfl hl (by decide) rfl (fun ls hl => ?_)
  refine lv_iload_n hx hb dX12_look_11 rfl (lv_at hl 0 rfl) ?_
  refine lv_if_eq (tgt := 17) hx hb dX12_look_12 (by decide) (fun hc12 => ?_) (fun hc12 => ?_)
  · rw [if_pos hc12] at h
    refine lv_aload_n hx hb dX12_look_17 rfl (lv_at hl 1 rfl) ?_
    refine lv_iload_n hx hb dX12_look_18 rfl (lv_at hl 2 rfl) ?_
    obtain ⟨_, hut4, h⟩ := Option.bind_eq_some_iff.mp h
    obtain ⟨t5, ht5, h⟩ := Option.bind_eq_some_iff.mp h
    refine xr_callV (rest := []) X O (T_X12_moonsOf l κ a0 a1 t3.2 _ _ ht5) lk_X12_438 hut4 (Nat.le_of_ble_eq_true rfl) rfl hl.1 rfl (Nat.le_of_ble_eq_true rfl) dX12_look_19 ⟨Nat.le_of_ble_eq_true rfl, Nat.le_of_ble_eq_true rfl⟩ (fun H locs O => ?_)
    refine W.eq (g2 := F0 m 22 ls [.int t5.1]) rfl ?_
    refine lv_istore_n (lv' := [(3, .int t5.1), (2, .int t3.1), (0, .ref (κ.1 + a0)), (1, .int a1)]) hx hb dX12_look_22 rfl hl (by decide) rfl (fun ls hl => ?_)
    refine lv_iconst (v := (-1 : Int32)) hx hb dX12_look_23 (by decide) ?_
    refine lv_istore (lv' := [(4, .int (-1 : Int32)), (3, .int t5.1), (2, .int t3.1), (0, .ref (κ.1 + a0)), (1, .int a1)]) hx hb dX12_look_24 hl (by decide) rfl (fun ls hl => ?_)
    refine lv_ldcw (v := (268435456 : Int32)) hx hb X.2.2.2.1 (X.2.2.2.2.1 _ ct_X12_385) dX12_look_26 ?_
    refine lv_istore (lv' := [(5, .int (268435456 : Int32)), (4, .int (-1 : Int32)), (3, .int t5.1), (2, .int t3.1), (0, .ref (κ.1 + a0)), (1, .int a1)]) hx hb dX12_look_29 hl (by decide) rfl (fun ls hl => ?_)
    refine lv_iconst (v := (0 : Int32)) hx hb dX12_look_31 (by decide) ?_
    refine lv_istore (lv' := [(6, .int (0 : Int32)), (5, .int (268435456 : Int32)), (4, .int (-1 : Int32)), (3, .int t5.1), (2, .int t3.1), (0, .ref (κ.1 + a0)), (1, .int a1)]) hx hb dX12_look_32 hl (by decide) rfl (fun ls hl => ?_)
    exact F_X12_look_34_ok X hr hlk a0 t5.1 (-1 : Int32) (268435456 : Int32) (0 : Int32) t5.2 _ h hK H locs ls O (lv_sub hl [5, 3, 2, 1, 0] rfl)
  rw [if_neg hc12] at h
  refine lv_iload_n hx hb dX12_look_15 rfl (lv_at hl 0 rfl) ?_
  rw [← Option.some.inj h] at hK
  have hK : (t3.1, t3.2) = (ro, mo) := hK
  obtain ⟨hK1, hK2⟩ := Prod.mk.inj hK
  rw [hK2] at O
  refine xr_top (w := .int ro) (by rw [hK1]) ?_
  exact xr_iret X hr hlk O dX12_look_16
def F_X12_freeIn_93 (v0 : Nat) (v1 : Int32) (v3 : Int32) (s0 : Int32) (s1 : Int32) (M : xM) : Option ((Int32 × Int32 × xM) ⊕ (Int32 × xM)) :=
(some ((s1 ||| s0))).bind fun t14 =>
some (.inl (t14, (v3 + 1), M))
def F_X12_freeIn_78 (v0 : Nat) (v1 : Int32) (v2 : Int32) (v3 : Int32) (s0 : Int32) (M : xM) : Option ((Int32 × Int32 × xM) ⊕ (Int32 × xM)) :=
if s0 = 0 then (
F_X12_freeIn_93 v0 v1 v3 (0 : Int32) v2 M)
else (
F_X12_freeIn_93 v0 v1 v3 ((1 : Int32) <<< (v3 &&& 31)) v2 M)
def F_X12_freeIn_73 (v0 : Nat) (v1 : Int32) (v2 : Int32) (v3 : Int32) (M : xM) : Option ((Int32 × Int32 × xM) ⊕ (Int32 × xM)) :=
F_X12_freeIn_78 v0 v1 v2 v3 (1 : Int32) M
def F_X12_freeIn_77 (v0 : Nat) (v1 : Int32) (v2 : Int32) (v3 : Int32) (M : xM) : Option ((Int32 × Int32 × xM) ⊕ (Int32 × xM)) :=
F_X12_freeIn_78 v0 v1 v2 v3 (0 : Int32) M
def F_X12_freeIn_50 (v0 : Nat) (v1 : Int32) (v2 : Int32) (v3 : Int32) (v4 : Int32) (M : xM) : Option ((Int32 × Int32 × xM) ⊕ (Int32 × xM)) :=
(xgP M v0 12 1).bind fun t10 =>
(xaI M 20 t10 (2 : Int32)).bind fun t11 =>
if (t11 - (1 : Int32)) ≤ v3 then (
F_X12_freeIn_73 v0 v1 v2 v3 M)
else (
(xck M v0 12).bind fun _ =>
(F_X12_isHeld v0 (v4 + (1 : Int32)) M).bind fun t13 =>
if t13.1 = 0 then (
F_X12_freeIn_73 v0 v1 v2 v3 t13.2)
else (
F_X12_freeIn_77 v0 v1 v2 v3 t13.2))
def F_X12_freeIn_101 (v2 : Int32) (M : xM) : Option (Int32 × xM) :=
some (v2, M)
def F_X12_freeIn_4b (v0 : Nat) (v1 : Int32) : (Int32 × Int32 × xM) → Option ((Int32 × Int32 × xM) ⊕ (Int32 × xM)) := fun ⟨v2, v3, M⟩ =>
(xgP M v0 12 1).bind fun t1 =>
(xaI M 20 t1 (2 : Int32)).bind fun t2 =>
if t2 ≤ v3 then (
(F_X12_freeIn_101 v2 M).map Sum.inr)
else (
(xgP M v0 12 1).bind fun t3 =>
(xaI M 20 t3 (2 : Int32)).bind fun t4 =>
(some (((t4 * v1) + v3))).bind fun t5 =>
(xck M v0 12).bind fun _ =>
(F_X12_isHeld v0 t5 M).bind fun t7 =>
if t7.1 = 0 then (
if v3 ≤ 0 then (
F_X12_freeIn_50 v0 v1 v2 v3 t5 t7.2)
else (
(xck t7.2 v0 12).bind fun _ =>
(F_X12_isHeld v0 (t5 - (1 : Int32)) t7.2).bind fun t9 =>
if t9.1 = 0 then (
F_X12_freeIn_50 v0 v1 v2 v3 t5 t9.2)
else (
F_X12_freeIn_77 v0 v1 v2 v3 t9.2)))
else (
F_X12_freeIn_77 v0 v1 v2 v3 t7.2))
def F_X12_freeIn_4 (v0 : Nat) (v1 : Int32) (v2 : Int32) (v3 : Int32) (M : xM) : Option (Int32 × xM) := xit (F_X12_freeIn_4b v0 v1) xFU (v2, v3, M)
def F_X12_freeIn (a0 : Nat) (a1 : Int32) (M : xM) : Option (Int32 × xM) :=
F_X12_freeIn_4 a0 a1 (0 : Int32) (0 : Int32) M
set_option maxRecDepth 100000 in
set_option maxHeartbeats 4000000 in
theorem F_X12_freeIn_93_ok (X : xX p s m args c cX12_freeIn 6 RX12 κ) (hr : meth.sig.returnType = (some .int)) (hlk : meth.locks = false) {ro : Int32} {mo : xM} (v0 : Nat) (v1 : Int32) (v3 : Int32) (s0 : Int32) (s1 : Int32) {W4 : Int32 × Int32 × xM → Prop} (hW4 : ∀ (v2 : Int32) (v3 : Int32) (M : xM), W4 (v2, v3, M) → ∀ (H : Heap) (locs : List Loc) (ls : Array Slot), xO κ s M H locs → lv_has ls 6 [(0, .ref (κ.1 + v0)), (1, .int v1), (2, .int v2), (3, .int v3)] → W p l e (xRm 4 0 0) s m args below meth c H locs 0 0 (xQf below args s 0 0 κ (some (.int ro)) mo) (F0 m 4 ls [])) (M : xM) (x : (Int32 × Int32 × xM) ⊕ (Int32 × xM)) (h : F_X12_freeIn_93 v0 v1 v3 s0 s1 M = some x) (hK : (xKl W4 (fun o => o = (ro, mo))) x) (H : Heap) (locs : List Loc) (ls : Array Slot) (O : xO κ s M H locs) (hl : lv_has ls 6 [(0, .ref (κ.1 + v0)), (1, .int v1), (3, .int v3)]) : W p l e (xRm 4 0 0) s m args below meth c H locs 0 0 (xQf below args s 0 0 κ (some (.int ro)) mo) (F0 m 93 ls [.int s0, .int s1]) := by
  unfold F_X12_freeIn_93 at h
  have hx := X.1
  have hb := X.2.1
  refine lv_ior hx hb dX12_freeIn_93 ?_
  obtain ⟨t14, ht14, h⟩ := Option.bind_eq_some_iff.mp h
  refine xr_top (w := .int t14) (by rw [Option.some.inj ht14]) ?_
  refine lv_istore_n (lv' := [(2, .int t14), (0, .ref (κ.1 + v0)), (1, .int v1), (3, .int v3)]) hx hb dX12_freeIn_94 rfl hl (by decide) rfl (fun ls hl => ?_)
  refine lv_iinc (v := (v3 + 1)) (lv' := [(3, .int (v3 + 1)), (2, .int t14), (0, .ref (κ.1 + v0)), (1, .int v1)]) hx hb dX12_freeIn_95 hl (k := 3) rfl rfl (by decide) rfl (fun ls hl => ?_)
  refine lv_goto (tgt := 4) hx hb dX12_freeIn_98 (by decide) ?_
  rw [← Option.some.inj h] at hK
  exact hW4 t14 (v3 + 1) M hK H locs ls O (lv_sub hl [2, 3, 1, 0] rfl)
set_option maxRecDepth 100000 in
set_option maxHeartbeats 4000000 in
theorem F_X12_freeIn_78_ok (X : xX p s m args c cX12_freeIn 6 RX12 κ) (hr : meth.sig.returnType = (some .int)) (hlk : meth.locks = false) {ro : Int32} {mo : xM} (v0 : Nat) (v1 : Int32) (v2 : Int32) (v3 : Int32) (s0 : Int32) {W4 : Int32 × Int32 × xM → Prop} (hW4 : ∀ (v2 : Int32) (v3 : Int32) (M : xM), W4 (v2, v3, M) → ∀ (H : Heap) (locs : List Loc) (ls : Array Slot), xO κ s M H locs → lv_has ls 6 [(0, .ref (κ.1 + v0)), (1, .int v1), (2, .int v2), (3, .int v3)] → W p l e (xRm 4 0 0) s m args below meth c H locs 0 0 (xQf below args s 0 0 κ (some (.int ro)) mo) (F0 m 4 ls [])) (M : xM) (x : (Int32 × Int32 × xM) ⊕ (Int32 × xM)) (h : F_X12_freeIn_78 v0 v1 v2 v3 s0 M = some x) (hK : (xKl W4 (fun o => o = (ro, mo))) x) (H : Heap) (locs : List Loc) (ls : Array Slot) (O : xO κ s M H locs) (hl : lv_has ls 6 [(0, .ref (κ.1 + v0)), (1, .int v1), (2, .int v2), (3, .int v3)]) : W p l e (xRm 4 0 0) s m args below meth c H locs 0 0 (xQf below args s 0 0 κ (some (.int ro)) mo) (F0 m 78 ls [.int s0]) := by
  unfold F_X12_freeIn_78 at h
  have hx := X.1
  have hb := X.2.1
  refine lv_istore (lv' := [(5, .int s0), (0, .ref (κ.1 + v0)), (1, .int v1), (2, .int v2), (3, .int v3)]) hx hb dX12_freeIn_78 hl (by decide) rfl (fun ls hl => ?_)
  refine lv_iload_n hx hb dX12_freeIn_80 rfl (lv_at hl 3 rfl) ?_
  refine lv_iload hx hb dX12_freeIn_81 (lv_at hl 0 rfl) ?_
  refine lv_if_eq (tgt := 92) hx hb dX12_freeIn_83 (by decide) (fun hc83 => ?_) (fun hc83 => ?_)
  · rw [if_pos hc83] at h
    refine lv_iconst (v := (0 : Int32)) hx hb dX12_freeIn_92 (by decide) ?_
    exact F_X12_freeIn_93_ok X hr hlk v0 v1 v3 (0 : Int32) v2 hW4 M _ h hK H locs ls O (lv_sub hl [1, 2, 4] rfl)
  rw [if_neg hc83] at h
  refine lv_iconst (v := (1 : Int32)) hx hb dX12_freeIn_86 (by decide) ?_
  refine lv_iload_n hx hb dX12_freeIn_87 rfl (lv_at hl 4 rfl) ?_
  refine lv_ishl hx hb dX12_freeIn_88 ?_
  refine lv_goto (tgt := 93) hx hb dX12_freeIn_89 (by decide) ?_
  exact F_X12_freeIn_93_ok X hr hlk v0 v1 v3 ((1 : Int32) <<< (v3 &&& 31)) v2 hW4 M _ h hK H locs ls O (lv_sub hl [1, 2, 4] rfl)
set_option maxRecDepth 100000 in
set_option maxHeartbeats 4000000 in
theorem F_X12_freeIn_73_ok (X : xX p s m args c cX12_freeIn 6 RX12 κ) (hr : meth.sig.returnType = (some .int)) (hlk : meth.locks = false) {ro : Int32} {mo : xM} (v0 : Nat) (v1 : Int32) (v2 : Int32) (v3 : Int32) {W4 : Int32 × Int32 × xM → Prop} (hW4 : ∀ (v2 : Int32) (v3 : Int32) (M : xM), W4 (v2, v3, M) → ∀ (H : Heap) (locs : List Loc) (ls : Array Slot), xO κ s M H locs → lv_has ls 6 [(0, .ref (κ.1 + v0)), (1, .int v1), (2, .int v2), (3, .int v3)] → W p l e (xRm 4 0 0) s m args below meth c H locs 0 0 (xQf below args s 0 0 κ (some (.int ro)) mo) (F0 m 4 ls [])) (M : xM) (x : (Int32 × Int32 × xM) ⊕ (Int32 × xM)) (h : F_X12_freeIn_73 v0 v1 v2 v3 M = some x) (hK : (xKl W4 (fun o => o = (ro, mo))) x) (H : Heap) (locs : List Loc) (ls : Array Slot) (O : xO κ s M H locs) (hl : lv_has ls 6 [(0, .ref (κ.1 + v0)), (1, .int v1), (2, .int v2), (3, .int v3)]) : W p l e (xRm 4 0 0) s m args below meth c H locs 0 0 (xQf below args s 0 0 κ (some (.int ro)) mo) (F0 m 73 ls []) := by
  unfold F_X12_freeIn_73 at h
  have hx := X.1
  have hb := X.2.1
  refine lv_iconst (v := (1 : Int32)) hx hb dX12_freeIn_73 (by decide) ?_
  refine lv_goto (tgt := 78) hx hb dX12_freeIn_74 (by decide) ?_
  exact F_X12_freeIn_78_ok X hr hlk v0 v1 v2 v3 (1 : Int32) hW4 M _ h hK H locs ls O (lv_sub hl [0, 1, 2, 3] rfl)
set_option maxRecDepth 100000 in
set_option maxHeartbeats 4000000 in
theorem F_X12_freeIn_77_ok (X : xX p s m args c cX12_freeIn 6 RX12 κ) (hr : meth.sig.returnType = (some .int)) (hlk : meth.locks = false) {ro : Int32} {mo : xM} (v0 : Nat) (v1 : Int32) (v2 : Int32) (v3 : Int32) {W4 : Int32 × Int32 × xM → Prop} (hW4 : ∀ (v2 : Int32) (v3 : Int32) (M : xM), W4 (v2, v3, M) → ∀ (H : Heap) (locs : List Loc) (ls : Array Slot), xO κ s M H locs → lv_has ls 6 [(0, .ref (κ.1 + v0)), (1, .int v1), (2, .int v2), (3, .int v3)] → W p l e (xRm 4 0 0) s m args below meth c H locs 0 0 (xQf below args s 0 0 κ (some (.int ro)) mo) (F0 m 4 ls [])) (M : xM) (x : (Int32 × Int32 × xM) ⊕ (Int32 × xM)) (h : F_X12_freeIn_77 v0 v1 v2 v3 M = some x) (hK : (xKl W4 (fun o => o = (ro, mo))) x) (H : Heap) (locs : List Loc) (ls : Array Slot) (O : xO κ s M H locs) (hl : lv_has ls 6 [(0, .ref (κ.1 + v0)), (1, .int v1), (2, .int v2), (3, .int v3)]) : W p l e (xRm 4 0 0) s m args below meth c H locs 0 0 (xQf below args s 0 0 κ (some (.int ro)) mo) (F0 m 77 ls []) := by
  unfold F_X12_freeIn_77 at h
  have hx := X.1
  have hb := X.2.1
  refine lv_iconst (v := (0 : Int32)) hx hb dX12_freeIn_77 (by decide) ?_
  exact F_X12_freeIn_78_ok X hr hlk v0 v1 v2 v3 (0 : Int32) hW4 M _ h hK H locs ls O (lv_sub hl [0, 1, 2, 3] rfl)
set_option maxRecDepth 100000 in
set_option maxHeartbeats 4000000 in
theorem F_X12_freeIn_50_ok (X : xX p s m args c cX12_freeIn 6 RX12 κ) (hr : meth.sig.returnType = (some .int)) (hlk : meth.locks = false) {ro : Int32} {mo : xM} (v0 : Nat) (v1 : Int32) (v2 : Int32) (v3 : Int32) (v4 : Int32) {W4 : Int32 × Int32 × xM → Prop} (hW4 : ∀ (v2 : Int32) (v3 : Int32) (M : xM), W4 (v2, v3, M) → ∀ (H : Heap) (locs : List Loc) (ls : Array Slot), xO κ s M H locs → lv_has ls 6 [(0, .ref (κ.1 + v0)), (1, .int v1), (2, .int v2), (3, .int v3)] → W p l e (xRm 4 0 0) s m args below meth c H locs 0 0 (xQf below args s 0 0 κ (some (.int ro)) mo) (F0 m 4 ls [])) (M : xM) (x : (Int32 × Int32 × xM) ⊕ (Int32 × xM)) (h : F_X12_freeIn_50 v0 v1 v2 v3 v4 M = some x) (hK : (xKl W4 (fun o => o = (ro, mo))) x) (H : Heap) (locs : List Loc) (ls : Array Slot) (O : xO κ s M H locs) (hl : lv_has ls 6 [(0, .ref (κ.1 + v0)), (1, .int v1), (2, .int v2), (3, .int v3), (4, .int v4)]) : W p l e (xRm 4 0 0) s m args below meth c H locs 0 0 (xQf below args s 0 0 κ (some (.int ro)) mo) (F0 m 50 ls []) := by
  unfold F_X12_freeIn_50 at h
  have hx := X.1
  have hb := X.2.1
  refine lv_iload_n hx hb dX12_freeIn_50 rfl (lv_at hl 3 rfl) ?_
  refine lv_aload_n hx hb dX12_freeIn_51 rfl (lv_at hl 0 rfl) ?_
  obtain ⟨t10, ht10, h⟩ := Option.bind_eq_some_iff.mp h
  refine xr_getP X O ht10 fl_X12_13 dX12_freeIn_52 ?_
  refine lv_iconst (v := (2 : Int32)) hx hb dX12_freeIn_55 (by decide) ?_
  obtain ⟨t11, ht11, h⟩ := Option.bind_eq_some_iff.mp h
  refine xr_aldI X O ht11 dX12_freeIn_56 ?_
  refine lv_iconst (v := (1 : Int32)) hx hb dX12_freeIn_57 (by decide) ?_
  refine lv_isub hx hb dX12_freeIn_58 ?_
  refine lv_icmp_ge (tgt := 73) hx hb dX12_freeIn_59 (by decide) (fun hc59 => ?_) (fun hc59 => ?_)
  · rw [if_pos hc59] at h
    exact F_X12_freeIn_73_ok X hr hlk v0 v1 v2 v3 hW4 M _ h hK H locs ls O (lv_sub hl [0, 1, 2, 3] rfl)
  rw [if_neg hc59] at h
  refine lv_aload_n hx hb dX12_freeIn_62 rfl (lv_at hl 0 rfl) ?_
  refine lv_iload hx hb dX12_freeIn_63 (lv_at hl 4 rfl) ?_
  refine lv_iconst (v := (1 : Int32)) hx hb dX12_freeIn_65 (by decide) ?_
  refine lv_iadd hx hb dX12_freeIn_66 ?_
  obtain ⟨_, hut12, h⟩ := Option.bind_eq_some_iff.mp h
  obtain ⟨t13, ht13, h⟩ := Option.bind_eq_some_iff.mp h
  refine xr_callV (rest := []) X O (T_X12_isHeld l κ v0 (v4 + (1 : Int32)) M _ _ ht13) lk_X12_313 hut12 (Nat.le_of_ble_eq_true rfl) rfl hl.1 rfl (Nat.le_of_ble_eq_true rfl) dX12_freeIn_67 ⟨Nat.le_of_ble_eq_true rfl, Nat.le_of_ble_eq_true rfl⟩ (fun H locs O => ?_)
  refine W.eq (g2 := F0 m 70 ls [.int t13.1]) rfl ?_
  refine lv_if_ne (tgt := 77) hx hb dX12_freeIn_70 (by decide) (fun hc70 => ?_) (fun hc70 => ?_)
  · rw [if_neg hc70] at h
    exact F_X12_freeIn_77_ok X hr hlk v0 v1 v2 v3 hW4 t13.2 _ h hK H locs ls O (lv_sub hl [0, 1, 2, 3] rfl)
  rw [if_pos hc70] at h
  exact F_X12_freeIn_73_ok X hr hlk v0 v1 v2 v3 hW4 t13.2 _ h hK H locs ls O (lv_sub hl [0, 1, 2, 3] rfl)
set_option maxRecDepth 100000 in
set_option maxHeartbeats 4000000 in
theorem F_X12_freeIn_101_ok (X : xX p s m args c cX12_freeIn 6 RX12 κ) (hr : meth.sig.returnType = (some .int)) (hlk : meth.locks = false) {ro : Int32} {mo : xM} (v2 : Int32) (M : xM) (x : Int32 × xM) (h : F_X12_freeIn_101 v2 M = some x) (hK : (fun o => o = (ro, mo)) x) (H : Heap) (locs : List Loc) (ls : Array Slot) (O : xO κ s M H locs) (hl : lv_has ls 6 [(2, .int v2)]) : W p l e (xRm 4 0 0) s m args below meth c H locs 0 0 (xQf below args s 0 0 κ (some (.int ro)) mo) (F0 m 101 ls []) := by
  unfold F_X12_freeIn_101 at h
  have hx := X.1
  have hb := X.2.1
  refine lv_iload_n hx hb dX12_freeIn_101 rfl (lv_at hl 0 rfl) ?_
  rw [← Option.some.inj h] at hK
  have hK : (v2, M) = (ro, mo) := hK
  obtain ⟨hK1, hK2⟩ := Prod.mk.inj hK
  rw [hK2] at O
  refine xr_top (w := .int ro) (by rw [hK1]) ?_
  exact xr_iret X hr hlk O dX12_freeIn_102
set_option maxRecDepth 100000 in
set_option maxHeartbeats 4000000 in
theorem F_X12_freeIn_4_bok (X : xX p s m args c cX12_freeIn 6 RX12 κ) (hr : meth.sig.returnType = (some .int)) (hlk : meth.locks = false) {ro : Int32} {mo : xM} (v0 : Nat) (v1 : Int32) (v2 : Int32) (v3 : Int32) {W4 : Int32 × Int32 × xM → Prop} (hW4 : ∀ (v2 : Int32) (v3 : Int32) (M : xM), W4 (v2, v3, M) → ∀ (H : Heap) (locs : List Loc) (ls : Array Slot), xO κ s M H locs → lv_has ls 6 [(0, .ref (κ.1 + v0)), (1, .int v1), (2, .int v2), (3, .int v3)] → W p l e (xRm 4 0 0) s m args below meth c H locs 0 0 (xQf below args s 0 0 κ (some (.int ro)) mo) (F0 m 4 ls [])) (M : xM) (x : (Int32 × Int32 × xM) ⊕ (Int32 × xM)) (h : F_X12_freeIn_4b v0 v1 (v2, v3, M) = some x) (hK : (xKl W4 (fun o => o = (ro, mo))) x) (H : Heap) (locs : List Loc) (ls : Array Slot) (O : xO κ s M H locs) (hl : lv_has ls 6 [(0, .ref (κ.1 + v0)), (1, .int v1), (2, .int v2), (3, .int v3)]) : W p l e (xRm 4 0 0) s m args below meth c H locs 0 0 (xQf below args s 0 0 κ (some (.int ro)) mo) (F0 m 4 ls []) := by
  unfold F_X12_freeIn_4b at h
  dsimp only at h
  have hx := X.1
  have hb := X.2.1
  refine lv_iload_n hx hb dX12_freeIn_4 rfl (lv_at hl 3 rfl) ?_
  refine lv_aload_n hx hb dX12_freeIn_5 rfl (lv_at hl 0 rfl) ?_
  obtain ⟨t1, ht1, h⟩ := Option.bind_eq_some_iff.mp h
  refine xr_getP X O ht1 fl_X12_13 dX12_freeIn_6 ?_
  refine lv_iconst (v := (2 : Int32)) hx hb dX12_freeIn_9 (by decide) ?_
  obtain ⟨t2, ht2, h⟩ := Option.bind_eq_some_iff.mp h
  refine xr_aldI X O ht2 dX12_freeIn_10 ?_
  refine lv_icmp_ge (tgt := 101) hx hb dX12_freeIn_11 (by decide) (fun hc11 => ?_) (fun hc11 => ?_)
  · rw [if_pos hc11] at h
    obtain ⟨_, hw0, ew0⟩ := Option.map_eq_some_iff.mp h
    rw [← ew0] at hK
    have h := hw0
    exact F_X12_freeIn_101_ok X hr hlk v2 M _ h hK H locs ls O (lv_sub hl [2] rfl)
  rw [if_neg hc11] at h
  refine lv_aload_n hx hb dX12_freeIn_14 rfl (lv_at hl 0 rfl) ?_
  obtain ⟨t3, ht3, h⟩ := Option.bind_eq_some_iff.mp h
  refine xr_getP X O ht3 fl_X12_13 dX12_freeIn_15 ?_
  refine lv_iconst (v := (2 : Int32)) hx hb dX12_freeIn_18 (by decide) ?_
  obtain ⟨t4, ht4, h⟩ := Option.bind_eq_some_iff.mp h
  refine xr_aldI X O ht4 dX12_freeIn_19 ?_
  refine lv_iload_n hx hb dX12_freeIn_20 rfl (lv_at hl 1 rfl) ?_
  refine lv_imul hx hb dX12_freeIn_21 ?_
  refine lv_iload_n hx hb dX12_freeIn_22 rfl (lv_at hl 3 rfl) ?_
  refine lv_iadd hx hb dX12_freeIn_23 ?_
  obtain ⟨t5, ht5, h⟩ := Option.bind_eq_some_iff.mp h
  refine xr_top (w := .int t5) (by rw [Option.some.inj ht5]) ?_
  refine lv_istore (lv' := [(4, .int t5), (0, .ref (κ.1 + v0)), (1, .int v1), (2, .int v2), (3, .int v3)]) hx hb dX12_freeIn_24 hl (by decide) rfl (fun ls hl => ?_)
  refine lv_aload_n hx hb dX12_freeIn_26 rfl (lv_at hl 1 rfl) ?_
  refine lv_iload hx hb dX12_freeIn_27 (lv_at hl 0 rfl) ?_
  obtain ⟨_, hut6, h⟩ := Option.bind_eq_some_iff.mp h
  obtain ⟨t7, ht7, h⟩ := Option.bind_eq_some_iff.mp h
  refine xr_callV (rest := []) X O (T_X12_isHeld l κ v0 t5 M _ _ ht7) lk_X12_313 hut6 (Nat.le_of_ble_eq_true rfl) rfl hl.1 rfl (Nat.le_of_ble_eq_true rfl) dX12_freeIn_29 ⟨Nat.le_of_ble_eq_true rfl, Nat.le_of_ble_eq_true rfl⟩ (fun H locs O => ?_)
  refine W.eq (g2 := F0 m 32 ls [.int t7.1]) rfl ?_
  refine lv_if_ne (tgt := 77) hx hb dX12_freeIn_32 (by decide) (fun hc32 => ?_) (fun hc32 => ?_)
  · rw [if_neg hc32] at h
    exact F_X12_freeIn_77_ok X hr hlk v0 v1 v2 v3 hW4 t7.2 _ h hK H locs ls O (lv_sub hl [1, 2, 3, 4] rfl)
  rw [if_pos hc32] at h
  refine lv_iload_n hx hb dX12_freeIn_35 rfl (lv_at hl 4 rfl) ?_
  refine lv_if_le (tgt := 50) hx hb dX12_freeIn_36 (by decide) (fun hc36 => ?_) (fun hc36 => ?_)
  · rw [if_pos hc36] at h
    exact F_X12_freeIn_50_ok X hr hlk v0 v1 v2 v3 t5 hW4 t7.2 _ h hK H locs ls O (lv_sub hl [1, 2, 3, 4, 0] rfl)
  rw [if_neg hc36] at h
  refine lv_aload_n hx hb dX12_freeIn_39 rfl (lv_at hl 1 rfl) ?_
  refine lv_iload hx hb dX12_freeIn_40 (lv_at hl 0 rfl) ?_
  refine lv_iconst (v := (1 : Int32)) hx hb dX12_freeIn_42 (by decide) ?_
  refine lv_isub hx hb dX12_freeIn_43 ?_
  obtain ⟨_, hut8, h⟩ := Option.bind_eq_some_iff.mp h
  obtain ⟨t9, ht9, h⟩ := Option.bind_eq_some_iff.mp h
  refine xr_callV (rest := []) X O (T_X12_isHeld l κ v0 (t5 - (1 : Int32)) t7.2 _ _ ht9) lk_X12_313 hut8 (Nat.le_of_ble_eq_true rfl) rfl hl.1 rfl (Nat.le_of_ble_eq_true rfl) dX12_freeIn_44 ⟨Nat.le_of_ble_eq_true rfl, Nat.le_of_ble_eq_true rfl⟩ (fun H locs O => ?_)
  refine W.eq (g2 := F0 m 47 ls [.int t9.1]) rfl ?_
  refine lv_if_ne (tgt := 77) hx hb dX12_freeIn_47 (by decide) (fun hc47 => ?_) (fun hc47 => ?_)
  · rw [if_neg hc47] at h
    exact F_X12_freeIn_77_ok X hr hlk v0 v1 v2 v3 hW4 t9.2 _ h hK H locs ls O (lv_sub hl [1, 2, 3, 4] rfl)
  rw [if_pos hc47] at h
  exact F_X12_freeIn_50_ok X hr hlk v0 v1 v2 v3 t5 hW4 t9.2 _ h hK H locs ls O (lv_sub hl [1, 2, 3, 4, 0] rfl)
set_option maxRecDepth 100000 in
set_option maxHeartbeats 4000000 in
theorem F_X12_freeIn_4_ok (X : xX p s m args c cX12_freeIn 6 RX12 κ) (hr : meth.sig.returnType = (some .int)) (hlk : meth.locks = false) {ro : Int32} {mo : xM} (v0 : Nat) (v1 : Int32) (v2 : Int32) (v3 : Int32) (M : xM) (x : Int32 × xM) (h : F_X12_freeIn_4 v0 v1 v2 v3 M = some x) (hK : (fun o => o = (ro, mo)) x) (H : Heap) (locs : List Loc) (ls : Array Slot) (O : xO κ s M H locs) (hl : lv_has ls 6 [(0, .ref (κ.1 + v0)), (1, .int v1), (2, .int v2), (3, .int v3)]) : W p l e (xRm 4 0 0) s m args below meth c H locs 0 0 (xQf below args s 0 0 κ (some (.int ro)) mo) (F0 m 4 ls []) := by
  refine xit_K (Wh := fun x => ∀ (H : Heap) (locs : List Loc) (ls : Array Slot), xO κ s x.2.2 H locs → lv_has ls 6 [(0, .ref (κ.1 + v0)), (1, .int v1), (2, .int x.1), (3, .int x.2.1)] → W p l e (xRm 4 0 0) s m args below meth c H locs 0 0 (xQf below args s 0 0 κ (some (.int ro)) mo) (F0 m 4 ls [])) (Kp := (fun o => o = (ro, mo))) ?_ xFU (v2, v3, M) x h hK H locs ls O hl
  intro y x h hK H locs ls O hl
  exact F_X12_freeIn_4_bok X hr hlk v0 v1 y.1 y.2.1 (fun _ _ _ hw => hw) y.2.2 x h hK H locs ls O hl
set_option maxRecDepth 100000 in
set_option maxHeartbeats 4000000 in
theorem T_X12_freeIn (l : Launch) (κ : xQ) (a0 : Nat) (a1 : Int32) (M : xM) (ro : Int32) (mo : xM) (h : F_X12_freeIn a0 a1 M = some (ro, mo)) : xC l yX12_freeIn cX12_freeIn 6 (some .int) 4 0 0 κ [.ref (κ.1 + a0), .int a1] M (some (.int ro)) mo := by
  refine xC_of rfl (Nat.le_of_ble_eq_true rfl) fun p e s m args below meth c X hr hlk hnm H locs ls O hl => ?_
  have X : xX p s m args c cX12_freeIn 6 RX12 κ := X
  have hl : lv_has ls 6 [(0, .ref (κ.1 + a0)), (1, .int a1)] := hl
  have hx := X.1
  have hb := X.2.1
  obtain ⟨x, hx0⟩ : ∃ x, (ro, mo) = x := ⟨_, rfl⟩
  rw [hx0] at h
  have hK : x = (ro, mo) := hx0.symm
  unfold F_X12_freeIn at h
  refine lv_iconst (v := (0 : Int32)) hx hb dX12_freeIn_0 (by decide) ?_
  refine lv_istore_n (lv' := [(2, .int (0 : Int32)), (0, .ref (κ.1 + a0)), (1, .int a1)]) hx hb dX12_freeIn_1 rfl hl (by decide) rfl (fun ls hl => ?_)
  refine lv_iconst (v := (0 : Int32)) hx hb dX12_freeIn_2 (by decide) ?_
  refine lv_istore_n (lv' := [(3, .int (0 : Int32)), (2, .int (0 : Int32)), (0, .ref (κ.1 + a0)), (1, .int a1)]) hx hb dX12_freeIn_3 rfl hl (by decide) rfl (fun ls hl => ?_)
  exact F_X12_freeIn_4_ok X hr hlk a0 a1 (0 : Int32) (0 : Int32) M _ h hK H locs ls O (lv_sub hl [2, 3, 1, 0] rfl)
def F_X12_putTo (a0 : Int32) (a1 : Int32) (M : xM) : Option (Int32 × xM) :=
some ((((a0 &&& (((1 : Int32) <<< (a1 &&& 31)) ^^^ (-1 : Int32))) &&& (((1 : Int32) <<< ((a1 + (1 : Int32)) &&& 31)) ^^^ (-1 : Int32))) &&& ((((1 : Int32) <<< (a1 &&& 31)) >>> ((1 : Int32) &&& 31)) ^^^ (-1 : Int32))), M)
set_option maxRecDepth 100000 in
set_option maxHeartbeats 4000000 in
theorem T_X12_putTo (l : Launch) (κ : xQ) (a0 : Int32) (a1 : Int32) (M : xM) (ro : Int32) (mo : xM) (h : F_X12_putTo a0 a1 M = some (ro, mo)) : xC l yX12_putTo cX12_putTo 2 (some .int) 2 0 0 κ [.int a0, .int a1] M (some (.int ro)) mo := by
  refine xC_of rfl (Nat.le_of_ble_eq_true rfl) fun p e s m args below meth c X hr hlk hnm H locs ls O hl => ?_
  have X : xX p s m args c cX12_putTo 2 RX12 κ := X
  have hl : lv_has ls 2 [(0, .int a0), (1, .int a1)] := hl
  have hx := X.1
  have hb := X.2.1
  obtain ⟨x, hx0⟩ : ∃ x, (ro, mo) = x := ⟨_, rfl⟩
  rw [hx0] at h
  have hK : x = (ro, mo) := hx0.symm
  unfold F_X12_putTo at h
  refine lv_iload_n hx hb dX12_putTo_0 rfl (lv_at hl 0 rfl) ?_
  refine lv_iconst (v := (1 : Int32)) hx hb dX12_putTo_1 (by decide) ?_
  refine lv_iload_n hx hb dX12_putTo_2 rfl (lv_at hl 1 rfl) ?_
  refine lv_ishl hx hb dX12_putTo_3 ?_
  refine lv_iconst (v := (-1 : Int32)) hx hb dX12_putTo_4 (by decide) ?_
  refine lv_ixor hx hb dX12_putTo_5 ?_
  refine lv_iand hx hb dX12_putTo_6 ?_
  refine lv_iconst (v := (1 : Int32)) hx hb dX12_putTo_7 (by decide) ?_
  refine lv_iload_n hx hb dX12_putTo_8 rfl (lv_at hl 1 rfl) ?_
  refine lv_iconst (v := (1 : Int32)) hx hb dX12_putTo_9 (by decide) ?_
  refine lv_iadd hx hb dX12_putTo_10 ?_
  refine lv_ishl hx hb dX12_putTo_11 ?_
  refine lv_iconst (v := (-1 : Int32)) hx hb dX12_putTo_12 (by decide) ?_
  refine lv_ixor hx hb dX12_putTo_13 ?_
  refine lv_iand hx hb dX12_putTo_14 ?_
  refine lv_iconst (v := (1 : Int32)) hx hb dX12_putTo_15 (by decide) ?_
  refine lv_iload_n hx hb dX12_putTo_16 rfl (lv_at hl 1 rfl) ?_
  refine lv_ishl hx hb dX12_putTo_17 ?_
  refine lv_iconst (v := (1 : Int32)) hx hb dX12_putTo_18 (by decide) ?_
  refine lv_ishr hx hb dX12_putTo_19 ?_
  refine lv_iconst (v := (-1 : Int32)) hx hb dX12_putTo_20 (by decide) ?_
  refine lv_ixor hx hb dX12_putTo_21 ?_
  refine lv_iand hx hb dX12_putTo_22 ?_
  rw [← Option.some.inj h] at hK
  have hK : ((((a0 &&& (((1 : Int32) <<< (a1 &&& 31)) ^^^ (-1 : Int32))) &&& (((1 : Int32) <<< ((a1 + (1 : Int32)) &&& 31)) ^^^ (-1 : Int32))) &&& ((((1 : Int32) <<< (a1 &&& 31)) >>> ((1 : Int32) &&& 31)) ^^^ (-1 : Int32))), M) = (ro, mo) := hK
  obtain ⟨hK1, hK2⟩ := Prod.mk.inj hK
  rw [hK2] at O
  refine xr_top (w := .int ro) (by rw [hK1]) ?_
  exact xr_iret X hr hlk O dX12_putTo_23
def F_X12_nimOf_32 (rc : Nat → Int32 → xM → Option (Int32 × xM)) (v0 : Nat) (v1 : Int32) (v2 : Int32) (v3 : Int32) (M : xM) : Option ((Int32 × Int32 × xM) ⊕ (Int32 × xM)) :=
some (.inl (v2, (v3 + 1), M))
def F_X12_nimOf_55 (rc : Nat → Int32 → xM → Option (Int32 × xM)) (v3 : Int32) (M : xM) : Option (Int32 × xM) :=
some (v3, M)
def F_X12_nimOf_40b (rc : Nat → Int32 → xM → Option (Int32 × xM)) (v2 : Int32) : (Int32 × xM) → Option ((Int32 × xM) ⊕ (Int32 × xM)) := fun ⟨v3, M⟩ =>
(F_X12_isIn v2.toInt64 v3 M).bind fun t6 =>
if t6.1 = 0 then (
(F_X12_nimOf_55 rc v3 t6.2).map Sum.inr)
else (
some (.inl ((v3 + 1), t6.2)))
def F_X12_nimOf_40 (rc : Nat → Int32 → xM → Option (Int32 × xM)) (v2 : Int32) (v3 : Int32) (M : xM) : Option (Int32 × xM) := xit (F_X12_nimOf_40b rc v2) xFU (v3, M)
def F_X12_nimOf_38 (rc : Nat → Int32 → xM → Option (Int32 × xM)) (v2 : Int32) (M : xM) : Option (Int32 × xM) :=
F_X12_nimOf_40 rc v2 (0 : Int32) M
def F_X12_nimOf_4b (rc : Nat → Int32 → xM → Option (Int32 × xM)) (v0 : Nat) (v1 : Int32) : (Int32 × Int32 × xM) → Option ((Int32 × Int32 × xM) ⊕ (Int32 × xM)) := fun ⟨v2, v3, M⟩ =>
if (5 : Int32) ≤ v3 then (
(F_X12_nimOf_38 rc v2 M).map Sum.inr)
else (
(F_X12_isIn v1.toInt64 v3 M).bind fun t1 =>
if t1.1 = 0 then (
F_X12_nimOf_32 rc v0 v1 v2 v3 t1.2)
else (
(F_X12_putTo v1 v3 t1.2).bind fun t2 =>
(xck t2.2 v0 12).bind fun _ =>
(rc v0 t2.1 t2.2).bind fun t4 =>
(some ((v2 ||| ((1 : Int32) <<< (t4.1 &&& 31))))).bind fun t5 =>
F_X12_nimOf_32 rc v0 v1 t5 v3 t4.2))
def F_X12_nimOf_4 (rc : Nat → Int32 → xM → Option (Int32 × xM)) (v0 : Nat) (v1 : Int32) (v2 : Int32) (v3 : Int32) (M : xM) : Option (Int32 × xM) := xit (F_X12_nimOf_4b rc v0 v1) xFU (v2, v3, M)
def F_X12_nimOf (rc : Nat → Int32 → xM → Option (Int32 × xM)) (a0 : Nat) (a1 : Int32) (M : xM) : Option (Int32 × xM) :=
F_X12_nimOf_4 rc a0 a1 (0 : Int32) (0 : Int32) M
def R_X12_nimOf : Nat → Nat → Int32 → xM → Option (Int32 × xM)
  | 0 => fun _ _ _ => none
  | n + 1 => F_X12_nimOf (R_X12_nimOf n)
def F_X12_nimOf_top : Nat → Int32 → xM → Option (Int32 × xM) := R_X12_nimOf 7
def Fx_X12_nimOf (a0 : Nat) (a1 : Int32) (M : xM) : Option (Int32 × xM) := R_X12_nimOf 7 a0 a1 M
set_option maxRecDepth 100000 in
set_option maxHeartbeats 4000000 in
theorem F_X12_nimOf_32_ok {dd : Nat} (hdd : 2 ≤ dd) {rc : Nat → Int32 → xM → Option (Int32 × xM)} (hrc0 : ∀ (κ : xQ) (a0 : Nat) (a1 : Int32) (M : xM) (ro : Int32) (mo : xM), rc a0 a1 M = some (ro, mo) → xC l yX12_nimOf cX12_nimOf 4 (some .int) dd 0 0 κ [.ref (κ.1 + a0), .int a1] M (some (.int ro)) mo) (X : xX p s m args c cX12_nimOf 4 RX12 κ) (hr : meth.sig.returnType = (some .int)) (hlk : meth.locks = false) {ro : Int32} {mo : xM} (v0 : Nat) (v1 : Int32) (v2 : Int32) (v3 : Int32) {W4 : Int32 × Int32 × xM → Prop} (hW4 : ∀ (v2 : Int32) (v3 : Int32) (M : xM), W4 (v2, v3, M) → ∀ (H : Heap) (locs : List Loc) (ls : Array Slot), xO κ s M H locs → lv_has ls 4 [(0, .ref (κ.1 + v0)), (1, .int v1), (2, .int v2), (3, .int v3)] → W p l e (xRm (dd + 1) 0 0) s m args below meth c H locs 0 0 (xQf below args s 0 0 κ (some (.int ro)) mo) (F0 m 4 ls [])) (M : xM) (x : (Int32 × Int32 × xM) ⊕ (Int32 × xM)) (h : F_X12_nimOf_32 rc v0 v1 v2 v3 M = some x) (hK : (xKl W4 (fun o => o = (ro, mo))) x) (H : Heap) (locs : List Loc) (ls : Array Slot) (O : xO κ s M H locs) (hl : lv_has ls 4 [(0, .ref (κ.1 + v0)), (1, .int v1), (2, .int v2), (3, .int v3)]) : W p l e (xRm (dd + 1) 0 0) s m args below meth c H locs 0 0 (xQf below args s 0 0 κ (some (.int ro)) mo) (F0 m 32 ls []) := by
  unfold F_X12_nimOf_32 at h
  have hx := X.1
  have hb := X.2.1
  refine lv_iinc (v := (v3 + 1)) (lv' := [(3, .int (v3 + 1)), (0, .ref (κ.1 + v0)), (1, .int v1), (2, .int v2)]) hx hb dX12_nimOf_32 hl (k := 3) rfl rfl (by decide) rfl (fun ls hl => ?_)
  refine lv_goto (tgt := 4) hx hb dX12_nimOf_35 (by decide) ?_
  rw [← Option.some.inj h] at hK
  exact hW4 v2 (v3 + 1) M hK H locs ls O (lv_sub hl [1, 2, 3, 0] rfl)
set_option maxRecDepth 100000 in
set_option maxHeartbeats 4000000 in
theorem F_X12_nimOf_55_ok {dd : Nat} (hdd : 2 ≤ dd) {rc : Nat → Int32 → xM → Option (Int32 × xM)} (hrc0 : ∀ (κ : xQ) (a0 : Nat) (a1 : Int32) (M : xM) (ro : Int32) (mo : xM), rc a0 a1 M = some (ro, mo) → xC l yX12_nimOf cX12_nimOf 4 (some .int) dd 0 0 κ [.ref (κ.1 + a0), .int a1] M (some (.int ro)) mo) (X : xX p s m args c cX12_nimOf 4 RX12 κ) (hr : meth.sig.returnType = (some .int)) (hlk : meth.locks = false) {ro : Int32} {mo : xM} (v3 : Int32) (M : xM) (x : Int32 × xM) (h : F_X12_nimOf_55 rc v3 M = some x) (hK : (fun o => o = (ro, mo)) x) (H : Heap) (locs : List Loc) (ls : Array Slot) (O : xO κ s M H locs) (hl : lv_has ls 4 [(3, .int v3)]) : W p l e (xRm (dd + 1) 0 0) s m args below meth c H locs 0 0 (xQf below args s 0 0 κ (some (.int ro)) mo) (F0 m 55 ls []) := by
  unfold F_X12_nimOf_55 at h
  have hx := X.1
  have hb := X.2.1
  refine lv_iload_n hx hb dX12_nimOf_55 rfl (lv_at hl 0 rfl) ?_
  rw [← Option.some.inj h] at hK
  have hK : (v3, M) = (ro, mo) := hK
  obtain ⟨hK1, hK2⟩ := Prod.mk.inj hK
  rw [hK2] at O
  refine xr_top (w := .int ro) (by rw [hK1]) ?_
  exact xr_iret X hr hlk O dX12_nimOf_56
set_option maxRecDepth 100000 in
set_option maxHeartbeats 4000000 in
theorem F_X12_nimOf_40_bok {dd : Nat} (hdd : 2 ≤ dd) {rc : Nat → Int32 → xM → Option (Int32 × xM)} (hrc0 : ∀ (κ : xQ) (a0 : Nat) (a1 : Int32) (M : xM) (ro : Int32) (mo : xM), rc a0 a1 M = some (ro, mo) → xC l yX12_nimOf cX12_nimOf 4 (some .int) dd 0 0 κ [.ref (κ.1 + a0), .int a1] M (some (.int ro)) mo) (X : xX p s m args c cX12_nimOf 4 RX12 κ) (hr : meth.sig.returnType = (some .int)) (hlk : meth.locks = false) {ro : Int32} {mo : xM} (v2 : Int32) (v3 : Int32) {W40 : Int32 × xM → Prop} (hW40 : ∀ (v3 : Int32) (M : xM), W40 (v3, M) → ∀ (H : Heap) (locs : List Loc) (ls : Array Slot), xO κ s M H locs → lv_has ls 4 [(2, .int v2), (3, .int v3)] → W p l e (xRm (dd + 1) 0 0) s m args below meth c H locs 0 0 (xQf below args s 0 0 κ (some (.int ro)) mo) (F0 m 40 ls [])) (M : xM) (x : (Int32 × xM) ⊕ (Int32 × xM)) (h : F_X12_nimOf_40b rc v2 (v3, M) = some x) (hK : (xKl W40 (fun o => o = (ro, mo))) x) (H : Heap) (locs : List Loc) (ls : Array Slot) (O : xO κ s M H locs) (hl : lv_has ls 4 [(2, .int v2), (3, .int v3)]) : W p l e (xRm (dd + 1) 0 0) s m args below meth c H locs 0 0 (xQf below args s 0 0 κ (some (.int ro)) mo) (F0 m 40 ls []) := by
  unfold F_X12_nimOf_40b at h
  dsimp only at h
  have hx := X.1
  have hb := X.2.1
  refine lv_iload_n hx hb dX12_nimOf_40 rfl (lv_at hl 0 rfl) ?_
  refine lv_i2l (v := v2.toInt64) hx hb dX12_nimOf_41 rfl ?_
  refine lv_iload_n hx hb dX12_nimOf_42 rfl (lv_at hl 1 rfl) ?_
  obtain ⟨t6, ht6, h⟩ := Option.bind_eq_some_iff.mp h
  refine xr_callS (rest := []) X O (T_X12_isIn l κ v2.toInt64 v3 M _ _ ht6) lk_X12_253 (by omega) rfl hl.1 rfl (Nat.le_of_ble_eq_true rfl) dX12_nimOf_43 ⟨Nat.le_of_ble_eq_true rfl, Nat.le_of_ble_eq_true rfl⟩ (fun H locs O => ?_)
  refine W.eq (g2 := F0 m 46 ls [.int t6.1]) rfl ?_
  refine lv_if_eq (tgt := 55) hx hb dX12_nimOf_46 (by decide) (fun hc46 => ?_) (fun hc46 => ?_)
  · rw [if_pos hc46] at h
    obtain ⟨_, hw0, ew0⟩ := Option.map_eq_some_iff.mp h
    rw [← ew0] at hK
    have h := hw0
    exact F_X12_nimOf_55_ok hdd hrc0 X hr hlk v3 t6.2 _ h hK H locs ls O (lv_sub hl [1] rfl)
  rw [if_neg hc46] at h
  refine lv_iinc (v := (v3 + 1)) (lv' := [(3, .int (v3 + 1)), (2, .int v2)]) hx hb dX12_nimOf_49 hl (k := 1) rfl rfl (by decide) rfl (fun ls hl => ?_)
  refine lv_goto (tgt := 40) hx hb dX12_nimOf_52 (by decide) ?_
  rw [← Option.some.inj h] at hK
  exact hW40 (v3 + 1) t6.2 hK H locs ls O (lv_sub hl [1, 0] rfl)
set_option maxRecDepth 100000 in
set_option maxHeartbeats 4000000 in
theorem F_X12_nimOf_40_ok {dd : Nat} (hdd : 2 ≤ dd) {rc : Nat → Int32 → xM → Option (Int32 × xM)} (hrc0 : ∀ (κ : xQ) (a0 : Nat) (a1 : Int32) (M : xM) (ro : Int32) (mo : xM), rc a0 a1 M = some (ro, mo) → xC l yX12_nimOf cX12_nimOf 4 (some .int) dd 0 0 κ [.ref (κ.1 + a0), .int a1] M (some (.int ro)) mo) (X : xX p s m args c cX12_nimOf 4 RX12 κ) (hr : meth.sig.returnType = (some .int)) (hlk : meth.locks = false) {ro : Int32} {mo : xM} (v2 : Int32) (v3 : Int32) (M : xM) (x : Int32 × xM) (h : F_X12_nimOf_40 rc v2 v3 M = some x) (hK : (fun o => o = (ro, mo)) x) (H : Heap) (locs : List Loc) (ls : Array Slot) (O : xO κ s M H locs) (hl : lv_has ls 4 [(2, .int v2), (3, .int v3)]) : W p l e (xRm (dd + 1) 0 0) s m args below meth c H locs 0 0 (xQf below args s 0 0 κ (some (.int ro)) mo) (F0 m 40 ls []) := by
  refine xit_K (Wh := fun x => ∀ (H : Heap) (locs : List Loc) (ls : Array Slot), xO κ s x.2 H locs → lv_has ls 4 [(2, .int v2), (3, .int x.1)] → W p l e (xRm (dd + 1) 0 0) s m args below meth c H locs 0 0 (xQf below args s 0 0 κ (some (.int ro)) mo) (F0 m 40 ls [])) (Kp := (fun o => o = (ro, mo))) ?_ xFU (v3, M) x h hK H locs ls O hl
  intro y x h hK H locs ls O hl
  exact F_X12_nimOf_40_bok hdd hrc0 X hr hlk v2 y.1 (fun _ _ hw => hw) y.2 x h hK H locs ls O hl
set_option maxRecDepth 100000 in
set_option maxHeartbeats 4000000 in
theorem F_X12_nimOf_38_ok {dd : Nat} (hdd : 2 ≤ dd) {rc : Nat → Int32 → xM → Option (Int32 × xM)} (hrc0 : ∀ (κ : xQ) (a0 : Nat) (a1 : Int32) (M : xM) (ro : Int32) (mo : xM), rc a0 a1 M = some (ro, mo) → xC l yX12_nimOf cX12_nimOf 4 (some .int) dd 0 0 κ [.ref (κ.1 + a0), .int a1] M (some (.int ro)) mo) (X : xX p s m args c cX12_nimOf 4 RX12 κ) (hr : meth.sig.returnType = (some .int)) (hlk : meth.locks = false) {ro : Int32} {mo : xM} (v2 : Int32) (M : xM) (x : Int32 × xM) (h : F_X12_nimOf_38 rc v2 M = some x) (hK : (fun o => o = (ro, mo)) x) (H : Heap) (locs : List Loc) (ls : Array Slot) (O : xO κ s M H locs) (hl : lv_has ls 4 [(2, .int v2)]) : W p l e (xRm (dd + 1) 0 0) s m args below meth c H locs 0 0 (xQf below args s 0 0 κ (some (.int ro)) mo) (F0 m 38 ls []) := by
  unfold F_X12_nimOf_38 at h
  have hx := X.1
  have hb := X.2.1
  refine lv_iconst (v := (0 : Int32)) hx hb dX12_nimOf_38 (by decide) ?_
  refine lv_istore_n (lv' := [(3, .int (0 : Int32)), (2, .int v2)]) hx hb dX12_nimOf_39 rfl hl (by decide) rfl (fun ls hl => ?_)
  exact F_X12_nimOf_40_ok hdd hrc0 X hr hlk v2 (0 : Int32) M _ h hK H locs ls O (lv_sub hl [1, 0] rfl)
set_option maxRecDepth 100000 in
set_option maxHeartbeats 4000000 in
theorem F_X12_nimOf_4_bok {dd : Nat} (hdd : 2 ≤ dd) {rc : Nat → Int32 → xM → Option (Int32 × xM)} (hrc0 : ∀ (κ : xQ) (a0 : Nat) (a1 : Int32) (M : xM) (ro : Int32) (mo : xM), rc a0 a1 M = some (ro, mo) → xC l yX12_nimOf cX12_nimOf 4 (some .int) dd 0 0 κ [.ref (κ.1 + a0), .int a1] M (some (.int ro)) mo) (X : xX p s m args c cX12_nimOf 4 RX12 κ) (hr : meth.sig.returnType = (some .int)) (hlk : meth.locks = false) {ro : Int32} {mo : xM} (v0 : Nat) (v1 : Int32) (v2 : Int32) (v3 : Int32) {W4 : Int32 × Int32 × xM → Prop} (hW4 : ∀ (v2 : Int32) (v3 : Int32) (M : xM), W4 (v2, v3, M) → ∀ (H : Heap) (locs : List Loc) (ls : Array Slot), xO κ s M H locs → lv_has ls 4 [(0, .ref (κ.1 + v0)), (1, .int v1), (2, .int v2), (3, .int v3)] → W p l e (xRm (dd + 1) 0 0) s m args below meth c H locs 0 0 (xQf below args s 0 0 κ (some (.int ro)) mo) (F0 m 4 ls [])) (M : xM) (x : (Int32 × Int32 × xM) ⊕ (Int32 × xM)) (h : F_X12_nimOf_4b rc v0 v1 (v2, v3, M) = some x) (hK : (xKl W4 (fun o => o = (ro, mo))) x) (H : Heap) (locs : List Loc) (ls : Array Slot) (O : xO κ s M H locs) (hl : lv_has ls 4 [(0, .ref (κ.1 + v0)), (1, .int v1), (2, .int v2), (3, .int v3)]) : W p l e (xRm (dd + 1) 0 0) s m args below meth c H locs 0 0 (xQf below args s 0 0 κ (some (.int ro)) mo) (F0 m 4 ls []) := by
  unfold F_X12_nimOf_4b at h
  dsimp only at h
  have hx := X.1
  have hb := X.2.1
  refine lv_iload_n hx hb dX12_nimOf_4 rfl (lv_at hl 3 rfl) ?_
  refine lv_iconst (v := (5 : Int32)) hx hb dX12_nimOf_5 (by decide) ?_
  refine lv_icmp_ge (tgt := 38) hx hb dX12_nimOf_6 (by decide) (fun hc6 => ?_) (fun hc6 => ?_)
  · rw [if_pos hc6] at h
    obtain ⟨_, hw0, ew0⟩ := Option.map_eq_some_iff.mp h
    rw [← ew0] at hK
    have h := hw0
    exact F_X12_nimOf_38_ok hdd hrc0 X hr hlk v2 M _ h hK H locs ls O (lv_sub hl [2] rfl)
  rw [if_neg hc6] at h
  refine lv_iload_n hx hb dX12_nimOf_9 rfl (lv_at hl 1 rfl) ?_
  refine lv_i2l (v := v1.toInt64) hx hb dX12_nimOf_10 rfl ?_
  refine lv_iload_n hx hb dX12_nimOf_11 rfl (lv_at hl 3 rfl) ?_
  obtain ⟨t1, ht1, h⟩ := Option.bind_eq_some_iff.mp h
  refine xr_callS (rest := []) X O (T_X12_isIn l κ v1.toInt64 v3 M _ _ ht1) lk_X12_253 (by omega) rfl hl.1 rfl (Nat.le_of_ble_eq_true rfl) dX12_nimOf_12 ⟨Nat.le_of_ble_eq_true rfl, Nat.le_of_ble_eq_true rfl⟩ (fun H locs O => ?_)
  refine W.eq (g2 := F0 m 15 ls [.int t1.1]) rfl ?_
  refine lv_if_eq (tgt := 32) hx hb dX12_nimOf_15 (by decide) (fun hc15 => ?_) (fun hc15 => ?_)
  · rw [if_pos hc15] at h
    exact F_X12_nimOf_32_ok hdd hrc0 X hr hlk v0 v1 v2 v3 hW4 t1.2 _ h hK H locs ls O (lv_sub hl [0, 1, 2, 3] rfl)
  rw [if_neg hc15] at h
  refine lv_iload_n hx hb dX12_nimOf_18 rfl (lv_at hl 2 rfl) ?_
  refine lv_iconst (v := (1 : Int32)) hx hb dX12_nimOf_19 (by decide) ?_
  refine lv_aload_n hx hb dX12_nimOf_20 rfl (lv_at hl 0 rfl) ?_
  refine lv_iload_n hx hb dX12_nimOf_21 rfl (lv_at hl 1 rfl) ?_
  refine lv_iload_n hx hb dX12_nimOf_22 rfl (lv_at hl 3 rfl) ?_
  obtain ⟨t2, ht2, h⟩ := Option.bind_eq_some_iff.mp h
  refine xr_callS (rest := [.ref (κ.1 + v0), .int (1 : Int32), .int v2]) X O (T_X12_putTo l κ v1 v3 t1.2 _ _ ht2) lk_X12_444 (by omega) rfl hl.1 rfl (Nat.le_of_ble_eq_true rfl) dX12_nimOf_23 ⟨Nat.le_of_ble_eq_true rfl, Nat.le_of_ble_eq_true rfl⟩ (fun H locs O => ?_)
  refine W.eq (g2 := F0 m 26 ls [.int t2.1, .ref (κ.1 + v0), .int (1 : Int32), .int v2]) rfl ?_
  obtain ⟨_, hut3, h⟩ := Option.bind_eq_some_iff.mp h
  obtain ⟨t4, ht4, h⟩ := Option.bind_eq_some_iff.mp h
  refine xr_callV (rest := [.int (1 : Int32), .int v2]) X O (hrc0 κ v0 t2.1 t2.2 _ _ ht4) lk_X12_447 hut3 (Nat.le_refl _) rfl hl.1 rfl (Nat.le_of_ble_eq_true rfl) dX12_nimOf_26 ⟨Nat.le_of_ble_eq_true rfl, Nat.le_of_ble_eq_true rfl⟩ (fun H locs O => ?_)
  refine W.eq (g2 := F0 m 29 ls [.int t4.1, .int (1 : Int32), .int v2]) rfl ?_
  refine lv_ishl hx hb dX12_nimOf_29 ?_
  refine lv_ior hx hb dX12_nimOf_30 ?_
  obtain ⟨t5, ht5, h⟩ := Option.bind_eq_some_iff.mp h
  refine xr_top (w := .int t5) (by rw [Option.some.inj ht5]) ?_
  refine lv_istore_n (lv' := [(2, .int t5), (0, .ref (κ.1 + v0)), (1, .int v1), (3, .int v3)]) hx hb dX12_nimOf_31 rfl hl (by decide) rfl (fun ls hl => ?_)
  exact F_X12_nimOf_32_ok hdd hrc0 X hr hlk v0 v1 t5 v3 hW4 t4.2 _ h hK H locs ls O (lv_sub hl [1, 2, 0, 3] rfl)
set_option maxRecDepth 100000 in
set_option maxHeartbeats 4000000 in
theorem F_X12_nimOf_4_ok {dd : Nat} (hdd : 2 ≤ dd) {rc : Nat → Int32 → xM → Option (Int32 × xM)} (hrc0 : ∀ (κ : xQ) (a0 : Nat) (a1 : Int32) (M : xM) (ro : Int32) (mo : xM), rc a0 a1 M = some (ro, mo) → xC l yX12_nimOf cX12_nimOf 4 (some .int) dd 0 0 κ [.ref (κ.1 + a0), .int a1] M (some (.int ro)) mo) (X : xX p s m args c cX12_nimOf 4 RX12 κ) (hr : meth.sig.returnType = (some .int)) (hlk : meth.locks = false) {ro : Int32} {mo : xM} (v0 : Nat) (v1 : Int32) (v2 : Int32) (v3 : Int32) (M : xM) (x : Int32 × xM) (h : F_X12_nimOf_4 rc v0 v1 v2 v3 M = some x) (hK : (fun o => o = (ro, mo)) x) (H : Heap) (locs : List Loc) (ls : Array Slot) (O : xO κ s M H locs) (hl : lv_has ls 4 [(0, .ref (κ.1 + v0)), (1, .int v1), (2, .int v2), (3, .int v3)]) : W p l e (xRm (dd + 1) 0 0) s m args below meth c H locs 0 0 (xQf below args s 0 0 κ (some (.int ro)) mo) (F0 m 4 ls []) := by
  refine xit_K (Wh := fun x => ∀ (H : Heap) (locs : List Loc) (ls : Array Slot), xO κ s x.2.2 H locs → lv_has ls 4 [(0, .ref (κ.1 + v0)), (1, .int v1), (2, .int x.1), (3, .int x.2.1)] → W p l e (xRm (dd + 1) 0 0) s m args below meth c H locs 0 0 (xQf below args s 0 0 κ (some (.int ro)) mo) (F0 m 4 ls [])) (Kp := (fun o => o = (ro, mo))) ?_ xFU (v2, v3, M) x h hK H locs ls O hl
  intro y x h hK H locs ls O hl
  exact F_X12_nimOf_4_bok hdd hrc0 X hr hlk v0 v1 y.1 y.2.1 (fun _ _ _ hw => hw) y.2.2 x h hK H locs ls O hl
set_option maxRecDepth 100000 in
set_option maxHeartbeats 4000000 in
theorem To_X12_nimOf (l : Launch) {dd : Nat} (hdd : 2 ≤ dd) {rc : Nat → Int32 → xM → Option (Int32 × xM)} (hrc0 : ∀ (κ : xQ) (a0 : Nat) (a1 : Int32) (M : xM) (ro : Int32) (mo : xM), rc a0 a1 M = some (ro, mo) → xC l yX12_nimOf cX12_nimOf 4 (some .int) dd 0 0 κ [.ref (κ.1 + a0), .int a1] M (some (.int ro)) mo) (κ : xQ) (a0 : Nat) (a1 : Int32) (M : xM) (ro : Int32) (mo : xM) (h : F_X12_nimOf rc a0 a1 M = some (ro, mo)) : xC l yX12_nimOf cX12_nimOf 4 (some .int) (dd + 1) 0 0 κ [.ref (κ.1 + a0), .int a1] M (some (.int ro)) mo := by
  refine xC_of rfl (Nat.le_of_ble_eq_true rfl) fun p e s m args below meth c X hr hlk hnm H locs ls O hl => ?_
  have X : xX p s m args c cX12_nimOf 4 RX12 κ := X
  have hl : lv_has ls 4 [(0, .ref (κ.1 + a0)), (1, .int a1)] := hl
  have hx := X.1
  have hb := X.2.1
  obtain ⟨x, hx0⟩ : ∃ x, (ro, mo) = x := ⟨_, rfl⟩
  rw [hx0] at h
  have hK : x = (ro, mo) := hx0.symm
  unfold F_X12_nimOf at h
  refine lv_iconst (v := (0 : Int32)) hx hb dX12_nimOf_0 (by decide) ?_
  refine lv_istore_n (lv' := [(2, .int (0 : Int32)), (0, .ref (κ.1 + a0)), (1, .int a1)]) hx hb dX12_nimOf_1 rfl hl (by decide) rfl (fun ls hl => ?_)
  refine lv_iconst (v := (0 : Int32)) hx hb dX12_nimOf_2 (by decide) ?_
  refine lv_istore_n (lv' := [(3, .int (0 : Int32)), (2, .int (0 : Int32)), (0, .ref (κ.1 + a0)), (1, .int a1)]) hx hb dX12_nimOf_3 rfl hl (by decide) rfl (fun ls hl => ?_)
  exact F_X12_nimOf_4_ok hdd hrc0 X hr hlk a0 a1 (0 : Int32) (0 : Int32) M _ h hK H locs ls O (lv_sub hl [2, 3, 1, 0] rfl)
set_option maxRecDepth 100000 in
set_option maxHeartbeats 4000000 in
theorem K_X12_nimOf (l : Launch) : ∀ n : Nat, (∀ (κ : xQ) (a0 : Nat) (a1 : Int32) (M : xM) (ro : Int32) (mo : xM), R_X12_nimOf n a0 a1 M = some (ro, mo) → xC l yX12_nimOf cX12_nimOf 4 (some .int) (2 + n) 0 0 κ [.ref (κ.1 + a0), .int a1] M (some (.int ro)) mo) := by
  intro n
  induction n with
  | zero => exact fun κ a0 a1 M ro mo h => (by cases h)
  | succ n h0 => exact fun κ a0 a1 M ro mo h => To_X12_nimOf l (dd := 2 + n) (Nat.le_add_right _ _) h0 κ a0 a1 M ro mo h
set_option maxRecDepth 100000 in
set_option maxHeartbeats 4000000 in
theorem Tx_X12_nimOf (l : Launch) (κ : xQ) (a0 : Nat) (a1 : Int32) (M : xM) (ro : Int32) (mo : xM) (h : Fx_X12_nimOf a0 a1 M = some (ro, mo)) : xC l yX12_nimOf cX12_nimOf 4 (some .int) 9 0 0 κ [.ref (κ.1 + a0), .int a1] M (some (.int ro)) mo := (K_X12_nimOf l 7) κ a0 a1 M ro mo h
def F_X12_puts_65 (v0 : Nat) (v1 : Int32) (v3 : Int32) (M : xM) : Option (Int32 × xM) :=
(xgP M v0 12 1).bind fun t13 =>
(xaI M 20 t13 (2 : Int32)).bind fun t14 =>
some (((t14 * v1) + v3), M)
def F_X12_puts_76 (v0 : Nat) (v1 : Int32) (v2 : Int32) (v3 : Int32) (M : xM) : Option ((Int32 × xM) ⊕ (Int32 × xM)) :=
some (.inl ((v3 + 1), M))
def F_X12_puts_82 (M : xM) : Option (Int32 × xM) :=
some ((-1 : Int32), M)
def F_X12_puts_34b (v0 : Nat) (v1 : Int32) (v2 : Int32) : (Int32 × xM) → Option ((Int32 × xM) ⊕ (Int32 × xM)) := fun ⟨v3, M⟩ =>
(xgP M v0 12 1).bind fun t7 =>
(xaI M 20 t7 (2 : Int32)).bind fun t8 =>
if t8 ≤ v3 then (
(F_X12_puts_82 M).map Sum.inr)
else (
(F_X12_isIn v2.toInt64 v3 M).bind fun t9 =>
if t9.1 = 0 then (
F_X12_puts_76 v0 v1 v2 v3 t9.2)
else (
(F_X12_putTo v2 v3 t9.2).bind fun t10 =>
(xck t10.2 v0 12).bind fun _ =>
(Fx_X12_nimOf v0 t10.1 t10.2).bind fun t12 =>
if t12.1 = 0 then (
(F_X12_puts_65 v0 v1 v3 t12.2).map Sum.inr)
else (
F_X12_puts_76 v0 v1 v2 v3 t12.2)))
def F_X12_puts_34 (v0 : Nat) (v1 : Int32) (v2 : Int32) (v3 : Int32) (M : xM) : Option (Int32 × xM) := xit (F_X12_puts_34b v0 v1 v2) xFU (v3, M)
def F_X12_puts (a0 : Nat) (a1 : Int32) (M : xM) : Option (Int32 × xM) :=
(xpI M a0 12 0 (0 : Int32)).bind fun t1 =>
(xgP t1 a0 12 1).bind fun t2 =>
(xaI t1 20 t2 (1 : Int32)).bind fun t3 =>
(F_X12_within a1.toInt64 (0 : Int64) (t3 - (1 : Int32)).toInt64 t1).bind fun t4 =>
if t4.1 = 0 then (
some ((-2 : Int32), t4.2))
else (
(xck t4.2 a0 12).bind fun _ =>
(F_X12_freeIn a0 a1 t4.2).bind fun t6 =>
F_X12_puts_34 a0 a1 t6.1 (0 : Int32) t6.2)
set_option maxRecDepth 100000 in
set_option maxHeartbeats 4000000 in
theorem F_X12_puts_65_ok (X : xX p s m args c cX12_puts 4 RX12 κ) (hr : meth.sig.returnType = (some .int)) (hlk : meth.locks = false) {ro : Int32} {mo : xM} (v0 : Nat) (v1 : Int32) (v3 : Int32) (M : xM) (x : Int32 × xM) (h : F_X12_puts_65 v0 v1 v3 M = some x) (hK : (fun o => o = (ro, mo)) x) (H : Heap) (locs : List Loc) (ls : Array Slot) (O : xO κ s M H locs) (hl : lv_has ls 4 [(0, .ref (κ.1 + v0)), (1, .int v1), (3, .int v3)]) : W p l e (xRm 10 0 0) s m args below meth c H locs 0 0 (xQf below args s 0 0 κ (some (.int ro)) mo) (F0 m 65 ls []) := by
  unfold F_X12_puts_65 at h
  have hx := X.1
  have hb := X.2.1
  refine lv_aload_n hx hb dX12_puts_65 rfl (lv_at hl 0 rfl) ?_
  obtain ⟨t13, ht13, h⟩ := Option.bind_eq_some_iff.mp h
  refine xr_getP X O ht13 fl_X12_13 dX12_puts_66 ?_
  refine lv_iconst (v := (2 : Int32)) hx hb dX12_puts_69 (by decide) ?_
  obtain ⟨t14, ht14, h⟩ := Option.bind_eq_some_iff.mp h
  refine xr_aldI X O ht14 dX12_puts_70 ?_
  refine lv_iload_n hx hb dX12_puts_71 rfl (lv_at hl 1 rfl) ?_
  refine lv_imul hx hb dX12_puts_72 ?_
  refine lv_iload_n hx hb dX12_puts_73 rfl (lv_at hl 2 rfl) ?_
  refine lv_iadd hx hb dX12_puts_74 ?_
  rw [← Option.some.inj h] at hK
  have hK : (((t14 * v1) + v3), M) = (ro, mo) := hK
  obtain ⟨hK1, hK2⟩ := Prod.mk.inj hK
  rw [hK2] at O
  refine xr_top (w := .int ro) (by rw [hK1]) ?_
  exact xr_iret X hr hlk O dX12_puts_75
set_option maxRecDepth 100000 in
set_option maxHeartbeats 4000000 in
theorem F_X12_puts_76_ok (X : xX p s m args c cX12_puts 4 RX12 κ) (hr : meth.sig.returnType = (some .int)) (hlk : meth.locks = false) {ro : Int32} {mo : xM} (v0 : Nat) (v1 : Int32) (v2 : Int32) (v3 : Int32) {W34 : Int32 × xM → Prop} (hW34 : ∀ (v3 : Int32) (M : xM), W34 (v3, M) → ∀ (H : Heap) (locs : List Loc) (ls : Array Slot), xO κ s M H locs → lv_has ls 4 [(0, .ref (κ.1 + v0)), (1, .int v1), (2, .int v2), (3, .int v3)] → W p l e (xRm 10 0 0) s m args below meth c H locs 0 0 (xQf below args s 0 0 κ (some (.int ro)) mo) (F0 m 34 ls [])) (M : xM) (x : (Int32 × xM) ⊕ (Int32 × xM)) (h : F_X12_puts_76 v0 v1 v2 v3 M = some x) (hK : (xKl W34 (fun o => o = (ro, mo))) x) (H : Heap) (locs : List Loc) (ls : Array Slot) (O : xO κ s M H locs) (hl : lv_has ls 4 [(0, .ref (κ.1 + v0)), (1, .int v1), (2, .int v2), (3, .int v3)]) : W p l e (xRm 10 0 0) s m args below meth c H locs 0 0 (xQf below args s 0 0 κ (some (.int ro)) mo) (F0 m 76 ls []) := by
  unfold F_X12_puts_76 at h
  have hx := X.1
  have hb := X.2.1
  refine lv_iinc (v := (v3 + 1)) (lv' := [(3, .int (v3 + 1)), (0, .ref (κ.1 + v0)), (1, .int v1), (2, .int v2)]) hx hb dX12_puts_76 hl (k := 3) rfl rfl (by decide) rfl (fun ls hl => ?_)
  refine lv_goto (tgt := 34) hx hb dX12_puts_79 (by decide) ?_
  rw [← Option.some.inj h] at hK
  exact hW34 (v3 + 1) M hK H locs ls O (lv_sub hl [1, 2, 3, 0] rfl)
set_option maxRecDepth 100000 in
set_option maxHeartbeats 4000000 in
theorem F_X12_puts_82_ok (X : xX p s m args c cX12_puts 4 RX12 κ) (hr : meth.sig.returnType = (some .int)) (hlk : meth.locks = false) {ro : Int32} {mo : xM} (M : xM) (x : Int32 × xM) (h : F_X12_puts_82 M = some x) (hK : (fun o => o = (ro, mo)) x) (H : Heap) (locs : List Loc) (ls : Array Slot) (O : xO κ s M H locs) (hl : lv_has ls 4 []) : W p l e (xRm 10 0 0) s m args below meth c H locs 0 0 (xQf below args s 0 0 κ (some (.int ro)) mo) (F0 m 82 ls []) := by
  unfold F_X12_puts_82 at h
  have hx := X.1
  have hb := X.2.1
  refine lv_iconst (v := (-1 : Int32)) hx hb dX12_puts_82 (by decide) ?_
  rw [← Option.some.inj h] at hK
  have hK : ((-1 : Int32), M) = (ro, mo) := hK
  obtain ⟨hK1, hK2⟩ := Prod.mk.inj hK
  rw [hK2] at O
  refine xr_top (w := .int ro) (by rw [hK1]) ?_
  exact xr_iret X hr hlk O dX12_puts_83
set_option maxRecDepth 100000 in
set_option maxHeartbeats 4000000 in
theorem F_X12_puts_34_bok (X : xX p s m args c cX12_puts 4 RX12 κ) (hr : meth.sig.returnType = (some .int)) (hlk : meth.locks = false) {ro : Int32} {mo : xM} (v0 : Nat) (v1 : Int32) (v2 : Int32) (v3 : Int32) {W34 : Int32 × xM → Prop} (hW34 : ∀ (v3 : Int32) (M : xM), W34 (v3, M) → ∀ (H : Heap) (locs : List Loc) (ls : Array Slot), xO κ s M H locs → lv_has ls 4 [(0, .ref (κ.1 + v0)), (1, .int v1), (2, .int v2), (3, .int v3)] → W p l e (xRm 10 0 0) s m args below meth c H locs 0 0 (xQf below args s 0 0 κ (some (.int ro)) mo) (F0 m 34 ls [])) (M : xM) (x : (Int32 × xM) ⊕ (Int32 × xM)) (h : F_X12_puts_34b v0 v1 v2 (v3, M) = some x) (hK : (xKl W34 (fun o => o = (ro, mo))) x) (H : Heap) (locs : List Loc) (ls : Array Slot) (O : xO κ s M H locs) (hl : lv_has ls 4 [(0, .ref (κ.1 + v0)), (1, .int v1), (2, .int v2), (3, .int v3)]) : W p l e (xRm 10 0 0) s m args below meth c H locs 0 0 (xQf below args s 0 0 κ (some (.int ro)) mo) (F0 m 34 ls []) := by
  unfold F_X12_puts_34b at h
  dsimp only at h
  have hx := X.1
  have hb := X.2.1
  refine lv_iload_n hx hb dX12_puts_34 rfl (lv_at hl 3 rfl) ?_
  refine lv_aload_n hx hb dX12_puts_35 rfl (lv_at hl 0 rfl) ?_
  obtain ⟨t7, ht7, h⟩ := Option.bind_eq_some_iff.mp h
  refine xr_getP X O ht7 fl_X12_13 dX12_puts_36 ?_
  refine lv_iconst (v := (2 : Int32)) hx hb dX12_puts_39 (by decide) ?_
  obtain ⟨t8, ht8, h⟩ := Option.bind_eq_some_iff.mp h
  refine xr_aldI X O ht8 dX12_puts_40 ?_
  refine lv_icmp_ge (tgt := 82) hx hb dX12_puts_41 (by decide) (fun hc41 => ?_) (fun hc41 => ?_)
  · rw [if_pos hc41] at h
    obtain ⟨_, hw0, ew0⟩ := Option.map_eq_some_iff.mp h
    rw [← ew0] at hK
    have h := hw0
    exact F_X12_puts_82_ok X hr hlk  M _ h hK H locs ls O (lv_sub hl [] rfl)
  rw [if_neg hc41] at h
  refine lv_iload_n hx hb dX12_puts_44 rfl (lv_at hl 2 rfl) ?_
  refine lv_i2l (v := v2.toInt64) hx hb dX12_puts_45 rfl ?_
  refine lv_iload_n hx hb dX12_puts_46 rfl (lv_at hl 3 rfl) ?_
  obtain ⟨t9, ht9, h⟩ := Option.bind_eq_some_iff.mp h
  refine xr_callS (rest := []) X O (T_X12_isIn l κ v2.toInt64 v3 M _ _ ht9) lk_X12_253 (Nat.le_of_ble_eq_true rfl) rfl hl.1 rfl (Nat.le_of_ble_eq_true rfl) dX12_puts_47 ⟨Nat.le_of_ble_eq_true rfl, Nat.le_of_ble_eq_true rfl⟩ (fun H locs O => ?_)
  refine W.eq (g2 := F0 m 50 ls [.int t9.1]) rfl ?_
  refine lv_if_eq (tgt := 76) hx hb dX12_puts_50 (by decide) (fun hc50 => ?_) (fun hc50 => ?_)
  · rw [if_pos hc50] at h
    exact F_X12_puts_76_ok X hr hlk v0 v1 v2 v3 hW34 t9.2 _ h hK H locs ls O (lv_sub hl [0, 1, 2, 3] rfl)
  rw [if_neg hc50] at h
  refine lv_aload_n hx hb dX12_puts_53 rfl (lv_at hl 0 rfl) ?_
  refine lv_iload_n hx hb dX12_puts_54 rfl (lv_at hl 2 rfl) ?_
  refine lv_iload_n hx hb dX12_puts_55 rfl (lv_at hl 3 rfl) ?_
  obtain ⟨t10, ht10, h⟩ := Option.bind_eq_some_iff.mp h
  refine xr_callS (rest := [.ref (κ.1 + v0)]) X O (T_X12_putTo l κ v2 v3 t9.2 _ _ ht10) lk_X12_444 (Nat.le_of_ble_eq_true rfl) rfl hl.1 rfl (Nat.le_of_ble_eq_true rfl) dX12_puts_56 ⟨Nat.le_of_ble_eq_true rfl, Nat.le_of_ble_eq_true rfl⟩ (fun H locs O => ?_)
  refine W.eq (g2 := F0 m 59 ls [.int t10.1, .ref (κ.1 + v0)]) rfl ?_
  obtain ⟨_, hut11, h⟩ := Option.bind_eq_some_iff.mp h
  obtain ⟨t12, ht12, h⟩ := Option.bind_eq_some_iff.mp h
  refine xr_callV (rest := []) X O (Tx_X12_nimOf l κ v0 t10.1 t10.2 _ _ ht12) lk_X12_447 hut11 (Nat.le_of_ble_eq_true rfl) rfl hl.1 rfl (Nat.le_of_ble_eq_true rfl) dX12_puts_59 ⟨Nat.le_of_ble_eq_true rfl, Nat.le_of_ble_eq_true rfl⟩ (fun H locs O => ?_)
  refine W.eq (g2 := F0 m 62 ls [.int t12.1]) rfl ?_
  refine lv_if_ne (tgt := 76) hx hb dX12_puts_62 (by decide) (fun hc62 => ?_) (fun hc62 => ?_)
  · rw [if_neg hc62] at h
    exact F_X12_puts_76_ok X hr hlk v0 v1 v2 v3 hW34 t12.2 _ h hK H locs ls O (lv_sub hl [0, 1, 2, 3] rfl)
  rw [if_pos hc62] at h
  obtain ⟨_, hw0, ew0⟩ := Option.map_eq_some_iff.mp h
  rw [← ew0] at hK
  have h := hw0
  exact F_X12_puts_65_ok X hr hlk v0 v1 v3 t12.2 _ h hK H locs ls O (lv_sub hl [0, 1, 3] rfl)
set_option maxRecDepth 100000 in
set_option maxHeartbeats 4000000 in
theorem F_X12_puts_34_ok (X : xX p s m args c cX12_puts 4 RX12 κ) (hr : meth.sig.returnType = (some .int)) (hlk : meth.locks = false) {ro : Int32} {mo : xM} (v0 : Nat) (v1 : Int32) (v2 : Int32) (v3 : Int32) (M : xM) (x : Int32 × xM) (h : F_X12_puts_34 v0 v1 v2 v3 M = some x) (hK : (fun o => o = (ro, mo)) x) (H : Heap) (locs : List Loc) (ls : Array Slot) (O : xO κ s M H locs) (hl : lv_has ls 4 [(0, .ref (κ.1 + v0)), (1, .int v1), (2, .int v2), (3, .int v3)]) : W p l e (xRm 10 0 0) s m args below meth c H locs 0 0 (xQf below args s 0 0 κ (some (.int ro)) mo) (F0 m 34 ls []) := by
  refine xit_K (Wh := fun x => ∀ (H : Heap) (locs : List Loc) (ls : Array Slot), xO κ s x.2 H locs → lv_has ls 4 [(0, .ref (κ.1 + v0)), (1, .int v1), (2, .int v2), (3, .int x.1)] → W p l e (xRm 10 0 0) s m args below meth c H locs 0 0 (xQf below args s 0 0 κ (some (.int ro)) mo) (F0 m 34 ls [])) (Kp := (fun o => o = (ro, mo))) ?_ xFU (v3, M) x h hK H locs ls O hl
  intro y x h hK H locs ls O hl
  exact F_X12_puts_34_bok X hr hlk v0 v1 v2 y.1 (fun _ _ hw => hw) y.2 x h hK H locs ls O hl
set_option maxRecDepth 100000 in
set_option maxHeartbeats 4000000 in
theorem T_X12_puts (l : Launch) (κ : xQ) (a0 : Nat) (a1 : Int32) (M : xM) (ro : Int32) (mo : xM) (h : F_X12_puts a0 a1 M = some (ro, mo)) : xC l yX12_puts cX12_puts 4 (some .int) 10 0 0 κ [.ref (κ.1 + a0), .int a1] M (some (.int ro)) mo := by
  refine xC_of rfl (Nat.le_of_ble_eq_true rfl) fun p e s m args below meth c X hr hlk hnm H locs ls O hl => ?_
  have X : xX p s m args c cX12_puts 4 RX12 κ := X
  have hl : lv_has ls 4 [(0, .ref (κ.1 + a0)), (1, .int a1)] := hl
  have hx := X.1
  have hb := X.2.1
  obtain ⟨x, hx0⟩ : ∃ x, (ro, mo) = x := ⟨_, rfl⟩
  rw [hx0] at h
  have hK : x = (ro, mo) := hx0.symm
  unfold F_X12_puts at h
  refine lv_aload_n hx hb dX12_puts_0 rfl (lv_at hl 0 rfl) ?_
  refine lv_iconst (v := (0 : Int32)) hx hb dX12_puts_1 (by decide) ?_
  obtain ⟨t1, ht1, h⟩ := Option.bind_eq_some_iff.mp h
  refine xr_putI X O ht1 fl_X12_1 dX12_puts_2 (fun H locs O => ?_)
  refine lv_iload_n hx hb dX12_puts_5 rfl (lv_at hl 1 rfl) ?_
  refine lv_i2l (v := a1.toInt64) hx hb dX12_puts_6 rfl ?_
  refine lv_lconst (v := (0 : Int64)) hx hb dX12_puts_7 (by decide) ?_
  refine lv_aload_n hx hb dX12_puts_8 rfl (lv_at hl 0 rfl) ?_
  obtain ⟨t2, ht2, h⟩ := Option.bind_eq_some_iff.mp h
  refine xr_getP X O ht2 fl_X12_13 dX12_puts_9 ?_
  refine lv_iconst (v := (1 : Int32)) hx hb dX12_puts_12 (by decide) ?_
  obtain ⟨t3, ht3, h⟩ := Option.bind_eq_some_iff.mp h
  refine xr_aldI X O ht3 dX12_puts_13 ?_
  refine lv_iconst (v := (1 : Int32)) hx hb dX12_puts_14 (by decide) ?_
  refine lv_isub hx hb dX12_puts_15 ?_
  refine lv_i2l (v := (t3 - (1 : Int32)).toInt64) hx hb dX12_puts_16 rfl ?_
  obtain ⟨t4, ht4, h⟩ := Option.bind_eq_some_iff.mp h
  refine xr_callS (rest := []) X O (T_X12_within l κ a1.toInt64 (0 : Int64) (t3 - (1 : Int32)).toInt64 t1 _ _ ht4) lk_X12_145 (Nat.le_of_ble_eq_true rfl) rfl hl.1 rfl (Nat.le_of_ble_eq_true rfl) dX12_puts_17 ⟨Nat.le_of_ble_eq_true rfl, Nat.le_of_ble_eq_true rfl⟩ (fun H locs O => ?_)
  refine W.eq (g2 := F0 m 20 ls [.int t4.1]) rfl ?_
  refine lv_if_ne (tgt := 26) hx hb dX12_puts_20 (by decide) (fun hc20 => ?_) (fun hc20 => ?_)
  · rw [if_neg hc20] at h
    refine lv_aload_n hx hb dX12_puts_26 rfl (lv_at hl 0 rfl) ?_
    refine lv_iload_n hx hb dX12_puts_27 rfl (lv_at hl 1 rfl) ?_
    obtain ⟨_, hut5, h⟩ := Option.bind_eq_some_iff.mp h
    obtain ⟨t6, ht6, h⟩ := Option.bind_eq_some_iff.mp h
    refine xr_callV (rest := []) X O (T_X12_freeIn l κ a0 a1 t4.2 _ _ ht6) lk_X12_450 hut5 (Nat.le_of_ble_eq_true rfl) rfl hl.1 rfl (Nat.le_of_ble_eq_true rfl) dX12_puts_28 ⟨Nat.le_of_ble_eq_true rfl, Nat.le_of_ble_eq_true rfl⟩ (fun H locs O => ?_)
    refine W.eq (g2 := F0 m 31 ls [.int t6.1]) rfl ?_
    refine lv_istore_n (lv' := [(2, .int t6.1), (0, .ref (κ.1 + a0)), (1, .int a1)]) hx hb dX12_puts_31 rfl hl (by decide) rfl (fun ls hl => ?_)
    refine lv_iconst (v := (0 : Int32)) hx hb dX12_puts_32 (by decide) ?_
    refine lv_istore_n (lv' := [(3, .int (0 : Int32)), (2, .int t6.1), (0, .ref (κ.1 + a0)), (1, .int a1)]) hx hb dX12_puts_33 rfl hl (by decide) rfl (fun ls hl => ?_)
    exact F_X12_puts_34_ok X hr hlk a0 a1 t6.1 (0 : Int32) t6.2 _ h hK H locs ls O (lv_sub hl [2, 3, 1, 0] rfl)
  rw [if_pos hc20] at h
  refine lv_bipush (v := (-2 : Int32)) hx hb dX12_puts_23 (by decide) ?_
  rw [← Option.some.inj h] at hK
  have hK : ((-2 : Int32), t4.2) = (ro, mo) := hK
  obtain ⟨hK1, hK2⟩ := Prod.mk.inj hK
  rw [hK2] at O
  refine xr_top (w := .int ro) (by rw [hK1]) ?_
  exact xr_iret X hr hlk O dX12_puts_25
def F_X12_wins_37 (v1 : Int32) (M : xM) : Option (Int32 × xM) :=
if v1 = 0 then (
some ((0 : Int32), M))
else (
some ((1 : Int32), M))
def F_X12_wins_9b (v0 : Nat) : (Int32 × Int32 × xM) → Option ((Int32 × Int32 × xM) ⊕ (Int32 × xM)) := fun ⟨v1, v2, M⟩ =>
(xgP M v0 12 1).bind fun t2 =>
(xaI M 20 t2 (1 : Int32)).bind fun t3 =>
if t3 ≤ v2 then (
(F_X12_wins_37 v1 M).map Sum.inr)
else (
(xck M v0 12).bind fun _ =>
(F_X12_freeIn v0 v2 M).bind fun t5 =>
(xck t5.2 v0 12).bind fun _ =>
(Fx_X12_nimOf v0 t5.1 t5.2).bind fun t7 =>
(some ((v1 ^^^ t7.1))).bind fun t8 =>
some (.inl (t8, (v2 + 1), t7.2)))
def F_X12_wins_9 (v0 : Nat) (v1 : Int32) (v2 : Int32) (M : xM) : Option (Int32 × xM) := xit (F_X12_wins_9b v0) xFU (v1, v2, M)
def F_X12_wins (a0 : Nat) (M : xM) : Option (Int32 × xM) :=
(xpI M a0 12 0 (0 : Int32)).bind fun t1 =>
F_X12_wins_9 a0 (0 : Int32) (0 : Int32) t1
set_option maxRecDepth 100000 in
set_option maxHeartbeats 4000000 in
theorem F_X12_wins_37_ok (X : xX p s m args c cX12_wins 3 RX12 κ) (hr : meth.sig.returnType = (some .int)) (hlk : meth.locks = false) {ro : Int32} {mo : xM} (v1 : Int32) (M : xM) (x : Int32 × xM) (h : F_X12_wins_37 v1 M = some x) (hK : (fun o => o = (ro, mo)) x) (H : Heap) (locs : List Loc) (ls : Array Slot) (O : xO κ s M H locs) (hl : lv_has ls 3 [(1, .int v1)]) : W p l e (xRm 10 0 0) s m args below meth c H locs 0 0 (xQf below args s 0 0 κ (some (.int ro)) mo) (F0 m 37 ls []) := by
  unfold F_X12_wins_37 at h
  have hx := X.1
  have hb := X.2.1
  refine lv_iload_n hx hb dX12_wins_37 rfl (lv_at hl 0 rfl) ?_
  refine lv_if_ne (tgt := 45) hx hb dX12_wins_38 (by decide) (fun hc38 => ?_) (fun hc38 => ?_)
  · rw [if_neg hc38] at h
    refine lv_iconst (v := (1 : Int32)) hx hb dX12_wins_45 (by decide) ?_
    rw [← Option.some.inj h] at hK
    have hK : ((1 : Int32), M) = (ro, mo) := hK
    obtain ⟨hK1, hK2⟩ := Prod.mk.inj hK
    rw [hK2] at O
    refine xr_top (w := .int ro) (by rw [hK1]) ?_
    exact xr_iret X hr hlk O dX12_wins_46
  rw [if_pos hc38] at h
  refine lv_iconst (v := (0 : Int32)) hx hb dX12_wins_41 (by decide) ?_
  refine lv_goto (tgt := 46) hx hb dX12_wins_42 (by decide) ?_
  rw [← Option.some.inj h] at hK
  have hK : ((0 : Int32), M) = (ro, mo) := hK
  obtain ⟨hK1, hK2⟩ := Prod.mk.inj hK
  rw [hK2] at O
  refine xr_top (w := .int ro) (by rw [hK1]) ?_
  exact xr_iret X hr hlk O dX12_wins_46
set_option maxRecDepth 100000 in
set_option maxHeartbeats 4000000 in
theorem F_X12_wins_9_bok (X : xX p s m args c cX12_wins 3 RX12 κ) (hr : meth.sig.returnType = (some .int)) (hlk : meth.locks = false) {ro : Int32} {mo : xM} (v0 : Nat) (v1 : Int32) (v2 : Int32) {W9 : Int32 × Int32 × xM → Prop} (hW9 : ∀ (v1 : Int32) (v2 : Int32) (M : xM), W9 (v1, v2, M) → ∀ (H : Heap) (locs : List Loc) (ls : Array Slot), xO κ s M H locs → lv_has ls 3 [(0, .ref (κ.1 + v0)), (1, .int v1), (2, .int v2)] → W p l e (xRm 10 0 0) s m args below meth c H locs 0 0 (xQf below args s 0 0 κ (some (.int ro)) mo) (F0 m 9 ls [])) (M : xM) (x : (Int32 × Int32 × xM) ⊕ (Int32 × xM)) (h : F_X12_wins_9b v0 (v1, v2, M) = some x) (hK : (xKl W9 (fun o => o = (ro, mo))) x) (H : Heap) (locs : List Loc) (ls : Array Slot) (O : xO κ s M H locs) (hl : lv_has ls 3 [(0, .ref (κ.1 + v0)), (1, .int v1), (2, .int v2)]) : W p l e (xRm 10 0 0) s m args below meth c H locs 0 0 (xQf below args s 0 0 κ (some (.int ro)) mo) (F0 m 9 ls []) := by
  unfold F_X12_wins_9b at h
  dsimp only at h
  have hx := X.1
  have hb := X.2.1
  refine lv_iload_n hx hb dX12_wins_9 rfl (lv_at hl 2 rfl) ?_
  refine lv_aload_n hx hb dX12_wins_10 rfl (lv_at hl 0 rfl) ?_
  obtain ⟨t2, ht2, h⟩ := Option.bind_eq_some_iff.mp h
  refine xr_getP X O ht2 fl_X12_13 dX12_wins_11 ?_
  refine lv_iconst (v := (1 : Int32)) hx hb dX12_wins_14 (by decide) ?_
  obtain ⟨t3, ht3, h⟩ := Option.bind_eq_some_iff.mp h
  refine xr_aldI X O ht3 dX12_wins_15 ?_
  refine lv_icmp_ge (tgt := 37) hx hb dX12_wins_16 (by decide) (fun hc16 => ?_) (fun hc16 => ?_)
  · rw [if_pos hc16] at h
    obtain ⟨_, hw0, ew0⟩ := Option.map_eq_some_iff.mp h
    rw [← ew0] at hK
    have h := hw0
    exact F_X12_wins_37_ok X hr hlk v1 M _ h hK H locs ls O (lv_sub hl [1] rfl)
  rw [if_neg hc16] at h
  refine lv_iload_n hx hb dX12_wins_19 rfl (lv_at hl 1 rfl) ?_
  refine lv_aload_n hx hb dX12_wins_20 rfl (lv_at hl 0 rfl) ?_
  refine lv_aload_n hx hb dX12_wins_21 rfl (lv_at hl 0 rfl) ?_
  refine lv_iload_n hx hb dX12_wins_22 rfl (lv_at hl 2 rfl) ?_
  obtain ⟨_, hut4, h⟩ := Option.bind_eq_some_iff.mp h
  obtain ⟨t5, ht5, h⟩ := Option.bind_eq_some_iff.mp h
  refine xr_callV (rest := [.ref (κ.1 + v0), .int v1]) X O (T_X12_freeIn l κ v0 v2 M _ _ ht5) lk_X12_450 hut4 (Nat.le_of_ble_eq_true rfl) rfl hl.1 rfl (Nat.le_of_ble_eq_true rfl) dX12_wins_23 ⟨Nat.le_of_ble_eq_true rfl, Nat.le_of_ble_eq_true rfl⟩ (fun H locs O => ?_)
  refine W.eq (g2 := F0 m 26 ls [.int t5.1, .ref (κ.1 + v0), .int v1]) rfl ?_
  obtain ⟨_, hut6, h⟩ := Option.bind_eq_some_iff.mp h
  obtain ⟨t7, ht7, h⟩ := Option.bind_eq_some_iff.mp h
  refine xr_callV (rest := [.int v1]) X O (Tx_X12_nimOf l κ v0 t5.1 t5.2 _ _ ht7) lk_X12_447 hut6 (Nat.le_of_ble_eq_true rfl) rfl hl.1 rfl (Nat.le_of_ble_eq_true rfl) dX12_wins_26 ⟨Nat.le_of_ble_eq_true rfl, Nat.le_of_ble_eq_true rfl⟩ (fun H locs O => ?_)
  refine W.eq (g2 := F0 m 29 ls [.int t7.1, .int v1]) rfl ?_
  refine lv_ixor hx hb dX12_wins_29 ?_
  obtain ⟨t8, ht8, h⟩ := Option.bind_eq_some_iff.mp h
  refine xr_top (w := .int t8) (by rw [Option.some.inj ht8]) ?_
  refine lv_istore_n (lv' := [(1, .int t8), (0, .ref (κ.1 + v0)), (2, .int v2)]) hx hb dX12_wins_30 rfl hl (by decide) rfl (fun ls hl => ?_)
  refine lv_iinc (v := (v2 + 1)) (lv' := [(2, .int (v2 + 1)), (1, .int t8), (0, .ref (κ.1 + v0))]) hx hb dX12_wins_31 hl (k := 2) rfl rfl (by decide) rfl (fun ls hl => ?_)
  refine lv_goto (tgt := 9) hx hb dX12_wins_34 (by decide) ?_
  rw [← Option.some.inj h] at hK
  exact hW9 t8 (v2 + 1) t7.2 hK H locs ls O (lv_sub hl [2, 1, 0] rfl)
set_option maxRecDepth 100000 in
set_option maxHeartbeats 4000000 in
theorem F_X12_wins_9_ok (X : xX p s m args c cX12_wins 3 RX12 κ) (hr : meth.sig.returnType = (some .int)) (hlk : meth.locks = false) {ro : Int32} {mo : xM} (v0 : Nat) (v1 : Int32) (v2 : Int32) (M : xM) (x : Int32 × xM) (h : F_X12_wins_9 v0 v1 v2 M = some x) (hK : (fun o => o = (ro, mo)) x) (H : Heap) (locs : List Loc) (ls : Array Slot) (O : xO κ s M H locs) (hl : lv_has ls 3 [(0, .ref (κ.1 + v0)), (1, .int v1), (2, .int v2)]) : W p l e (xRm 10 0 0) s m args below meth c H locs 0 0 (xQf below args s 0 0 κ (some (.int ro)) mo) (F0 m 9 ls []) := by
  refine xit_K (Wh := fun x => ∀ (H : Heap) (locs : List Loc) (ls : Array Slot), xO κ s x.2.2 H locs → lv_has ls 3 [(0, .ref (κ.1 + v0)), (1, .int x.1), (2, .int x.2.1)] → W p l e (xRm 10 0 0) s m args below meth c H locs 0 0 (xQf below args s 0 0 κ (some (.int ro)) mo) (F0 m 9 ls [])) (Kp := (fun o => o = (ro, mo))) ?_ xFU (v1, v2, M) x h hK H locs ls O hl
  intro y x h hK H locs ls O hl
  exact F_X12_wins_9_bok X hr hlk v0 y.1 y.2.1 (fun _ _ _ hw => hw) y.2.2 x h hK H locs ls O hl
set_option maxRecDepth 100000 in
set_option maxHeartbeats 4000000 in
theorem T_X12_wins (l : Launch) (κ : xQ) (a0 : Nat) (M : xM) (ro : Int32) (mo : xM) (h : F_X12_wins a0 M = some (ro, mo)) : xC l yX12_wins cX12_wins 3 (some .int) 10 0 0 κ [.ref (κ.1 + a0)] M (some (.int ro)) mo := by
  refine xC_of rfl (Nat.le_of_ble_eq_true rfl) fun p e s m args below meth c X hr hlk hnm H locs ls O hl => ?_
  have X : xX p s m args c cX12_wins 3 RX12 κ := X
  have hl : lv_has ls 3 [(0, .ref (κ.1 + a0))] := hl
  have hx := X.1
  have hb := X.2.1
  obtain ⟨x, hx0⟩ : ∃ x, (ro, mo) = x := ⟨_, rfl⟩
  rw [hx0] at h
  have hK : x = (ro, mo) := hx0.symm
  unfold F_X12_wins at h
  refine lv_aload_n hx hb dX12_wins_0 rfl (lv_at hl 0 rfl) ?_
  refine lv_iconst (v := (0 : Int32)) hx hb dX12_wins_1 (by decide) ?_
  obtain ⟨t1, ht1, h⟩ := Option.bind_eq_some_iff.mp h
  refine xr_putI X O ht1 fl_X12_1 dX12_wins_2 (fun H locs O => ?_)
  refine lv_iconst (v := (0 : Int32)) hx hb dX12_wins_5 (by decide) ?_
  refine lv_istore_n (lv' := [(1, .int (0 : Int32)), (0, .ref (κ.1 + a0))]) hx hb dX12_wins_6 rfl hl (by decide) rfl (fun ls hl => ?_)
  refine lv_iconst (v := (0 : Int32)) hx hb dX12_wins_7 (by decide) ?_
  refine lv_istore_n (lv' := [(2, .int (0 : Int32)), (1, .int (0 : Int32)), (0, .ref (κ.1 + a0))]) hx hb dX12_wins_8 rfl hl (by decide) rfl (fun ls hl => ?_)
  exact F_X12_wins_9_ok X hr hlk a0 (0 : Int32) (0 : Int32) t1 _ h hK H locs ls O (lv_sub hl [2, 1, 0] rfl)
def F_X12_goesGale_45 (rc : Nat → Int32 → Int64 → xM → Option (xM)) (v0 : Nat) (v2 : Int64) (v4 : Int32) (s0 : Int64) (s1 : Int64) (s2 : Int32) (s3 : Nat) (M : xM) : Option ((Int32 × xM) ⊕ (xM)) :=
(xsJ M s3 s2 (s1 + s0)).bind fun t8 =>
some (.inl ((v4 + 1), t8))
def F_X12_goesGale_53 (rc : Nat → Int32 → Int64 → xM → Option (xM)) (M : xM) : Option (xM) :=
some M
def F_X12_goesGale_7b (rc : Nat → Int32 → Int64 → xM → Option (xM)) (v0 : Nat) (v2 : Int64) : (Int32 × xM) → Option ((Int32 × xM) ⊕ (xM)) := fun ⟨v4, M⟩ =>
(xgP M v0 12 1).bind fun t2 =>
(xaI M 20 t2 (92 : Int32)).bind fun t3 =>
if t3 ≤ v4 then (
(F_X12_goesGale_53 rc M).map Sum.inr)
else (
(xgP M v0 12 32).bind fun t4 =>
(xaJ M t4 v4).bind fun t5 =>
(xgI M v0 12 20).bind fun t6 =>
(F_X12_isIn t6.toInt64 v4 M).bind fun t7 =>
if t7.1 = 0 then (
F_X12_goesGale_45 rc v0 v2 v4 v2 t5 v4 t4 t7.2)
else (
F_X12_goesGale_45 rc v0 v2 v4 (0 : Int64) t5 v4 t4 t7.2))
def F_X12_goesGale_7 (rc : Nat → Int32 → Int64 → xM → Option (xM)) (v0 : Nat) (v2 : Int64) (v4 : Int32) (M : xM) : Option (xM) := xit (F_X12_goesGale_7b rc v0 v2) xFU (v4, M)
def F_X12_goesGale_208 (rc : Nat → Int32 → Int64 → xM → Option (xM)) (v0 : Nat) (v1 : Int32) (v2 : Int64) (v4 : Int32) (v5 : Int32) (M : xM) : Option ((Int32 × xM) ⊕ (xM)) :=
some (.inl ((v5 + 1), M))
def F_X12_goesGale_176b (rc : Nat → Int32 → Int64 → xM → Option (xM)) (v0 : Nat) (v1 : Int32) (v2 : Int64) (v4 : Int32) (v5 : Int32) : (Int32 × xM) → Option ((Int32 × xM) ⊕ ((Int32 × xM) ⊕ (xM))) := fun ⟨v7, M⟩ =>
if (25 : Int32) ≤ v7 then (
(F_X12_goesGale_208 rc v0 v1 v2 v4 v5 M).map Sum.inr)
else (
(xgP M v0 12 18).bind fun t24 =>
(xgP M v0 12 31).bind fun t25 =>
(xaI M 20 t25 (((25 : Int32) * v1) + v7)).bind fun t26 =>
(xsI M t24 v7 t26).bind fun t27 =>
some (.inl ((v7 + 1), t27)))
def F_X12_goesGale_176 (rc : Nat → Int32 → Int64 → xM → Option (xM)) (v0 : Nat) (v1 : Int32) (v2 : Int64) (v4 : Int32) (v5 : Int32) (v7 : Int32) (M : xM) : Option ((Int32 × xM) ⊕ (xM)) := xit (F_X12_goesGale_176b rc v0 v1 v2 v4 v5) xFU (v7, M)
def F_X12_goesGale_128 (rc : Nat → Int32 → Int64 → xM → Option (xM)) (v0 : Nat) (v1 : Int32) (v2 : Int64) (v4 : Int32) (v5 : Int32) (s0 : Int32) (M : xM) : Option ((Int32 × xM) ⊕ (xM)) :=
if s0 = 0 then (
F_X12_goesGale_208 rc v0 v1 v2 v4 v5 M)
else (
(xck M v0 12).bind fun _ =>
(F_X12_goesOn v0 v5 M).bind fun t18 =>
(xck t18.2 v0 12).bind fun _ =>
(rc v0 (v1 - (1 : Int32)) (v2 * s0.toInt64) t18.2).bind fun t20 =>
(xgI t20 v0 12 21).bind fun t21 =>
(xpI t20 v0 12 21 (t21 - (1 : Int32))).bind fun t22 =>
(xpI t22 v0 12 20 v4).bind fun t23 =>
F_X12_goesGale_176 rc v0 v1 v2 v4 v5 (0 : Int32) t23)
def F_X12_goesGale_214 (rc : Nat → Int32 → Int64 → xM → Option (xM)) (M : xM) : Option (xM) :=
some M
def F_X12_goesGale_98b (rc : Nat → Int32 → Int64 → xM → Option (xM)) (v0 : Nat) (v1 : Int32) (v2 : Int64) (v4 : Int32) : (Int32 × xM) → Option ((Int32 × xM) ⊕ (xM)) := fun ⟨v5, M⟩ =>
if (2 : Int32) ≤ v5 then (
(F_X12_goesGale_214 rc M).map Sum.inr)
else (
if v5 = (1 : Int32) then (
(xgP M v0 12 1).bind fun t15 =>
(xaI M 20 t15 (3 : Int32)).bind fun t16 =>
F_X12_goesGale_128 rc v0 v1 v2 v4 v5 t16 M)
else (
(xgP M v0 12 1).bind fun t13 =>
(xaI M 20 t13 (3 : Int32)).bind fun t14 =>
F_X12_goesGale_128 rc v0 v1 v2 v4 v5 ((10 : Int32) - t14) M))
def F_X12_goesGale_98 (rc : Nat → Int32 → Int64 → xM → Option (xM)) (v0 : Nat) (v1 : Int32) (v2 : Int64) (v4 : Int32) (v5 : Int32) (M : xM) : Option (xM) := xit (F_X12_goesGale_98b rc v0 v1 v2 v4) xFU (v5, M)
def F_X12_goesGale_95 (rc : Nat → Int32 → Int64 → xM → Option (xM)) (v0 : Nat) (v1 : Int32) (v2 : Int64) (v4 : Int32) (M : xM) : Option (xM) :=
F_X12_goesGale_98 rc v0 v1 v2 v4 (0 : Int32) M
def F_X12_goesGale_63b (rc : Nat → Int32 → Int64 → xM → Option (xM)) (v0 : Nat) (v1 : Int32) (v2 : Int64) (v4 : Int32) : (Int32 × xM) → Option ((Int32 × xM) ⊕ (xM)) := fun ⟨v5, M⟩ =>
if (25 : Int32) ≤ v5 then (
(F_X12_goesGale_95 rc v0 v1 v2 v4 M).map Sum.inr)
else (
(xgP M v0 12 31).bind fun t9 =>
(xgP M v0 12 18).bind fun t10 =>
(xaI M 20 t10 v5).bind fun t11 =>
(xsI M t9 (((25 : Int32) * v1) + v5) t11).bind fun t12 =>
some (.inl ((v5 + 1), t12)))
def F_X12_goesGale_63 (rc : Nat → Int32 → Int64 → xM → Option (xM)) (v0 : Nat) (v1 : Int32) (v2 : Int64) (v4 : Int32) (v5 : Int32) (M : xM) : Option (xM) := xit (F_X12_goesGale_63b rc v0 v1 v2 v4) xFU (v5, M)
def F_X12_goesGale (rc : Nat → Int32 → Int64 → xM → Option (xM)) (a0 : Nat) (a1 : Int32) (a2 : Int64) (M : xM) : Option (xM) :=
if a1 = 0 then (
F_X12_goesGale_7 rc a0 a2 (0 : Int32) M)
else (
(xgI M a0 12 20).bind fun t1 =>
F_X12_goesGale_63 rc a0 a1 a2 t1 (0 : Int32) M)
def R_X12_goesGale : Nat → Nat → Int32 → Int64 → xM → Option (xM)
  | 0 => fun _ _ _ _ => none
  | n + 1 => F_X12_goesGale (R_X12_goesGale n)
def F_X12_goesGale_top : Nat → Int32 → Int64 → xM → Option (xM) := R_X12_goesGale 10
def Fx_X12_goesGale (a0 : Nat) (a1 : Int32) (a2 : Int64) (M : xM) : Option (xM) := R_X12_goesGale 10 a0 a1 a2 M
set_option maxRecDepth 100000 in
set_option maxHeartbeats 4000000 in
theorem F_X12_goesGale_45_ok {dd : Nat} (hdd : 6 ≤ dd) {rc : Nat → Int32 → Int64 → xM → Option (xM)} (hrc0 : ∀ (κ : xQ) (a0 : Nat) (a1 : Int32) (a2 : Int64) (M mo : xM), rc a0 a1 a2 M = some mo → xC l yX12_goesGale cX12_goesGale 8 none dd 0 0 κ [.ref (κ.1 + a0), .int a1, .long a2] M none mo) (X : xX p s m args c cX12_goesGale 8 RX12 κ) (hr : meth.sig.returnType = none) (hlk : meth.locks = false) {mo : xM} (v0 : Nat) (v2 : Int64) (v4 : Int32) (s0 : Int64) (s1 : Int64) (s2 : Int32) (s3 : Nat) {W7 : Int32 × xM → Prop} (hW7 : ∀ (v4 : Int32) (M : xM), W7 (v4, M) → ∀ (H : Heap) (locs : List Loc) (ls : Array Slot), xO κ s M H locs → lv_has ls 8 [(0, .ref (κ.1 + v0)), (2, .long v2), (4, .int v4)] → W p l e (xRm (dd + 1) 0 0) s m args below meth c H locs 0 0 (xQf below args s 0 0 κ none mo) (F0 m 7 ls [])) (M : xM) (x : (Int32 × xM) ⊕ (xM)) (h : F_X12_goesGale_45 rc v0 v2 v4 s0 s1 s2 s3 M = some x) (hK : (xKl W7 (fun o => o = mo)) x) (H : Heap) (locs : List Loc) (ls : Array Slot) (O : xO κ s M H locs) (hl : lv_has ls 8 [(0, .ref (κ.1 + v0)), (2, .long v2), (4, .int v4)]) : W p l e (xRm (dd + 1) 0 0) s m args below meth c H locs 0 0 (xQf below args s 0 0 κ none mo) (F0 m 45 ls [.long s0, .long s1, .int s2, .ref (κ.1 + s3)]) := by
  unfold F_X12_goesGale_45 at h
  have hx := X.1
  have hb := X.2.1
  refine lv_ladd hx hb dX12_goesGale_45 ?_
  obtain ⟨t8, ht8, h⟩ := Option.bind_eq_some_iff.mp h
  refine xr_stJ X O ht8 dX12_goesGale_46 (fun H locs O => ?_)
  refine lv_iinc (v := (v4 + 1)) (lv' := [(4, .int (v4 + 1)), (0, .ref (κ.1 + v0)), (2, .long v2)]) hx hb dX12_goesGale_47 hl (k := 2) rfl rfl (by decide) rfl (fun ls hl => ?_)
  refine lv_goto (tgt := 7) hx hb dX12_goesGale_50 (by decide) ?_
  rw [← Option.some.inj h] at hK
  exact hW7 (v4 + 1) t8 hK H locs ls O (lv_sub hl [1, 2, 0] rfl)
set_option maxRecDepth 100000 in
set_option maxHeartbeats 4000000 in
theorem F_X12_goesGale_53_ok {dd : Nat} (hdd : 6 ≤ dd) {rc : Nat → Int32 → Int64 → xM → Option (xM)} (hrc0 : ∀ (κ : xQ) (a0 : Nat) (a1 : Int32) (a2 : Int64) (M mo : xM), rc a0 a1 a2 M = some mo → xC l yX12_goesGale cX12_goesGale 8 none dd 0 0 κ [.ref (κ.1 + a0), .int a1, .long a2] M none mo) (X : xX p s m args c cX12_goesGale 8 RX12 κ) (hr : meth.sig.returnType = none) (hlk : meth.locks = false) {mo : xM} (M : xM) (x : xM) (h : F_X12_goesGale_53 rc M = some x) (hK : (fun o => o = mo) x) (H : Heap) (locs : List Loc) (ls : Array Slot) (O : xO κ s M H locs) (hl : lv_has ls 8 []) : W p l e (xRm (dd + 1) 0 0) s m args below meth c H locs 0 0 (xQf below args s 0 0 κ none mo) (F0 m 53 ls []) := by
  unfold F_X12_goesGale_53 at h
  have hx := X.1
  have hb := X.2.1
  rw [← Option.some.inj h] at hK
  have hK : M = mo := hK
  rw [hK] at O
  exact xr_vret X hr hlk O dX12_goesGale_53
set_option maxRecDepth 100000 in
set_option maxHeartbeats 4000000 in
theorem F_X12_goesGale_7_bok {dd : Nat} (hdd : 6 ≤ dd) {rc : Nat → Int32 → Int64 → xM → Option (xM)} (hrc0 : ∀ (κ : xQ) (a0 : Nat) (a1 : Int32) (a2 : Int64) (M mo : xM), rc a0 a1 a2 M = some mo → xC l yX12_goesGale cX12_goesGale 8 none dd 0 0 κ [.ref (κ.1 + a0), .int a1, .long a2] M none mo) (X : xX p s m args c cX12_goesGale 8 RX12 κ) (hr : meth.sig.returnType = none) (hlk : meth.locks = false) {mo : xM} (v0 : Nat) (v2 : Int64) (v4 : Int32) {W7 : Int32 × xM → Prop} (hW7 : ∀ (v4 : Int32) (M : xM), W7 (v4, M) → ∀ (H : Heap) (locs : List Loc) (ls : Array Slot), xO κ s M H locs → lv_has ls 8 [(0, .ref (κ.1 + v0)), (2, .long v2), (4, .int v4)] → W p l e (xRm (dd + 1) 0 0) s m args below meth c H locs 0 0 (xQf below args s 0 0 κ none mo) (F0 m 7 ls [])) (M : xM) (x : (Int32 × xM) ⊕ (xM)) (h : F_X12_goesGale_7b rc v0 v2 (v4, M) = some x) (hK : (xKl W7 (fun o => o = mo)) x) (H : Heap) (locs : List Loc) (ls : Array Slot) (O : xO κ s M H locs) (hl : lv_has ls 8 [(0, .ref (κ.1 + v0)), (2, .long v2), (4, .int v4)]) : W p l e (xRm (dd + 1) 0 0) s m args below meth c H locs 0 0 (xQf below args s 0 0 κ none mo) (F0 m 7 ls []) := by
  unfold F_X12_goesGale_7b at h
  dsimp only at h
  have hx := X.1
  have hb := X.2.1
  refine lv_iload hx hb dX12_goesGale_7 (lv_at hl 2 rfl) ?_
  refine lv_aload_n hx hb dX12_goesGale_9 rfl (lv_at hl 0 rfl) ?_
  obtain ⟨t2, ht2, h⟩ := Option.bind_eq_some_iff.mp h
  refine xr_getP X O ht2 fl_X12_13 dX12_goesGale_10 ?_
  refine lv_bipush (v := (92 : Int32)) hx hb dX12_goesGale_13 (by decide) ?_
  obtain ⟨t3, ht3, h⟩ := Option.bind_eq_some_iff.mp h
  refine xr_aldI X O ht3 dX12_goesGale_15 ?_
  refine lv_icmp_ge (tgt := 53) hx hb dX12_goesGale_16 (by decide) (fun hc16 => ?_) (fun hc16 => ?_)
  · rw [if_pos hc16] at h
    obtain ⟨_, hw0, ew0⟩ := Option.map_eq_some_iff.mp h
    rw [← ew0] at hK
    have h := hw0
    exact F_X12_goesGale_53_ok hdd hrc0 X hr hlk  M _ h hK H locs ls O (lv_sub hl [] rfl)
  rw [if_neg hc16] at h
  refine lv_aload_n hx hb dX12_goesGale_19 rfl (lv_at hl 0 rfl) ?_
  obtain ⟨t4, ht4, h⟩ := Option.bind_eq_some_iff.mp h
  refine xr_getP X O ht4 fl_X12_66 dX12_goesGale_20 ?_
  refine lv_iload hx hb dX12_goesGale_23 (lv_at hl 2 rfl) ?_
  refine lv_dup2_11 hx hb dX12_goesGale_25 rfl rfl ?_
  obtain ⟨t5, ht5, h⟩ := Option.bind_eq_some_iff.mp h
  refine xr_aldJ X O ht5 dX12_goesGale_26 ?_
  refine lv_aload_n hx hb dX12_goesGale_27 rfl (lv_at hl 0 rfl) ?_
  obtain ⟨t6, ht6, h⟩ := Option.bind_eq_some_iff.mp h
  refine xr_getI X O ht6 fl_X12_247 (Or.inl rfl) dX12_goesGale_28 ?_
  refine lv_i2l (v := t6.toInt64) hx hb dX12_goesGale_31 rfl ?_
  refine lv_iload hx hb dX12_goesGale_32 (lv_at hl 2 rfl) ?_
  obtain ⟨t7, ht7, h⟩ := Option.bind_eq_some_iff.mp h
  refine xr_callS (rest := [.long t5, .int v4, .ref (κ.1 + t4)]) X O (T_X12_isIn l κ t6.toInt64 v4 M _ _ ht7) lk_X12_253 (by omega) rfl hl.1 rfl (Nat.le_of_ble_eq_true rfl) dX12_goesGale_34 ⟨Nat.le_of_ble_eq_true rfl, Nat.le_of_ble_eq_true rfl⟩ (fun H locs O => ?_)
  refine W.eq (g2 := F0 m 37 ls [.int t7.1, .long t5, .int v4, .ref (κ.1 + t4)]) rfl ?_
  refine lv_if_eq (tgt := 44) hx hb dX12_goesGale_37 (by decide) (fun hc37 => ?_) (fun hc37 => ?_)
  · rw [if_pos hc37] at h
    refine lv_lload_n hx hb dX12_goesGale_44 rfl (lv_at hl 1 rfl) ?_
    exact F_X12_goesGale_45_ok hdd hrc0 X hr hlk v0 v2 v4 v2 t5 v4 t4 hW7 t7.2 _ h hK H locs ls O (lv_sub hl [0, 1, 2] rfl)
  rw [if_neg hc37] at h
  refine lv_lconst (v := (0 : Int64)) hx hb dX12_goesGale_40 (by decide) ?_
  refine lv_goto (tgt := 45) hx hb dX12_goesGale_41 (by decide) ?_
  exact F_X12_goesGale_45_ok hdd hrc0 X hr hlk v0 v2 v4 (0 : Int64) t5 v4 t4 hW7 t7.2 _ h hK H locs ls O (lv_sub hl [0, 1, 2] rfl)
set_option maxRecDepth 100000 in
set_option maxHeartbeats 4000000 in
theorem F_X12_goesGale_7_ok {dd : Nat} (hdd : 6 ≤ dd) {rc : Nat → Int32 → Int64 → xM → Option (xM)} (hrc0 : ∀ (κ : xQ) (a0 : Nat) (a1 : Int32) (a2 : Int64) (M mo : xM), rc a0 a1 a2 M = some mo → xC l yX12_goesGale cX12_goesGale 8 none dd 0 0 κ [.ref (κ.1 + a0), .int a1, .long a2] M none mo) (X : xX p s m args c cX12_goesGale 8 RX12 κ) (hr : meth.sig.returnType = none) (hlk : meth.locks = false) {mo : xM} (v0 : Nat) (v2 : Int64) (v4 : Int32) (M : xM) (x : xM) (h : F_X12_goesGale_7 rc v0 v2 v4 M = some x) (hK : (fun o => o = mo) x) (H : Heap) (locs : List Loc) (ls : Array Slot) (O : xO κ s M H locs) (hl : lv_has ls 8 [(0, .ref (κ.1 + v0)), (2, .long v2), (4, .int v4)]) : W p l e (xRm (dd + 1) 0 0) s m args below meth c H locs 0 0 (xQf below args s 0 0 κ none mo) (F0 m 7 ls []) := by
  refine xit_K (Wh := fun x => ∀ (H : Heap) (locs : List Loc) (ls : Array Slot), xO κ s x.2 H locs → lv_has ls 8 [(0, .ref (κ.1 + v0)), (2, .long v2), (4, .int x.1)] → W p l e (xRm (dd + 1) 0 0) s m args below meth c H locs 0 0 (xQf below args s 0 0 κ none mo) (F0 m 7 ls [])) (Kp := (fun o => o = mo)) ?_ xFU (v4, M) x h hK H locs ls O hl
  intro y x h hK H locs ls O hl
  exact F_X12_goesGale_7_bok hdd hrc0 X hr hlk v0 v2 y.1 (fun _ _ hw => hw) y.2 x h hK H locs ls O hl
set_option maxRecDepth 100000 in
set_option maxHeartbeats 4000000 in
theorem F_X12_goesGale_208_ok {dd : Nat} (hdd : 6 ≤ dd) {rc : Nat → Int32 → Int64 → xM → Option (xM)} (hrc0 : ∀ (κ : xQ) (a0 : Nat) (a1 : Int32) (a2 : Int64) (M mo : xM), rc a0 a1 a2 M = some mo → xC l yX12_goesGale cX12_goesGale 8 none dd 0 0 κ [.ref (κ.1 + a0), .int a1, .long a2] M none mo) (X : xX p s m args c cX12_goesGale 8 RX12 κ) (hr : meth.sig.returnType = none) (hlk : meth.locks = false) {mo : xM} (v0 : Nat) (v1 : Int32) (v2 : Int64) (v4 : Int32) (v5 : Int32) {W98 : Int32 × xM → Prop} (hW98 : ∀ (v5 : Int32) (M : xM), W98 (v5, M) → ∀ (H : Heap) (locs : List Loc) (ls : Array Slot), xO κ s M H locs → lv_has ls 8 [(0, .ref (κ.1 + v0)), (1, .int v1), (2, .long v2), (4, .int v4), (5, .int v5)] → W p l e (xRm (dd + 1) 0 0) s m args below meth c H locs 0 0 (xQf below args s 0 0 κ none mo) (F0 m 98 ls [])) (M : xM) (x : (Int32 × xM) ⊕ (xM)) (h : F_X12_goesGale_208 rc v0 v1 v2 v4 v5 M = some x) (hK : (xKl W98 (fun o => o = mo)) x) (H : Heap) (locs : List Loc) (ls : Array Slot) (O : xO κ s M H locs) (hl : lv_has ls 8 [(0, .ref (κ.1 + v0)), (1, .int v1), (2, .long v2), (4, .int v4), (5, .int v5)]) : W p l e (xRm (dd + 1) 0 0) s m args below meth c H locs 0 0 (xQf below args s 0 0 κ none mo) (F0 m 208 ls []) := by
  unfold F_X12_goesGale_208 at h
  have hx := X.1
  have hb := X.2.1
  refine lv_iinc (v := (v5 + 1)) (lv' := [(5, .int (v5 + 1)), (0, .ref (κ.1 + v0)), (1, .int v1), (2, .long v2), (4, .int v4)]) hx hb dX12_goesGale_208 hl (k := 4) rfl rfl (by decide) rfl (fun ls hl => ?_)
  refine lv_goto (tgt := 98) hx hb dX12_goesGale_211 (by decide) ?_
  rw [← Option.some.inj h] at hK
  exact hW98 (v5 + 1) M hK H locs ls O (lv_sub hl [1, 2, 3, 4, 0] rfl)
set_option maxRecDepth 100000 in
set_option maxHeartbeats 4000000 in
theorem F_X12_goesGale_176_bok {dd : Nat} (hdd : 6 ≤ dd) {rc : Nat → Int32 → Int64 → xM → Option (xM)} (hrc0 : ∀ (κ : xQ) (a0 : Nat) (a1 : Int32) (a2 : Int64) (M mo : xM), rc a0 a1 a2 M = some mo → xC l yX12_goesGale cX12_goesGale 8 none dd 0 0 κ [.ref (κ.1 + a0), .int a1, .long a2] M none mo) (X : xX p s m args c cX12_goesGale 8 RX12 κ) (hr : meth.sig.returnType = none) (hlk : meth.locks = false) {mo : xM} (v0 : Nat) (v1 : Int32) (v2 : Int64) (v4 : Int32) (v5 : Int32) (v7 : Int32) {W98 : Int32 × xM → Prop} (hW98 : ∀ (v5 : Int32) (M : xM), W98 (v5, M) → ∀ (H : Heap) (locs : List Loc) (ls : Array Slot), xO κ s M H locs → lv_has ls 8 [(0, .ref (κ.1 + v0)), (1, .int v1), (2, .long v2), (4, .int v4), (5, .int v5)] → W p l e (xRm (dd + 1) 0 0) s m args below meth c H locs 0 0 (xQf below args s 0 0 κ none mo) (F0 m 98 ls [])) {W176 : Int32 × xM → Prop} (hW176 : ∀ (v7 : Int32) (M : xM), W176 (v7, M) → ∀ (H : Heap) (locs : List Loc) (ls : Array Slot), xO κ s M H locs → lv_has ls 8 [(0, .ref (κ.1 + v0)), (1, .int v1), (2, .long v2), (4, .int v4), (5, .int v5), (7, .int v7)] → W p l e (xRm (dd + 1) 0 0) s m args below meth c H locs 0 0 (xQf below args s 0 0 κ none mo) (F0 m 176 ls [])) (M : xM) (x : (Int32 × xM) ⊕ ((Int32 × xM) ⊕ (xM))) (h : F_X12_goesGale_176b rc v0 v1 v2 v4 v5 (v7, M) = some x) (hK : (xKl W176 (xKl W98 (fun o => o = mo))) x) (H : Heap) (locs : List Loc) (ls : Array Slot) (O : xO κ s M H locs) (hl : lv_has ls 8 [(0, .ref (κ.1 + v0)), (1, .int v1), (2, .long v2), (4, .int v4), (5, .int v5), (7, .int v7)]) : W p l e (xRm (dd + 1) 0 0) s m args below meth c H locs 0 0 (xQf below args s 0 0 κ none mo) (F0 m 176 ls []) := by
  unfold F_X12_goesGale_176b at h
  dsimp only at h
  have hx := X.1
  have hb := X.2.1
  refine lv_iload hx hb dX12_goesGale_176 (lv_at hl 5 rfl) ?_
  refine lv_bipush (v := (25 : Int32)) hx hb dX12_goesGale_178 (by decide) ?_
  refine lv_icmp_ge (tgt := 208) hx hb dX12_goesGale_180 (by decide) (fun hc180 => ?_) (fun hc180 => ?_)
  · rw [if_pos hc180] at h
    obtain ⟨_, hw0, ew0⟩ := Option.map_eq_some_iff.mp h
    rw [← ew0] at hK
    have h := hw0
    exact F_X12_goesGale_208_ok hdd hrc0 X hr hlk v0 v1 v2 v4 v5 hW98 M _ h hK H locs ls O (lv_sub hl [0, 1, 2, 3, 4] rfl)
  rw [if_neg hc180] at h
  refine lv_aload_n hx hb dX12_goesGale_183 rfl (lv_at hl 0 rfl) ?_
  obtain ⟨t24, ht24, h⟩ := Option.bind_eq_some_iff.mp h
  refine xr_getP X O ht24 fl_X12_36 dX12_goesGale_184 ?_
  refine lv_iload hx hb dX12_goesGale_187 (lv_at hl 5 rfl) ?_
  refine lv_aload_n hx hb dX12_goesGale_189 rfl (lv_at hl 0 rfl) ?_
  obtain ⟨t25, ht25, h⟩ := Option.bind_eq_some_iff.mp h
  refine xr_getP X O ht25 fl_X12_63 dX12_goesGale_190 ?_
  refine lv_bipush (v := (25 : Int32)) hx hb dX12_goesGale_193 (by decide) ?_
  refine lv_iload_n hx hb dX12_goesGale_195 rfl (lv_at hl 1 rfl) ?_
  refine lv_imul hx hb dX12_goesGale_196 ?_
  refine lv_iload hx hb dX12_goesGale_197 (lv_at hl 5 rfl) ?_
  refine lv_iadd hx hb dX12_goesGale_199 ?_
  obtain ⟨t26, ht26, h⟩ := Option.bind_eq_some_iff.mp h
  refine xr_aldI X O ht26 dX12_goesGale_200 ?_
  obtain ⟨t27, ht27, h⟩ := Option.bind_eq_some_iff.mp h
  refine xr_stI X O ht27 dX12_goesGale_201 (fun H locs O => ?_)
  refine lv_iinc (v := (v7 + 1)) (lv' := [(7, .int (v7 + 1)), (0, .ref (κ.1 + v0)), (1, .int v1), (2, .long v2), (4, .int v4), (5, .int v5)]) hx hb dX12_goesGale_202 hl (k := 5) rfl rfl (by decide) rfl (fun ls hl => ?_)
  refine lv_goto (tgt := 176) hx hb dX12_goesGale_205 (by decide) ?_
  rw [← Option.some.inj h] at hK
  exact hW176 (v7 + 1) t27 hK H locs ls O (lv_sub hl [1, 2, 3, 4, 5, 0] rfl)
set_option maxRecDepth 100000 in
set_option maxHeartbeats 4000000 in
theorem F_X12_goesGale_176_ok {dd : Nat} (hdd : 6 ≤ dd) {rc : Nat → Int32 → Int64 → xM → Option (xM)} (hrc0 : ∀ (κ : xQ) (a0 : Nat) (a1 : Int32) (a2 : Int64) (M mo : xM), rc a0 a1 a2 M = some mo → xC l yX12_goesGale cX12_goesGale 8 none dd 0 0 κ [.ref (κ.1 + a0), .int a1, .long a2] M none mo) (X : xX p s m args c cX12_goesGale 8 RX12 κ) (hr : meth.sig.returnType = none) (hlk : meth.locks = false) {mo : xM} (v0 : Nat) (v1 : Int32) (v2 : Int64) (v4 : Int32) (v5 : Int32) (v7 : Int32) {W98 : Int32 × xM → Prop} (hW98 : ∀ (v5 : Int32) (M : xM), W98 (v5, M) → ∀ (H : Heap) (locs : List Loc) (ls : Array Slot), xO κ s M H locs → lv_has ls 8 [(0, .ref (κ.1 + v0)), (1, .int v1), (2, .long v2), (4, .int v4), (5, .int v5)] → W p l e (xRm (dd + 1) 0 0) s m args below meth c H locs 0 0 (xQf below args s 0 0 κ none mo) (F0 m 98 ls [])) (M : xM) (x : (Int32 × xM) ⊕ (xM)) (h : F_X12_goesGale_176 rc v0 v1 v2 v4 v5 v7 M = some x) (hK : (xKl W98 (fun o => o = mo)) x) (H : Heap) (locs : List Loc) (ls : Array Slot) (O : xO κ s M H locs) (hl : lv_has ls 8 [(0, .ref (κ.1 + v0)), (1, .int v1), (2, .long v2), (4, .int v4), (5, .int v5), (7, .int v7)]) : W p l e (xRm (dd + 1) 0 0) s m args below meth c H locs 0 0 (xQf below args s 0 0 κ none mo) (F0 m 176 ls []) := by
  refine xit_K (Wh := fun x => ∀ (H : Heap) (locs : List Loc) (ls : Array Slot), xO κ s x.2 H locs → lv_has ls 8 [(0, .ref (κ.1 + v0)), (1, .int v1), (2, .long v2), (4, .int v4), (5, .int v5), (7, .int x.1)] → W p l e (xRm (dd + 1) 0 0) s m args below meth c H locs 0 0 (xQf below args s 0 0 κ none mo) (F0 m 176 ls [])) (Kp := (xKl W98 (fun o => o = mo))) ?_ xFU (v7, M) x h hK H locs ls O hl
  intro y x h hK H locs ls O hl
  exact F_X12_goesGale_176_bok hdd hrc0 X hr hlk v0 v1 v2 v4 v5 y.1 hW98 (fun _ _ hw => hw) y.2 x h hK H locs ls O hl
set_option maxRecDepth 100000 in
set_option maxHeartbeats 4000000 in
theorem F_X12_goesGale_128_ok {dd : Nat} (hdd : 6 ≤ dd) {rc : Nat → Int32 → Int64 → xM → Option (xM)} (hrc0 : ∀ (κ : xQ) (a0 : Nat) (a1 : Int32) (a2 : Int64) (M mo : xM), rc a0 a1 a2 M = some mo → xC l yX12_goesGale cX12_goesGale 8 none dd 0 0 κ [.ref (κ.1 + a0), .int a1, .long a2] M none mo) (X : xX p s m args c cX12_goesGale 8 RX12 κ) (hr : meth.sig.returnType = none) (hlk : meth.locks = false) {mo : xM} (v0 : Nat) (v1 : Int32) (v2 : Int64) (v4 : Int32) (v5 : Int32) (s0 : Int32) {W98 : Int32 × xM → Prop} (hW98 : ∀ (v5 : Int32) (M : xM), W98 (v5, M) → ∀ (H : Heap) (locs : List Loc) (ls : Array Slot), xO κ s M H locs → lv_has ls 8 [(0, .ref (κ.1 + v0)), (1, .int v1), (2, .long v2), (4, .int v4), (5, .int v5)] → W p l e (xRm (dd + 1) 0 0) s m args below meth c H locs 0 0 (xQf below args s 0 0 κ none mo) (F0 m 98 ls [])) (M : xM) (x : (Int32 × xM) ⊕ (xM)) (h : F_X12_goesGale_128 rc v0 v1 v2 v4 v5 s0 M = some x) (hK : (xKl W98 (fun o => o = mo)) x) (H : Heap) (locs : List Loc) (ls : Array Slot) (O : xO κ s M H locs) (hl : lv_has ls 8 [(0, .ref (κ.1 + v0)), (1, .int v1), (2, .long v2), (4, .int v4), (5, .int v5)]) : W p l e (xRm (dd + 1) 0 0) s m args below meth c H locs 0 0 (xQf below args s 0 0 κ none mo) (F0 m 128 ls [.int s0]) := by
  unfold F_X12_goesGale_128 at h
  have hx := X.1
  have hb := X.2.1
  refine lv_istore (lv' := [(6, .int s0), (0, .ref (κ.1 + v0)), (1, .int v1), (2, .long v2), (4, .int v4), (5, .int v5)]) hx hb dX12_goesGale_128 hl (by decide) rfl (fun ls hl => ?_)
  refine lv_iload hx hb dX12_goesGale_130 (lv_at hl 0 rfl) ?_
  refine lv_if_ne (tgt := 138) hx hb dX12_goesGale_132 (by decide) (fun hc132 => ?_) (fun hc132 => ?_)
  · rw [if_neg hc132] at h
    refine lv_aload_n hx hb dX12_goesGale_138 rfl (lv_at hl 1 rfl) ?_
    refine lv_iload hx hb dX12_goesGale_139 (lv_at hl 5 rfl) ?_
    obtain ⟨_, hut17, h⟩ := Option.bind_eq_some_iff.mp h
    obtain ⟨t18, ht18, h⟩ := Option.bind_eq_some_iff.mp h
    refine xr_callV (rest := []) X O (T_X12_goesOn l κ v0 v5 M _ _ ht18) lk_X12_275 hut17 (by omega) rfl hl.1 rfl (Nat.le_of_ble_eq_true rfl) dX12_goesGale_141 ⟨Nat.le_of_ble_eq_true rfl, Nat.le_of_ble_eq_true rfl⟩ (fun H locs O => ?_)
    refine W.eq (g2 := F0 m 144 ls [.int t18.1]) rfl ?_
    refine lv_pop hx hb dX12_goesGale_144 rfl ?_
    refine lv_aload_n hx hb dX12_goesGale_145 rfl (lv_at hl 1 rfl) ?_
    refine lv_iload_n hx hb dX12_goesGale_146 rfl (lv_at hl 2 rfl) ?_
    refine lv_iconst (v := (1 : Int32)) hx hb dX12_goesGale_147 (by decide) ?_
    refine lv_isub hx hb dX12_goesGale_148 ?_
    refine lv_lload_n hx hb dX12_goesGale_149 rfl (lv_at hl 3 rfl) ?_
    refine lv_iload hx hb dX12_goesGale_150 (lv_at hl 0 rfl) ?_
    refine lv_i2l (v := s0.toInt64) hx hb dX12_goesGale_152 rfl ?_
    refine lv_lmul hx hb dX12_goesGale_153 ?_
    obtain ⟨_, hut19, h⟩ := Option.bind_eq_some_iff.mp h
    obtain ⟨t20, ht20, h⟩ := Option.bind_eq_some_iff.mp h
    refine xr_callV (rest := []) X O (hrc0 κ v0 (v1 - (1 : Int32)) (v2 * s0.toInt64) t18.2 _ ht20) lk_X12_453 hut19 (Nat.le_refl _) rfl hl.1 rfl (Nat.le_of_ble_eq_true rfl) dX12_goesGale_154 ⟨Nat.le_of_ble_eq_true rfl, Nat.le_of_ble_eq_true rfl⟩ (fun H locs O => ?_)
    refine W.eq (g2 := F0 m 157 ls []) rfl ?_
    refine lv_aload_n hx hb dX12_goesGale_157 rfl (lv_at hl 1 rfl) ?_
    refine lv_dup hx hb dX12_goesGale_158 rfl ?_
    obtain ⟨t21, ht21, h⟩ := Option.bind_eq_some_iff.mp h
    refine xr_getI X O ht21 fl_X12_250 (Or.inl rfl) dX12_goesGale_159 ?_
    refine lv_iconst (v := (1 : Int32)) hx hb dX12_goesGale_162 (by decide) ?_
    refine lv_isub hx hb dX12_goesGale_163 ?_
    obtain ⟨t22, ht22, h⟩ := Option.bind_eq_some_iff.mp h
    refine xr_putI X O ht22 fl_X12_250 dX12_goesGale_164 (fun H locs O => ?_)
    refine lv_aload_n hx hb dX12_goesGale_167 rfl (lv_at hl 1 rfl) ?_
    refine lv_iload hx hb dX12_goesGale_168 (lv_at hl 4 rfl) ?_
    obtain ⟨t23, ht23, h⟩ := Option.bind_eq_some_iff.mp h
    refine xr_putI X O ht23 fl_X12_247 dX12_goesGale_170 (fun H locs O => ?_)
    refine lv_iconst (v := (0 : Int32)) hx hb dX12_goesGale_173 (by decide) ?_
    refine lv_istore (lv' := [(7, .int (0 : Int32)), (6, .int s0), (0, .ref (κ.1 + v0)), (1, .int v1), (2, .long v2), (4, .int v4), (5, .int v5)]) hx hb dX12_goesGale_174 hl (by decide) rfl (fun ls hl => ?_)
    exact F_X12_goesGale_176_ok hdd hrc0 X hr hlk v0 v1 v2 v4 v5 (0 : Int32) hW98 t23 _ h hK H locs ls O (lv_sub hl [2, 3, 4, 5, 6, 0] rfl)
  rw [if_pos hc132] at h
  refine lv_goto (tgt := 208) hx hb dX12_goesGale_135 (by decide) ?_
  exact F_X12_goesGale_208_ok hdd hrc0 X hr hlk v0 v1 v2 v4 v5 hW98 M _ h hK H locs ls O (lv_sub hl [1, 2, 3, 4, 5] rfl)
set_option maxRecDepth 100000 in
set_option maxHeartbeats 4000000 in
theorem F_X12_goesGale_214_ok {dd : Nat} (hdd : 6 ≤ dd) {rc : Nat → Int32 → Int64 → xM → Option (xM)} (hrc0 : ∀ (κ : xQ) (a0 : Nat) (a1 : Int32) (a2 : Int64) (M mo : xM), rc a0 a1 a2 M = some mo → xC l yX12_goesGale cX12_goesGale 8 none dd 0 0 κ [.ref (κ.1 + a0), .int a1, .long a2] M none mo) (X : xX p s m args c cX12_goesGale 8 RX12 κ) (hr : meth.sig.returnType = none) (hlk : meth.locks = false) {mo : xM} (M : xM) (x : xM) (h : F_X12_goesGale_214 rc M = some x) (hK : (fun o => o = mo) x) (H : Heap) (locs : List Loc) (ls : Array Slot) (O : xO κ s M H locs) (hl : lv_has ls 8 []) : W p l e (xRm (dd + 1) 0 0) s m args below meth c H locs 0 0 (xQf below args s 0 0 κ none mo) (F0 m 214 ls []) := by
  unfold F_X12_goesGale_214 at h
  have hx := X.1
  have hb := X.2.1
  rw [← Option.some.inj h] at hK
  have hK : M = mo := hK
  rw [hK] at O
  exact xr_vret X hr hlk O dX12_goesGale_214
set_option maxRecDepth 100000 in
set_option maxHeartbeats 4000000 in
theorem F_X12_goesGale_98_bok {dd : Nat} (hdd : 6 ≤ dd) {rc : Nat → Int32 → Int64 → xM → Option (xM)} (hrc0 : ∀ (κ : xQ) (a0 : Nat) (a1 : Int32) (a2 : Int64) (M mo : xM), rc a0 a1 a2 M = some mo → xC l yX12_goesGale cX12_goesGale 8 none dd 0 0 κ [.ref (κ.1 + a0), .int a1, .long a2] M none mo) (X : xX p s m args c cX12_goesGale 8 RX12 κ) (hr : meth.sig.returnType = none) (hlk : meth.locks = false) {mo : xM} (v0 : Nat) (v1 : Int32) (v2 : Int64) (v4 : Int32) (v5 : Int32) {W98 : Int32 × xM → Prop} (hW98 : ∀ (v5 : Int32) (M : xM), W98 (v5, M) → ∀ (H : Heap) (locs : List Loc) (ls : Array Slot), xO κ s M H locs → lv_has ls 8 [(0, .ref (κ.1 + v0)), (1, .int v1), (2, .long v2), (4, .int v4), (5, .int v5)] → W p l e (xRm (dd + 1) 0 0) s m args below meth c H locs 0 0 (xQf below args s 0 0 κ none mo) (F0 m 98 ls [])) (M : xM) (x : (Int32 × xM) ⊕ (xM)) (h : F_X12_goesGale_98b rc v0 v1 v2 v4 (v5, M) = some x) (hK : (xKl W98 (fun o => o = mo)) x) (H : Heap) (locs : List Loc) (ls : Array Slot) (O : xO κ s M H locs) (hl : lv_has ls 8 [(0, .ref (κ.1 + v0)), (1, .int v1), (2, .long v2), (4, .int v4), (5, .int v5)]) : W p l e (xRm (dd + 1) 0 0) s m args below meth c H locs 0 0 (xQf below args s 0 0 κ none mo) (F0 m 98 ls []) := by
  unfold F_X12_goesGale_98b at h
  dsimp only at h
  have hx := X.1
  have hb := X.2.1
  refine lv_iload hx hb dX12_goesGale_98 (lv_at hl 4 rfl) ?_
  refine lv_iconst (v := (2 : Int32)) hx hb dX12_goesGale_100 (by decide) ?_
  refine lv_icmp_ge (tgt := 214) hx hb dX12_goesGale_101 (by decide) (fun hc101 => ?_) (fun hc101 => ?_)
  · rw [if_pos hc101] at h
    obtain ⟨_, hw0, ew0⟩ := Option.map_eq_some_iff.mp h
    rw [← ew0] at hK
    have h := hw0
    exact F_X12_goesGale_214_ok hdd hrc0 X hr hlk  M _ h hK H locs ls O (lv_sub hl [] rfl)
  rw [if_neg hc101] at h
  refine lv_iload hx hb dX12_goesGale_104 (lv_at hl 4 rfl) ?_
  refine lv_iconst (v := (1 : Int32)) hx hb dX12_goesGale_106 (by decide) ?_
  refine lv_icmp_ne (tgt := 119) hx hb dX12_goesGale_107 (by decide) (fun hc107 => ?_) (fun hc107 => ?_)
  · rw [if_neg hc107] at h
    refine lv_bipush (v := (10 : Int32)) hx hb dX12_goesGale_119 (by decide) ?_
    refine lv_aload_n hx hb dX12_goesGale_121 rfl (lv_at hl 0 rfl) ?_
    obtain ⟨t13, ht13, h⟩ := Option.bind_eq_some_iff.mp h
    refine xr_getP X O ht13 fl_X12_13 dX12_goesGale_122 ?_
    refine lv_iconst (v := (3 : Int32)) hx hb dX12_goesGale_125 (by decide) ?_
    obtain ⟨t14, ht14, h⟩ := Option.bind_eq_some_iff.mp h
    refine xr_aldI X O ht14 dX12_goesGale_126 ?_
    refine lv_isub hx hb dX12_goesGale_127 ?_
    exact F_X12_goesGale_128_ok hdd hrc0 X hr hlk v0 v1 v2 v4 v5 ((10 : Int32) - t14) hW98 M _ h hK H locs ls O (lv_sub hl [0, 1, 2, 3, 4] rfl)
  rw [if_pos hc107] at h
  refine lv_aload_n hx hb dX12_goesGale_110 rfl (lv_at hl 0 rfl) ?_
  obtain ⟨t15, ht15, h⟩ := Option.bind_eq_some_iff.mp h
  refine xr_getP X O ht15 fl_X12_13 dX12_goesGale_111 ?_
  refine lv_iconst (v := (3 : Int32)) hx hb dX12_goesGale_114 (by decide) ?_
  obtain ⟨t16, ht16, h⟩ := Option.bind_eq_some_iff.mp h
  refine xr_aldI X O ht16 dX12_goesGale_115 ?_
  refine lv_goto (tgt := 128) hx hb dX12_goesGale_116 (by decide) ?_
  exact F_X12_goesGale_128_ok hdd hrc0 X hr hlk v0 v1 v2 v4 v5 t16 hW98 M _ h hK H locs ls O (lv_sub hl [0, 1, 2, 3, 4] rfl)
set_option maxRecDepth 100000 in
set_option maxHeartbeats 4000000 in
theorem F_X12_goesGale_98_ok {dd : Nat} (hdd : 6 ≤ dd) {rc : Nat → Int32 → Int64 → xM → Option (xM)} (hrc0 : ∀ (κ : xQ) (a0 : Nat) (a1 : Int32) (a2 : Int64) (M mo : xM), rc a0 a1 a2 M = some mo → xC l yX12_goesGale cX12_goesGale 8 none dd 0 0 κ [.ref (κ.1 + a0), .int a1, .long a2] M none mo) (X : xX p s m args c cX12_goesGale 8 RX12 κ) (hr : meth.sig.returnType = none) (hlk : meth.locks = false) {mo : xM} (v0 : Nat) (v1 : Int32) (v2 : Int64) (v4 : Int32) (v5 : Int32) (M : xM) (x : xM) (h : F_X12_goesGale_98 rc v0 v1 v2 v4 v5 M = some x) (hK : (fun o => o = mo) x) (H : Heap) (locs : List Loc) (ls : Array Slot) (O : xO κ s M H locs) (hl : lv_has ls 8 [(0, .ref (κ.1 + v0)), (1, .int v1), (2, .long v2), (4, .int v4), (5, .int v5)]) : W p l e (xRm (dd + 1) 0 0) s m args below meth c H locs 0 0 (xQf below args s 0 0 κ none mo) (F0 m 98 ls []) := by
  refine xit_K (Wh := fun x => ∀ (H : Heap) (locs : List Loc) (ls : Array Slot), xO κ s x.2 H locs → lv_has ls 8 [(0, .ref (κ.1 + v0)), (1, .int v1), (2, .long v2), (4, .int v4), (5, .int x.1)] → W p l e (xRm (dd + 1) 0 0) s m args below meth c H locs 0 0 (xQf below args s 0 0 κ none mo) (F0 m 98 ls [])) (Kp := (fun o => o = mo)) ?_ xFU (v5, M) x h hK H locs ls O hl
  intro y x h hK H locs ls O hl
  exact F_X12_goesGale_98_bok hdd hrc0 X hr hlk v0 v1 v2 v4 y.1 (fun _ _ hw => hw) y.2 x h hK H locs ls O hl
set_option maxRecDepth 100000 in
set_option maxHeartbeats 4000000 in
theorem F_X12_goesGale_95_ok {dd : Nat} (hdd : 6 ≤ dd) {rc : Nat → Int32 → Int64 → xM → Option (xM)} (hrc0 : ∀ (κ : xQ) (a0 : Nat) (a1 : Int32) (a2 : Int64) (M mo : xM), rc a0 a1 a2 M = some mo → xC l yX12_goesGale cX12_goesGale 8 none dd 0 0 κ [.ref (κ.1 + a0), .int a1, .long a2] M none mo) (X : xX p s m args c cX12_goesGale 8 RX12 κ) (hr : meth.sig.returnType = none) (hlk : meth.locks = false) {mo : xM} (v0 : Nat) (v1 : Int32) (v2 : Int64) (v4 : Int32) (M : xM) (x : xM) (h : F_X12_goesGale_95 rc v0 v1 v2 v4 M = some x) (hK : (fun o => o = mo) x) (H : Heap) (locs : List Loc) (ls : Array Slot) (O : xO κ s M H locs) (hl : lv_has ls 8 [(0, .ref (κ.1 + v0)), (1, .int v1), (2, .long v2), (4, .int v4)]) : W p l e (xRm (dd + 1) 0 0) s m args below meth c H locs 0 0 (xQf below args s 0 0 κ none mo) (F0 m 95 ls []) := by
  unfold F_X12_goesGale_95 at h
  have hx := X.1
  have hb := X.2.1
  refine lv_iconst (v := (0 : Int32)) hx hb dX12_goesGale_95 (by decide) ?_
  refine lv_istore (lv' := [(5, .int (0 : Int32)), (0, .ref (κ.1 + v0)), (1, .int v1), (2, .long v2), (4, .int v4)]) hx hb dX12_goesGale_96 hl (by decide) rfl (fun ls hl => ?_)
  exact F_X12_goesGale_98_ok hdd hrc0 X hr hlk v0 v1 v2 v4 (0 : Int32) M _ h hK H locs ls O (lv_sub hl [1, 2, 3, 4, 0] rfl)
set_option maxRecDepth 100000 in
set_option maxHeartbeats 4000000 in
theorem F_X12_goesGale_63_bok {dd : Nat} (hdd : 6 ≤ dd) {rc : Nat → Int32 → Int64 → xM → Option (xM)} (hrc0 : ∀ (κ : xQ) (a0 : Nat) (a1 : Int32) (a2 : Int64) (M mo : xM), rc a0 a1 a2 M = some mo → xC l yX12_goesGale cX12_goesGale 8 none dd 0 0 κ [.ref (κ.1 + a0), .int a1, .long a2] M none mo) (X : xX p s m args c cX12_goesGale 8 RX12 κ) (hr : meth.sig.returnType = none) (hlk : meth.locks = false) {mo : xM} (v0 : Nat) (v1 : Int32) (v2 : Int64) (v4 : Int32) (v5 : Int32) {W63 : Int32 × xM → Prop} (hW63 : ∀ (v5 : Int32) (M : xM), W63 (v5, M) → ∀ (H : Heap) (locs : List Loc) (ls : Array Slot), xO κ s M H locs → lv_has ls 8 [(0, .ref (κ.1 + v0)), (1, .int v1), (2, .long v2), (4, .int v4), (5, .int v5)] → W p l e (xRm (dd + 1) 0 0) s m args below meth c H locs 0 0 (xQf below args s 0 0 κ none mo) (F0 m 63 ls [])) (M : xM) (x : (Int32 × xM) ⊕ (xM)) (h : F_X12_goesGale_63b rc v0 v1 v2 v4 (v5, M) = some x) (hK : (xKl W63 (fun o => o = mo)) x) (H : Heap) (locs : List Loc) (ls : Array Slot) (O : xO κ s M H locs) (hl : lv_has ls 8 [(0, .ref (κ.1 + v0)), (1, .int v1), (2, .long v2), (4, .int v4), (5, .int v5)]) : W p l e (xRm (dd + 1) 0 0) s m args below meth c H locs 0 0 (xQf below args s 0 0 κ none mo) (F0 m 63 ls []) := by
  unfold F_X12_goesGale_63b at h
  dsimp only at h
  have hx := X.1
  have hb := X.2.1
  refine lv_iload hx hb dX12_goesGale_63 (lv_at hl 4 rfl) ?_
  refine lv_bipush (v := (25 : Int32)) hx hb dX12_goesGale_65 (by decide) ?_
  refine lv_icmp_ge (tgt := 95) hx hb dX12_goesGale_67 (by decide) (fun hc67 => ?_) (fun hc67 => ?_)
  · rw [if_pos hc67] at h
    obtain ⟨_, hw0, ew0⟩ := Option.map_eq_some_iff.mp h
    rw [← ew0] at hK
    have h := hw0
    exact F_X12_goesGale_95_ok hdd hrc0 X hr hlk v0 v1 v2 v4 M _ h hK H locs ls O (lv_sub hl [0, 1, 2, 3] rfl)
  rw [if_neg hc67] at h
  refine lv_aload_n hx hb dX12_goesGale_70 rfl (lv_at hl 0 rfl) ?_
  obtain ⟨t9, ht9, h⟩ := Option.bind_eq_some_iff.mp h
  refine xr_getP X O ht9 fl_X12_63 dX12_goesGale_71 ?_
  refine lv_bipush (v := (25 : Int32)) hx hb dX12_goesGale_74 (by decide) ?_
  refine lv_iload_n hx hb dX12_goesGale_76 rfl (lv_at hl 1 rfl) ?_
  refine lv_imul hx hb dX12_goesGale_77 ?_
  refine lv_iload hx hb dX12_goesGale_78 (lv_at hl 4 rfl) ?_
  refine lv_iadd hx hb dX12_goesGale_80 ?_
  refine lv_aload_n hx hb dX12_goesGale_81 rfl (lv_at hl 0 rfl) ?_
  obtain ⟨t10, ht10, h⟩ := Option.bind_eq_some_iff.mp h
  refine xr_getP X O ht10 fl_X12_36 dX12_goesGale_82 ?_
  refine lv_iload hx hb dX12_goesGale_85 (lv_at hl 4 rfl) ?_
  obtain ⟨t11, ht11, h⟩ := Option.bind_eq_some_iff.mp h
  refine xr_aldI X O ht11 dX12_goesGale_87 ?_
  obtain ⟨t12, ht12, h⟩ := Option.bind_eq_some_iff.mp h
  refine xr_stI X O ht12 dX12_goesGale_88 (fun H locs O => ?_)
  refine lv_iinc (v := (v5 + 1)) (lv' := [(5, .int (v5 + 1)), (0, .ref (κ.1 + v0)), (1, .int v1), (2, .long v2), (4, .int v4)]) hx hb dX12_goesGale_89 hl (k := 4) rfl rfl (by decide) rfl (fun ls hl => ?_)
  refine lv_goto (tgt := 63) hx hb dX12_goesGale_92 (by decide) ?_
  rw [← Option.some.inj h] at hK
  exact hW63 (v5 + 1) t12 hK H locs ls O (lv_sub hl [1, 2, 3, 4, 0] rfl)
set_option maxRecDepth 100000 in
set_option maxHeartbeats 4000000 in
theorem F_X12_goesGale_63_ok {dd : Nat} (hdd : 6 ≤ dd) {rc : Nat → Int32 → Int64 → xM → Option (xM)} (hrc0 : ∀ (κ : xQ) (a0 : Nat) (a1 : Int32) (a2 : Int64) (M mo : xM), rc a0 a1 a2 M = some mo → xC l yX12_goesGale cX12_goesGale 8 none dd 0 0 κ [.ref (κ.1 + a0), .int a1, .long a2] M none mo) (X : xX p s m args c cX12_goesGale 8 RX12 κ) (hr : meth.sig.returnType = none) (hlk : meth.locks = false) {mo : xM} (v0 : Nat) (v1 : Int32) (v2 : Int64) (v4 : Int32) (v5 : Int32) (M : xM) (x : xM) (h : F_X12_goesGale_63 rc v0 v1 v2 v4 v5 M = some x) (hK : (fun o => o = mo) x) (H : Heap) (locs : List Loc) (ls : Array Slot) (O : xO κ s M H locs) (hl : lv_has ls 8 [(0, .ref (κ.1 + v0)), (1, .int v1), (2, .long v2), (4, .int v4), (5, .int v5)]) : W p l e (xRm (dd + 1) 0 0) s m args below meth c H locs 0 0 (xQf below args s 0 0 κ none mo) (F0 m 63 ls []) := by
  refine xit_K (Wh := fun x => ∀ (H : Heap) (locs : List Loc) (ls : Array Slot), xO κ s x.2 H locs → lv_has ls 8 [(0, .ref (κ.1 + v0)), (1, .int v1), (2, .long v2), (4, .int v4), (5, .int x.1)] → W p l e (xRm (dd + 1) 0 0) s m args below meth c H locs 0 0 (xQf below args s 0 0 κ none mo) (F0 m 63 ls [])) (Kp := (fun o => o = mo)) ?_ xFU (v5, M) x h hK H locs ls O hl
  intro y x h hK H locs ls O hl
  exact F_X12_goesGale_63_bok hdd hrc0 X hr hlk v0 v1 v2 v4 y.1 (fun _ _ hw => hw) y.2 x h hK H locs ls O hl
set_option maxRecDepth 100000 in
set_option maxHeartbeats 4000000 in
theorem To_X12_goesGale (l : Launch) {dd : Nat} (hdd : 6 ≤ dd) {rc : Nat → Int32 → Int64 → xM → Option (xM)} (hrc0 : ∀ (κ : xQ) (a0 : Nat) (a1 : Int32) (a2 : Int64) (M mo : xM), rc a0 a1 a2 M = some mo → xC l yX12_goesGale cX12_goesGale 8 none dd 0 0 κ [.ref (κ.1 + a0), .int a1, .long a2] M none mo) (κ : xQ) (a0 : Nat) (a1 : Int32) (a2 : Int64) (M : xM) (mo : xM) (h : F_X12_goesGale rc a0 a1 a2 M = some mo) : xC l yX12_goesGale cX12_goesGale 8 none (dd + 1) 0 0 κ [.ref (κ.1 + a0), .int a1, .long a2] M none mo := by
  refine xC_of rfl (Nat.le_of_ble_eq_true rfl) fun p e s m args below meth c X hr hlk hnm H locs ls O hl => ?_
  have X : xX p s m args c cX12_goesGale 8 RX12 κ := X
  have hl : lv_has ls 8 [(0, .ref (κ.1 + a0)), (1, .int a1), (2, .long a2)] := hl
  have hx := X.1
  have hb := X.2.1
  obtain ⟨x, hx0⟩ : ∃ x, mo = x := ⟨_, rfl⟩
  rw [hx0] at h
  have hK : x = mo := hx0.symm
  unfold F_X12_goesGale at h
  refine lv_iload_n hx hb dX12_goesGale_0 rfl (lv_at hl 1 rfl) ?_
  refine lv_if_ne (tgt := 54) hx hb dX12_goesGale_1 (by decide) (fun hc1 => ?_) (fun hc1 => ?_)
  · rw [if_neg hc1] at h
    refine lv_aload_n hx hb dX12_goesGale_54 rfl (lv_at hl 0 rfl) ?_
    obtain ⟨t1, ht1, h⟩ := Option.bind_eq_some_iff.mp h
    refine xr_getI X O ht1 fl_X12_247 (Or.inl rfl) dX12_goesGale_55 ?_
    refine lv_istore (lv' := [(4, .int t1), (0, .ref (κ.1 + a0)), (1, .int a1), (2, .long a2)]) hx hb dX12_goesGale_58 hl (by decide) rfl (fun ls hl => ?_)
    refine lv_iconst (v := (0 : Int32)) hx hb dX12_goesGale_60 (by decide) ?_
    refine lv_istore (lv' := [(5, .int (0 : Int32)), (4, .int t1), (0, .ref (κ.1 + a0)), (1, .int a1), (2, .long a2)]) hx hb dX12_goesGale_61 hl (by decide) rfl (fun ls hl => ?_)
    exact F_X12_goesGale_63_ok hdd hrc0 X hr hlk a0 a1 a2 t1 (0 : Int32) M _ h hK H locs ls O (lv_sub hl [2, 3, 4, 1, 0] rfl)
  rw [if_pos hc1] at h
  refine lv_iconst (v := (0 : Int32)) hx hb dX12_goesGale_4 (by decide) ?_
  refine lv_istore (lv' := [(4, .int (0 : Int32)), (0, .ref (κ.1 + a0)), (1, .int a1), (2, .long a2)]) hx hb dX12_goesGale_5 hl (by decide) rfl (fun ls hl => ?_)
  exact F_X12_goesGale_7_ok hdd hrc0 X hr hlk a0 a2 (0 : Int32) M _ h hK H locs ls O (lv_sub hl [1, 3, 0] rfl)
set_option maxRecDepth 100000 in
set_option maxHeartbeats 4000000 in
theorem K_X12_goesGale (l : Launch) : ∀ n : Nat, (∀ (κ : xQ) (a0 : Nat) (a1 : Int32) (a2 : Int64) (M : xM) (mo : xM), R_X12_goesGale n a0 a1 a2 M = some mo → xC l yX12_goesGale cX12_goesGale 8 none (6 + n) 0 0 κ [.ref (κ.1 + a0), .int a1, .long a2] M none mo) := by
  intro n
  induction n with
  | zero => exact fun κ a0 a1 a2 M mo h => (by cases h)
  | succ n h0 => exact fun κ a0 a1 a2 M mo h => To_X12_goesGale l (dd := 6 + n) (Nat.le_add_right _ _) h0 κ a0 a1 a2 M mo h
set_option maxRecDepth 100000 in
set_option maxHeartbeats 4000000 in
theorem Tx_X12_goesGale (l : Launch) (κ : xQ) (a0 : Nat) (a1 : Int32) (a2 : Int64) (M : xM) (mo : xM) (h : Fx_X12_goesGale a0 a1 a2 M = some mo) : xC l yX12_goesGale cX12_goesGale 8 none 16 0 0 κ [.ref (κ.1 + a0), .int a1, .long a2] M none mo := (K_X12_goesGale l 10) κ a0 a1 a2 M mo h
def F_X12_laysGale_21 (v0 : Nat) (v1 : Int32) (M : xM) : Option (xM) :=
(xck M v0 12).bind fun _ =>
(F_X12_begins v0 M).bind fun t4 =>
(xck t4 v0 12).bind fun _ =>
(Fx_X12_goesGale v0 v1 (1 : Int64) t4).bind fun t6 =>
some t6
def F_X12_laysGale_2b (v0 : Nat) (v1 : Int32) : (Int32 × xM) → Option ((Int32 × xM) ⊕ (xM)) := fun ⟨v2, M⟩ =>
if (6 : Int32) ≤ v2 then (
(F_X12_laysGale_21 v0 v1 M).map Sum.inr)
else (
(xgP M v0 12 32).bind fun t1 =>
(xsJ M t1 v2 (0 : Int64)).bind fun t2 =>
some (.inl ((v2 + 1), t2)))
def F_X12_laysGale_2 (v0 : Nat) (v1 : Int32) (v2 : Int32) (M : xM) : Option (xM) := xit (F_X12_laysGale_2b v0 v1) xFU (v2, M)
def F_X12_laysGale (a0 : Nat) (a1 : Int32) (M : xM) : Option (xM) :=
F_X12_laysGale_2 a0 a1 (0 : Int32) M
set_option maxRecDepth 100000 in
set_option maxHeartbeats 4000000 in
theorem F_X12_laysGale_21_ok (X : xX p s m args c cX12_laysGale 3 RX12 κ) (hr : meth.sig.returnType = none) (hlk : meth.locks = false) {mo : xM} (v0 : Nat) (v1 : Int32) (M : xM) (x : xM) (h : F_X12_laysGale_21 v0 v1 M = some x) (hK : (fun o => o = mo) x) (H : Heap) (locs : List Loc) (ls : Array Slot) (O : xO κ s M H locs) (hl : lv_has ls 3 [(0, .ref (κ.1 + v0)), (1, .int v1)]) : W p l e (xRm 17 0 0) s m args below meth c H locs 0 0 (xQf below args s 0 0 κ none mo) (F0 m 21 ls []) := by
  unfold F_X12_laysGale_21 at h
  have hx := X.1
  have hb := X.2.1
  refine lv_aload_n hx hb dX12_laysGale_21 rfl (lv_at hl 0 rfl) ?_
  obtain ⟨_, hut3, h⟩ := Option.bind_eq_some_iff.mp h
  obtain ⟨t4, ht4, h⟩ := Option.bind_eq_some_iff.mp h
  refine xr_callV (rest := []) X O (T_X12_begins l κ v0 M _ ht4) lk_X12_272 hut3 (Nat.le_of_ble_eq_true rfl) rfl hl.1 rfl (Nat.le_of_ble_eq_true rfl) dX12_laysGale_22 ⟨Nat.le_of_ble_eq_true rfl, Nat.le_of_ble_eq_true rfl⟩ (fun H locs O => ?_)
  refine W.eq (g2 := F0 m 25 ls []) rfl ?_
  refine lv_aload_n hx hb dX12_laysGale_25 rfl (lv_at hl 0 rfl) ?_
  refine lv_iload_n hx hb dX12_laysGale_26 rfl (lv_at hl 1 rfl) ?_
  refine lv_lconst (v := (1 : Int64)) hx hb dX12_laysGale_27 (by decide) ?_
  obtain ⟨_, hut5, h⟩ := Option.bind_eq_some_iff.mp h
  obtain ⟨t6, ht6, h⟩ := Option.bind_eq_some_iff.mp h
  refine xr_callV (rest := []) X O (Tx_X12_goesGale l κ v0 v1 (1 : Int64) t4 _ ht6) lk_X12_453 hut5 (Nat.le_of_ble_eq_true rfl) rfl hl.1 rfl (Nat.le_of_ble_eq_true rfl) dX12_laysGale_28 ⟨Nat.le_of_ble_eq_true rfl, Nat.le_of_ble_eq_true rfl⟩ (fun H locs O => ?_)
  refine W.eq (g2 := F0 m 31 ls []) rfl ?_
  rw [← Option.some.inj h] at hK
  have hK : t6 = mo := hK
  rw [hK] at O
  exact xr_vret X hr hlk O dX12_laysGale_31
set_option maxRecDepth 100000 in
set_option maxHeartbeats 4000000 in
theorem F_X12_laysGale_2_bok (X : xX p s m args c cX12_laysGale 3 RX12 κ) (hr : meth.sig.returnType = none) (hlk : meth.locks = false) {mo : xM} (v0 : Nat) (v1 : Int32) (v2 : Int32) {W2 : Int32 × xM → Prop} (hW2 : ∀ (v2 : Int32) (M : xM), W2 (v2, M) → ∀ (H : Heap) (locs : List Loc) (ls : Array Slot), xO κ s M H locs → lv_has ls 3 [(0, .ref (κ.1 + v0)), (1, .int v1), (2, .int v2)] → W p l e (xRm 17 0 0) s m args below meth c H locs 0 0 (xQf below args s 0 0 κ none mo) (F0 m 2 ls [])) (M : xM) (x : (Int32 × xM) ⊕ (xM)) (h : F_X12_laysGale_2b v0 v1 (v2, M) = some x) (hK : (xKl W2 (fun o => o = mo)) x) (H : Heap) (locs : List Loc) (ls : Array Slot) (O : xO κ s M H locs) (hl : lv_has ls 3 [(0, .ref (κ.1 + v0)), (1, .int v1), (2, .int v2)]) : W p l e (xRm 17 0 0) s m args below meth c H locs 0 0 (xQf below args s 0 0 κ none mo) (F0 m 2 ls []) := by
  unfold F_X12_laysGale_2b at h
  dsimp only at h
  have hx := X.1
  have hb := X.2.1
  refine lv_iload_n hx hb dX12_laysGale_2 rfl (lv_at hl 2 rfl) ?_
  refine lv_bipush (v := (6 : Int32)) hx hb dX12_laysGale_3 (by decide) ?_
  refine lv_icmp_ge (tgt := 21) hx hb dX12_laysGale_5 (by decide) (fun hc5 => ?_) (fun hc5 => ?_)
  · rw [if_pos hc5] at h
    obtain ⟨_, hw0, ew0⟩ := Option.map_eq_some_iff.mp h
    rw [← ew0] at hK
    have h := hw0
    exact F_X12_laysGale_21_ok X hr hlk v0 v1 M _ h hK H locs ls O (lv_sub hl [0, 1] rfl)
  rw [if_neg hc5] at h
  refine lv_aload_n hx hb dX12_laysGale_8 rfl (lv_at hl 0 rfl) ?_
  obtain ⟨t1, ht1, h⟩ := Option.bind_eq_some_iff.mp h
  refine xr_getP X O ht1 fl_X12_66 dX12_laysGale_9 ?_
  refine lv_iload_n hx hb dX12_laysGale_12 rfl (lv_at hl 2 rfl) ?_
  refine lv_lconst (v := (0 : Int64)) hx hb dX12_laysGale_13 (by decide) ?_
  obtain ⟨t2, ht2, h⟩ := Option.bind_eq_some_iff.mp h
  refine xr_stJ X O ht2 dX12_laysGale_14 (fun H locs O => ?_)
  refine lv_iinc (v := (v2 + 1)) (lv' := [(2, .int (v2 + 1)), (0, .ref (κ.1 + v0)), (1, .int v1)]) hx hb dX12_laysGale_15 hl (k := 2) rfl rfl (by decide) rfl (fun ls hl => ?_)
  refine lv_goto (tgt := 2) hx hb dX12_laysGale_18 (by decide) ?_
  rw [← Option.some.inj h] at hK
  exact hW2 (v2 + 1) t2 hK H locs ls O (lv_sub hl [1, 2, 0] rfl)
set_option maxRecDepth 100000 in
set_option maxHeartbeats 4000000 in
theorem F_X12_laysGale_2_ok (X : xX p s m args c cX12_laysGale 3 RX12 κ) (hr : meth.sig.returnType = none) (hlk : meth.locks = false) {mo : xM} (v0 : Nat) (v1 : Int32) (v2 : Int32) (M : xM) (x : xM) (h : F_X12_laysGale_2 v0 v1 v2 M = some x) (hK : (fun o => o = mo) x) (H : Heap) (locs : List Loc) (ls : Array Slot) (O : xO κ s M H locs) (hl : lv_has ls 3 [(0, .ref (κ.1 + v0)), (1, .int v1), (2, .int v2)]) : W p l e (xRm 17 0 0) s m args below meth c H locs 0 0 (xQf below args s 0 0 κ none mo) (F0 m 2 ls []) := by
  refine xit_K (Wh := fun x => ∀ (H : Heap) (locs : List Loc) (ls : Array Slot), xO κ s x.2 H locs → lv_has ls 3 [(0, .ref (κ.1 + v0)), (1, .int v1), (2, .int x.1)] → W p l e (xRm 17 0 0) s m args below meth c H locs 0 0 (xQf below args s 0 0 κ none mo) (F0 m 2 ls [])) (Kp := (fun o => o = mo)) ?_ xFU (v2, M) x h hK H locs ls O hl
  intro y x h hK H locs ls O hl
  exact F_X12_laysGale_2_bok X hr hlk v0 v1 y.1 (fun _ _ hw => hw) y.2 x h hK H locs ls O hl
set_option maxRecDepth 100000 in
set_option maxHeartbeats 4000000 in
theorem T_X12_laysGale (l : Launch) (κ : xQ) (a0 : Nat) (a1 : Int32) (M : xM) (mo : xM) (h : F_X12_laysGale a0 a1 M = some mo) : xC l yX12_laysGale cX12_laysGale 3 none 17 0 0 κ [.ref (κ.1 + a0), .int a1] M none mo := by
  refine xC_of rfl (Nat.le_of_ble_eq_true rfl) fun p e s m args below meth c X hr hlk hnm H locs ls O hl => ?_
  have X : xX p s m args c cX12_laysGale 3 RX12 κ := X
  have hl : lv_has ls 3 [(0, .ref (κ.1 + a0)), (1, .int a1)] := hl
  have hx := X.1
  have hb := X.2.1
  obtain ⟨x, hx0⟩ : ∃ x, mo = x := ⟨_, rfl⟩
  rw [hx0] at h
  have hK : x = mo := hx0.symm
  unfold F_X12_laysGale at h
  refine lv_iconst (v := (0 : Int32)) hx hb dX12_laysGale_0 (by decide) ?_
  refine lv_istore_n (lv' := [(2, .int (0 : Int32)), (0, .ref (κ.1 + a0)), (1, .int a1)]) hx hb dX12_laysGale_1 rfl hl (by decide) rfl (fun ls hl => ?_)
  exact F_X12_laysGale_2_ok X hr hlk a0 a1 (0 : Int32) M _ h hK H locs ls O (lv_sub hl [1, 2, 0] rfl)
def F_X12_wholeOf_21 (v1 : Int64) (M : xM) : Option (Int64 × xM) :=
some (v1, M)
def F_X12_wholeOf_4b (v0 : Int32) : (Int64 × Int32 × xM) → Option ((Int64 × Int32 × xM) ⊕ (Int64 × xM)) := fun ⟨v1, v3, M⟩ =>
if v0 ≤ v3 then (
(F_X12_wholeOf_21 v1 M).map Sum.inr)
else (
(some ((v1 * (10 : Int64)))).bind fun t1 =>
some (.inl (t1, (v3 + 1), M)))
def F_X12_wholeOf_4 (v0 : Int32) (v1 : Int64) (v3 : Int32) (M : xM) : Option (Int64 × xM) := xit (F_X12_wholeOf_4b v0) xFU (v1, v3, M)
def F_X12_wholeOf (a0 : Int32) (M : xM) : Option (Int64 × xM) :=
F_X12_wholeOf_4 a0 (1 : Int64) (0 : Int32) M
set_option maxRecDepth 100000 in
set_option maxHeartbeats 4000000 in
theorem F_X12_wholeOf_21_ok (X : xX p s m args c cX12_wholeOf 4 RX12 κ) (hr : meth.sig.returnType = (some .long)) (hlk : meth.locks = false) {ro : Int64} {mo : xM} (v1 : Int64) (M : xM) (x : Int64 × xM) (h : F_X12_wholeOf_21 v1 M = some x) (hK : (fun o => o = (ro, mo)) x) (H : Heap) (locs : List Loc) (ls : Array Slot) (O : xO κ s M H locs) (hl : lv_has ls 4 [(1, .long v1)]) : W p l e (xRm 2 0 0) s m args below meth c H locs 0 0 (xQf below args s 0 0 κ (some (.long ro)) mo) (F0 m 21 ls []) := by
  unfold F_X12_wholeOf_21 at h
  have hx := X.1
  have hb := X.2.1
  refine lv_lload_n hx hb dX12_wholeOf_21 rfl (lv_at hl 0 rfl) ?_
  rw [← Option.some.inj h] at hK
  have hK : (v1, M) = (ro, mo) := hK
  obtain ⟨hK1, hK2⟩ := Prod.mk.inj hK
  rw [hK2] at O
  refine xr_top (w := .long ro) (by rw [hK1]) ?_
  exact xr_lret X hr hlk O dX12_wholeOf_22
set_option maxRecDepth 100000 in
set_option maxHeartbeats 4000000 in
theorem F_X12_wholeOf_4_bok (X : xX p s m args c cX12_wholeOf 4 RX12 κ) (hr : meth.sig.returnType = (some .long)) (hlk : meth.locks = false) {ro : Int64} {mo : xM} (v0 : Int32) (v1 : Int64) (v3 : Int32) {W4 : Int64 × Int32 × xM → Prop} (hW4 : ∀ (v1 : Int64) (v3 : Int32) (M : xM), W4 (v1, v3, M) → ∀ (H : Heap) (locs : List Loc) (ls : Array Slot), xO κ s M H locs → lv_has ls 4 [(0, .int v0), (1, .long v1), (3, .int v3)] → W p l e (xRm 2 0 0) s m args below meth c H locs 0 0 (xQf below args s 0 0 κ (some (.long ro)) mo) (F0 m 4 ls [])) (M : xM) (x : (Int64 × Int32 × xM) ⊕ (Int64 × xM)) (h : F_X12_wholeOf_4b v0 (v1, v3, M) = some x) (hK : (xKl W4 (fun o => o = (ro, mo))) x) (H : Heap) (locs : List Loc) (ls : Array Slot) (O : xO κ s M H locs) (hl : lv_has ls 4 [(0, .int v0), (1, .long v1), (3, .int v3)]) : W p l e (xRm 2 0 0) s m args below meth c H locs 0 0 (xQf below args s 0 0 κ (some (.long ro)) mo) (F0 m 4 ls []) := by
  unfold F_X12_wholeOf_4b at h
  dsimp only at h
  have hx := X.1
  have hb := X.2.1
  refine lv_iload_n hx hb dX12_wholeOf_4 rfl (lv_at hl 2 rfl) ?_
  refine lv_iload_n hx hb dX12_wholeOf_5 rfl (lv_at hl 0 rfl) ?_
  refine lv_icmp_ge (tgt := 21) hx hb dX12_wholeOf_6 (by decide) (fun hc6 => ?_) (fun hc6 => ?_)
  · rw [if_pos hc6] at h
    obtain ⟨_, hw0, ew0⟩ := Option.map_eq_some_iff.mp h
    rw [← ew0] at hK
    have h := hw0
    exact F_X12_wholeOf_21_ok X hr hlk v1 M _ h hK H locs ls O (lv_sub hl [1] rfl)
  rw [if_neg hc6] at h
  refine lv_lload_n hx hb dX12_wholeOf_9 rfl (lv_at hl 1 rfl) ?_
  refine lv_ldc2 (v := (10 : Int64)) hx hb X.2.2.2.1 (X.2.2.2.2.1 _ ct_X12_285) dX12_wholeOf_10 ?_
  refine lv_lmul hx hb dX12_wholeOf_13 ?_
  obtain ⟨t1, ht1, h⟩ := Option.bind_eq_some_iff.mp h
  refine xr_top (w := .long t1) (by rw [Option.some.inj ht1]) ?_
  refine lv_lstore_n (lv' := [(1, .long t1), (0, .int v0), (3, .int v3)]) hx hb dX12_wholeOf_14 rfl hl (by decide) rfl (fun ls hl => ?_)
  refine lv_iinc (v := (v3 + 1)) (lv' := [(3, .int (v3 + 1)), (1, .long t1), (0, .int v0)]) hx hb dX12_wholeOf_15 hl (k := 2) rfl rfl (by decide) rfl (fun ls hl => ?_)
  refine lv_goto (tgt := 4) hx hb dX12_wholeOf_18 (by decide) ?_
  rw [← Option.some.inj h] at hK
  exact hW4 t1 (v3 + 1) M hK H locs ls O (lv_sub hl [2, 1, 0] rfl)
set_option maxRecDepth 100000 in
set_option maxHeartbeats 4000000 in
theorem F_X12_wholeOf_4_ok (X : xX p s m args c cX12_wholeOf 4 RX12 κ) (hr : meth.sig.returnType = (some .long)) (hlk : meth.locks = false) {ro : Int64} {mo : xM} (v0 : Int32) (v1 : Int64) (v3 : Int32) (M : xM) (x : Int64 × xM) (h : F_X12_wholeOf_4 v0 v1 v3 M = some x) (hK : (fun o => o = (ro, mo)) x) (H : Heap) (locs : List Loc) (ls : Array Slot) (O : xO κ s M H locs) (hl : lv_has ls 4 [(0, .int v0), (1, .long v1), (3, .int v3)]) : W p l e (xRm 2 0 0) s m args below meth c H locs 0 0 (xQf below args s 0 0 κ (some (.long ro)) mo) (F0 m 4 ls []) := by
  refine xit_K (Wh := fun x => ∀ (H : Heap) (locs : List Loc) (ls : Array Slot), xO κ s x.2.2 H locs → lv_has ls 4 [(0, .int v0), (1, .long x.1), (3, .int x.2.1)] → W p l e (xRm 2 0 0) s m args below meth c H locs 0 0 (xQf below args s 0 0 κ (some (.long ro)) mo) (F0 m 4 ls [])) (Kp := (fun o => o = (ro, mo))) ?_ xFU (v1, v3, M) x h hK H locs ls O hl
  intro y x h hK H locs ls O hl
  exact F_X12_wholeOf_4_bok X hr hlk v0 y.1 y.2.1 (fun _ _ _ hw => hw) y.2.2 x h hK H locs ls O hl
set_option maxRecDepth 100000 in
set_option maxHeartbeats 4000000 in
theorem T_X12_wholeOf (l : Launch) (κ : xQ) (a0 : Int32) (M : xM) (ro : Int64) (mo : xM) (h : F_X12_wholeOf a0 M = some (ro, mo)) : xC l yX12_wholeOf cX12_wholeOf 4 (some .long) 2 0 0 κ [.int a0] M (some (.long ro)) mo := by
  refine xC_of rfl (Nat.le_of_ble_eq_true rfl) fun p e s m args below meth c X hr hlk hnm H locs ls O hl => ?_
  have X : xX p s m args c cX12_wholeOf 4 RX12 κ := X
  have hl : lv_has ls 4 [(0, .int a0)] := hl
  have hx := X.1
  have hb := X.2.1
  obtain ⟨x, hx0⟩ : ∃ x, (ro, mo) = x := ⟨_, rfl⟩
  rw [hx0] at h
  have hK : x = (ro, mo) := hx0.symm
  unfold F_X12_wholeOf at h
  refine lv_lconst (v := (1 : Int64)) hx hb dX12_wholeOf_0 (by decide) ?_
  refine lv_lstore_n (lv' := [(1, .long (1 : Int64)), (0, .int a0)]) hx hb dX12_wholeOf_1 rfl hl (by decide) rfl (fun ls hl => ?_)
  refine lv_iconst (v := (0 : Int32)) hx hb dX12_wholeOf_2 (by decide) ?_
  refine lv_istore_n (lv' := [(3, .int (0 : Int32)), (1, .long (1 : Int64)), (0, .int a0)]) hx hb dX12_wholeOf_3 rfl hl (by decide) rfl (fun ls hl => ?_)
  exact F_X12_wholeOf_4_ok X hr hlk a0 (1 : Int64) (0 : Int32) M _ h hK H locs ls O (lv_sub hl [2, 1, 0] rfl)
def F_X12_common (rc : Int64 → Int64 → xM → Option (Int64 × xM)) (a0 : Int64) (a1 : Int64) (M : xM) : Option (Int64 × xM) :=
if (lg_cmp a1 (0 : Int64)) = 0 then (
some (a0, M))
else (
if a1 = 0 then none else
(rc a1 (a0 - a0 / a1 * a1) M).bind fun t1 =>
some (t1.1, t1.2))
def R_X12_common : Nat → Int64 → Int64 → xM → Option (Int64 × xM)
  | 0 => fun _ _ _ => none
  | n + 1 => F_X12_common (R_X12_common n)
def F_X12_common_top : Int64 → Int64 → xM → Option (Int64 × xM) := R_X12_common 100
def Fx_X12_common (a0 : Int64) (a1 : Int64) (M : xM) : Option (Int64 × xM) := R_X12_common 100 a0 a1 M
set_option maxRecDepth 100000 in
set_option maxHeartbeats 4000000 in
theorem To_X12_common (l : Launch) {dd : Nat} (hdd : 2 ≤ dd) {rc : Int64 → Int64 → xM → Option (Int64 × xM)} (hrc0 : ∀ (κ : xQ) (a0 : Int64) (a1 : Int64) (M : xM) (ro : Int64) (mo : xM), rc a0 a1 M = some (ro, mo) → xC l yX12_common cX12_common 4 (some .long) dd 0 0 κ [.long a0, .long a1] M (some (.long ro)) mo) (κ : xQ) (a0 : Int64) (a1 : Int64) (M : xM) (ro : Int64) (mo : xM) (h : F_X12_common rc a0 a1 M = some (ro, mo)) : xC l yX12_common cX12_common 4 (some .long) (dd + 1) 0 0 κ [.long a0, .long a1] M (some (.long ro)) mo := by
  refine xC_of rfl (Nat.le_of_ble_eq_true rfl) fun p e s m args below meth c X hr hlk hnm H locs ls O hl => ?_
  have X : xX p s m args c cX12_common 4 RX12 κ := X
  have hl : lv_has ls 4 [(0, .long a0), (2, .long a1)] := hl
  have hx := X.1
  have hb := X.2.1
  obtain ⟨x, hx0⟩ : ∃ x, (ro, mo) = x := ⟨_, rfl⟩
  rw [hx0] at h
  have hK : x = (ro, mo) := hx0.symm
  unfold F_X12_common at h
  refine lv_lload_n hx hb dX12_common_0 rfl (lv_at hl 1 rfl) ?_
  refine lv_lconst (v := (0 : Int64)) hx hb dX12_common_1 (by decide) ?_
  refine W.lcmp hx hb dX12_common_2 ?_
  refine lv_if_ne (tgt := 10) hx hb dX12_common_3 (by decide) (fun hc3 => ?_) (fun hc3 => ?_)
  · rw [if_neg hc3] at h
    refine lv_lload_n hx hb dX12_common_10 rfl (lv_at hl 1 rfl) ?_
    refine lv_lload_n hx hb dX12_common_11 rfl (lv_at hl 0 rfl) ?_
    refine lv_lload_n hx hb dX12_common_12 rfl (lv_at hl 1 rfl) ?_
    by_cases hz13 : a1 = 0
    · rw [if_pos hz13] at h; cases h
    rw [if_neg hz13] at h
    refine lv_lrem hx hb dX12_common_13 hz13 ?_
    obtain ⟨t1, ht1, h⟩ := Option.bind_eq_some_iff.mp h
    refine xr_callS (rest := []) X O (hrc0 κ a1 (a0 - a0 / a1 * a1) M _ _ ht1) lk_X12_457 (Nat.le_refl _) rfl hl.1 rfl (Nat.le_of_ble_eq_true rfl) dX12_common_14 ⟨Nat.le_of_ble_eq_true rfl, Nat.le_of_ble_eq_true rfl⟩ (fun H locs O => ?_)
    refine W.eq (g2 := F0 m 17 ls [.long t1.1]) rfl ?_
    rw [← Option.some.inj h] at hK
    have hK : (t1.1, t1.2) = (ro, mo) := hK
    obtain ⟨hK1, hK2⟩ := Prod.mk.inj hK
    rw [hK2] at O
    refine xr_top (w := .long ro) (by rw [hK1]) ?_
    exact xr_lret X hr hlk O dX12_common_17
  rw [if_pos hc3] at h
  refine lv_lload_n hx hb dX12_common_6 rfl (lv_at hl 0 rfl) ?_
  refine lv_goto (tgt := 17) hx hb dX12_common_7 (by decide) ?_
  rw [← Option.some.inj h] at hK
  have hK : (a0, M) = (ro, mo) := hK
  obtain ⟨hK1, hK2⟩ := Prod.mk.inj hK
  rw [hK2] at O
  refine xr_top (w := .long ro) (by rw [hK1]) ?_
  exact xr_lret X hr hlk O dX12_common_17
set_option maxRecDepth 100000 in
set_option maxHeartbeats 4000000 in
theorem K_X12_common (l : Launch) : ∀ n : Nat, (∀ (κ : xQ) (a0 : Int64) (a1 : Int64) (M : xM) (ro : Int64) (mo : xM), R_X12_common n a0 a1 M = some (ro, mo) → xC l yX12_common cX12_common 4 (some .long) (2 + n) 0 0 κ [.long a0, .long a1] M (some (.long ro)) mo) := by
  intro n
  induction n with
  | zero => exact fun κ a0 a1 M ro mo h => (by cases h)
  | succ n h0 => exact fun κ a0 a1 M ro mo h => To_X12_common l (dd := 2 + n) (Nat.le_add_right _ _) h0 κ a0 a1 M ro mo h
set_option maxRecDepth 100000 in
set_option maxHeartbeats 4000000 in
theorem Tx_X12_common (l : Launch) (κ : xQ) (a0 : Int64) (a1 : Int64) (M : xM) (ro : Int64) (mo : xM) (h : Fx_X12_common a0 a1 M = some (ro, mo)) : xC l yX12_common cX12_common 4 (some .long) 102 0 0 κ [.long a0, .long a1] M (some (.long ro)) mo := (K_X12_common l 100) κ a0 a1 M ro mo h
def F_X12_part_10 (v0 : Int64) (v2 : Int64) (s0 : Int64) (M : xM) : Option (Int32 × xM) :=
(Fx_X12_common v0 v2 M).bind fun t1 =>
if t1.1 = 0 then none else
some ((s0 / t1.1).toInt32, t1.2)
def F_X12_part (a0 : Int64) (a1 : Int64) (a2 : Int32) (M : xM) : Option (Int32 × xM) :=
if a2 = 0 then (
F_X12_part_10 a0 a1 a0 M)
else (
F_X12_part_10 a0 a1 a1 M)
set_option maxRecDepth 100000 in
set_option maxHeartbeats 4000000 in
theorem F_X12_part_10_ok (X : xX p s m args c cX12_part 5 RX12 κ) (hr : meth.sig.returnType = (some .int)) (hlk : meth.locks = false) {ro : Int32} {mo : xM} (v0 : Int64) (v2 : Int64) (s0 : Int64) (M : xM) (x : Int32 × xM) (h : F_X12_part_10 v0 v2 s0 M = some x) (hK : (fun o => o = (ro, mo)) x) (H : Heap) (locs : List Loc) (ls : Array Slot) (O : xO κ s M H locs) (hl : lv_has ls 5 [(0, .long v0), (2, .long v2)]) : W p l e (xRm 103 0 0) s m args below meth c H locs 0 0 (xQf below args s 0 0 κ (some (.int ro)) mo) (F0 m 10 ls [.long s0]) := by
  unfold F_X12_part_10 at h
  have hx := X.1
  have hb := X.2.1
  refine lv_lload_n hx hb dX12_part_10 rfl (lv_at hl 0 rfl) ?_
  refine lv_lload_n hx hb dX12_part_11 rfl (lv_at hl 1 rfl) ?_
  obtain ⟨t1, ht1, h⟩ := Option.bind_eq_some_iff.mp h
  refine xr_callS (rest := [.long s0]) X O (Tx_X12_common l κ v0 v2 M _ _ ht1) lk_X12_457 (Nat.le_of_ble_eq_true rfl) rfl hl.1 rfl (Nat.le_of_ble_eq_true rfl) dX12_part_12 ⟨Nat.le_of_ble_eq_true rfl, Nat.le_of_ble_eq_true rfl⟩ (fun H locs O => ?_)
  refine W.eq (g2 := F0 m 15 ls [.long t1.1, .long s0]) rfl ?_
  by_cases hz15 : t1.1 = 0
  · rw [if_pos hz15] at h; cases h
  rw [if_neg hz15] at h
  refine lv_ldiv hx hb dX12_part_15 hz15 ?_
  refine lv_l2i (v := (s0 / t1.1).toInt32) hx hb dX12_part_16 rfl ?_
  rw [← Option.some.inj h] at hK
  have hK : ((s0 / t1.1).toInt32, t1.2) = (ro, mo) := hK
  obtain ⟨hK1, hK2⟩ := Prod.mk.inj hK
  rw [hK2] at O
  refine xr_top (w := .int ro) (by rw [hK1]) ?_
  exact xr_iret X hr hlk O dX12_part_17
set_option maxRecDepth 100000 in
set_option maxHeartbeats 4000000 in
theorem T_X12_part (l : Launch) (κ : xQ) (a0 : Int64) (a1 : Int64) (a2 : Int32) (M : xM) (ro : Int32) (mo : xM) (h : F_X12_part a0 a1 a2 M = some (ro, mo)) : xC l yX12_part cX12_part 5 (some .int) 103 0 0 κ [.long a0, .long a1, .int a2] M (some (.int ro)) mo := by
  refine xC_of rfl (Nat.le_of_ble_eq_true rfl) fun p e s m args below meth c X hr hlk hnm H locs ls O hl => ?_
  have X : xX p s m args c cX12_part 5 RX12 κ := X
  have hl : lv_has ls 5 [(0, .long a0), (2, .long a1), (4, .int a2)] := hl
  have hx := X.1
  have hb := X.2.1
  obtain ⟨x, hx0⟩ : ∃ x, (ro, mo) = x := ⟨_, rfl⟩
  rw [hx0] at h
  have hK : x = (ro, mo) := hx0.symm
  unfold F_X12_part at h
  refine lv_iload hx hb dX12_part_0 (lv_at hl 2 rfl) ?_
  refine lv_if_ne (tgt := 9) hx hb dX12_part_2 (by decide) (fun hc2 => ?_) (fun hc2 => ?_)
  · rw [if_neg hc2] at h
    refine lv_lload_n hx hb dX12_part_9 rfl (lv_at hl 1 rfl) ?_
    exact F_X12_part_10_ok X hr hlk a0 a1 a1 M _ h hK H locs ls O (lv_sub hl [0, 1] rfl)
  rw [if_pos hc2] at h
  refine lv_lload_n hx hb dX12_part_5 rfl (lv_at hl 0 rfl) ?_
  refine lv_goto (tgt := 10) hx hb dX12_part_6 (by decide) ?_
  exact F_X12_part_10_ok X hr hlk a0 a1 a0 M _ h hK H locs ls O (lv_sub hl [0, 1] rfl)
def F_X12_chance (a0 : Nat) (a1 : Int32) (a2 : Int32) (a3 : Int32) (M : xM) : Option (Int32 × xM) :=
(xpI M a0 12 0 (0 : Int32)).bind fun t1 =>
(xck t1 a0 12).bind fun _ =>
(F_X12_isHouse a0 a1.toInt64 t1).bind fun t3 =>
if t3.1 = 0 then (
some ((-2 : Int32), t3.2))
else (
(F_X12_within a3.toInt64 (0 : Int64) (1 : Int64) t3.2).bind fun t4 =>
if t4.1 = 0 then (
some ((-2 : Int32), t4.2))
else (
(F_X12_within a2.toInt64 (0 : Int64) (8 : Int64) t4.2).bind fun t5 =>
if t5.1 = 0 then (
some ((-3 : Int32), t5.2))
else (
(xck t5.2 a0 12).bind fun _ =>
(F_X12_laysGale a0 a2 t5.2).bind fun t7 =>
(xgP t7 a0 12 32).bind fun t8 =>
(xaJ t7 t8 a1).bind fun t9 =>
(F_X12_wholeOf a2 t7).bind fun t10 =>
(F_X12_part t9 t10.1 a3 t10.2).bind fun t11 =>
some (t11.1, t11.2))))
set_option maxRecDepth 100000 in
set_option maxHeartbeats 4000000 in
theorem T_X12_chance (l : Launch) (κ : xQ) (a0 : Nat) (a1 : Int32) (a2 : Int32) (a3 : Int32) (M : xM) (ro : Int32) (mo : xM) (h : F_X12_chance a0 a1 a2 a3 M = some (ro, mo)) : xC l yX12_chance cX12_chance 4 (some .int) 104 0 0 κ [.ref (κ.1 + a0), .int a1, .int a2, .int a3] M (some (.int ro)) mo := by
  refine xC_of rfl (Nat.le_of_ble_eq_true rfl) fun p e s m args below meth c X hr hlk hnm H locs ls O hl => ?_
  have X : xX p s m args c cX12_chance 4 RX12 κ := X
  have hl : lv_has ls 4 [(0, .ref (κ.1 + a0)), (1, .int a1), (2, .int a2), (3, .int a3)] := hl
  have hx := X.1
  have hb := X.2.1
  obtain ⟨x, hx0⟩ : ∃ x, (ro, mo) = x := ⟨_, rfl⟩
  rw [hx0] at h
  have hK : x = (ro, mo) := hx0.symm
  unfold F_X12_chance at h
  refine lv_aload_n hx hb dX12_chance_0 rfl (lv_at hl 0 rfl) ?_
  refine lv_iconst (v := (0 : Int32)) hx hb dX12_chance_1 (by decide) ?_
  obtain ⟨t1, ht1, h⟩ := Option.bind_eq_some_iff.mp h
  refine xr_putI X O ht1 fl_X12_1 dX12_chance_2 (fun H locs O => ?_)
  refine lv_aload_n hx hb dX12_chance_5 rfl (lv_at hl 0 rfl) ?_
  refine lv_iload_n hx hb dX12_chance_6 rfl (lv_at hl 1 rfl) ?_
  refine lv_i2l (v := a1.toInt64) hx hb dX12_chance_7 rfl ?_
  obtain ⟨_, hut2, h⟩ := Option.bind_eq_some_iff.mp h
  obtain ⟨t3, ht3, h⟩ := Option.bind_eq_some_iff.mp h
  refine xr_callV (rest := []) X O (T_X12_isHouse l κ a0 a1.toInt64 t1 _ _ ht3) lk_X12_278 hut2 (Nat.le_of_ble_eq_true rfl) rfl hl.1 rfl (Nat.le_of_ble_eq_true rfl) dX12_chance_8 ⟨Nat.le_of_ble_eq_true rfl, Nat.le_of_ble_eq_true rfl⟩ (fun H locs O => ?_)
  refine W.eq (g2 := F0 m 11 ls [.int t3.1]) rfl ?_
  refine lv_if_eq (tgt := 24) hx hb dX12_chance_11 (by decide) (fun hc11 => ?_) (fun hc11 => ?_)
  · rw [if_pos hc11] at h
    refine lv_bipush (v := (-2 : Int32)) hx hb dX12_chance_24 (by decide) ?_
    rw [← Option.some.inj h] at hK
    have hK : ((-2 : Int32), t3.2) = (ro, mo) := hK
    obtain ⟨hK1, hK2⟩ := Prod.mk.inj hK
    rw [hK2] at O
    refine xr_top (w := .int ro) (by rw [hK1]) ?_
    exact xr_iret X hr hlk O dX12_chance_26
  rw [if_neg hc11] at h
  refine lv_iload_n hx hb dX12_chance_14 rfl (lv_at hl 3 rfl) ?_
  refine lv_i2l (v := a3.toInt64) hx hb dX12_chance_15 rfl ?_
  refine lv_lconst (v := (0 : Int64)) hx hb dX12_chance_16 (by decide) ?_
  refine lv_lconst (v := (1 : Int64)) hx hb dX12_chance_17 (by decide) ?_
  obtain ⟨t4, ht4, h⟩ := Option.bind_eq_some_iff.mp h
  refine xr_callS (rest := []) X O (T_X12_within l κ a3.toInt64 (0 : Int64) (1 : Int64) t3.2 _ _ ht4) lk_X12_145 (Nat.le_of_ble_eq_true rfl) rfl hl.1 rfl (Nat.le_of_ble_eq_true rfl) dX12_chance_18 ⟨Nat.le_of_ble_eq_true rfl, Nat.le_of_ble_eq_true rfl⟩ (fun H locs O => ?_)
  refine W.eq (g2 := F0 m 21 ls [.int t4.1]) rfl ?_
  refine lv_if_ne (tgt := 27) hx hb dX12_chance_21 (by decide) (fun hc21 => ?_) (fun hc21 => ?_)
  · rw [if_neg hc21] at h
    refine lv_iload_n hx hb dX12_chance_27 rfl (lv_at hl 2 rfl) ?_
    refine lv_i2l (v := a2.toInt64) hx hb dX12_chance_28 rfl ?_
    refine lv_lconst (v := (0 : Int64)) hx hb dX12_chance_29 (by decide) ?_
    refine lv_ldc2 (v := (8 : Int64)) hx hb X.2.2.2.1 (X.2.2.2.2.1 _ ct_X12_431) dX12_chance_30 ?_
    obtain ⟨t5, ht5, h⟩ := Option.bind_eq_some_iff.mp h
    refine xr_callS (rest := []) X O (T_X12_within l κ a2.toInt64 (0 : Int64) (8 : Int64) t4.2 _ _ ht5) lk_X12_145 (Nat.le_of_ble_eq_true rfl) rfl hl.1 rfl (Nat.le_of_ble_eq_true rfl) dX12_chance_33 ⟨Nat.le_of_ble_eq_true rfl, Nat.le_of_ble_eq_true rfl⟩ (fun H locs O => ?_)
    refine W.eq (g2 := F0 m 36 ls [.int t5.1]) rfl ?_
    refine lv_if_ne (tgt := 42) hx hb dX12_chance_36 (by decide) (fun hc36 => ?_) (fun hc36 => ?_)
    · rw [if_neg hc36] at h
      refine lv_aload_n hx hb dX12_chance_42 rfl (lv_at hl 0 rfl) ?_
      refine lv_iload_n hx hb dX12_chance_43 rfl (lv_at hl 2 rfl) ?_
      obtain ⟨_, hut6, h⟩ := Option.bind_eq_some_iff.mp h
      obtain ⟨t7, ht7, h⟩ := Option.bind_eq_some_iff.mp h
      refine xr_callV (rest := []) X O (T_X12_laysGale l κ a0 a2 t5.2 _ ht7) lk_X12_461 hut6 (Nat.le_of_ble_eq_true rfl) rfl hl.1 rfl (Nat.le_of_ble_eq_true rfl) dX12_chance_44 ⟨Nat.le_of_ble_eq_true rfl, Nat.le_of_ble_eq_true rfl⟩ (fun H locs O => ?_)
      refine W.eq (g2 := F0 m 47 ls []) rfl ?_
      refine lv_aload_n hx hb dX12_chance_47 rfl (lv_at hl 0 rfl) ?_
      obtain ⟨t8, ht8, h⟩ := Option.bind_eq_some_iff.mp h
      refine xr_getP X O ht8 fl_X12_66 dX12_chance_48 ?_
      refine lv_iload_n hx hb dX12_chance_51 rfl (lv_at hl 1 rfl) ?_
      obtain ⟨t9, ht9, h⟩ := Option.bind_eq_some_iff.mp h
      refine xr_aldJ X O ht9 dX12_chance_52 ?_
      refine lv_iload_n hx hb dX12_chance_53 rfl (lv_at hl 2 rfl) ?_
      obtain ⟨t10, ht10, h⟩ := Option.bind_eq_some_iff.mp h
      refine xr_callS (rest := [.long t9]) X O (T_X12_wholeOf l κ a2 t7 _ _ ht10) lk_X12_464 (Nat.le_of_ble_eq_true rfl) rfl hl.1 rfl (Nat.le_of_ble_eq_true rfl) dX12_chance_54 ⟨Nat.le_of_ble_eq_true rfl, Nat.le_of_ble_eq_true rfl⟩ (fun H locs O => ?_)
      refine W.eq (g2 := F0 m 57 ls [.long t10.1, .long t9]) rfl ?_
      refine lv_iload_n hx hb dX12_chance_57 rfl (lv_at hl 3 rfl) ?_
      obtain ⟨t11, ht11, h⟩ := Option.bind_eq_some_iff.mp h
      refine xr_callS (rest := []) X O (T_X12_part l κ t9 t10.1 a3 t10.2 _ _ ht11) lk_X12_468 (Nat.le_of_ble_eq_true rfl) rfl hl.1 rfl (Nat.le_of_ble_eq_true rfl) dX12_chance_58 ⟨Nat.le_of_ble_eq_true rfl, Nat.le_of_ble_eq_true rfl⟩ (fun H locs O => ?_)
      refine W.eq (g2 := F0 m 61 ls [.int t11.1]) rfl ?_
      rw [← Option.some.inj h] at hK
      have hK : (t11.1, t11.2) = (ro, mo) := hK
      obtain ⟨hK1, hK2⟩ := Prod.mk.inj hK
      rw [hK2] at O
      refine xr_top (w := .int ro) (by rw [hK1]) ?_
      exact xr_iret X hr hlk O dX12_chance_61
    rw [if_pos hc36] at h
    refine lv_bipush (v := (-3 : Int32)) hx hb dX12_chance_39 (by decide) ?_
    rw [← Option.some.inj h] at hK
    have hK : ((-3 : Int32), t5.2) = (ro, mo) := hK
    obtain ⟨hK1, hK2⟩ := Prod.mk.inj hK
    rw [hK2] at O
    refine xr_top (w := .int ro) (by rw [hK1]) ?_
    exact xr_iret X hr hlk O dX12_chance_41
  rw [if_pos hc21] at h
  refine lv_bipush (v := (-2 : Int32)) hx hb dX12_chance_24 (by decide) ?_
  rw [← Option.some.inj h] at hK
  have hK : ((-2 : Int32), t4.2) = (ro, mo) := hK
  obtain ⟨hK1, hK2⟩ := Prod.mk.inj hK
  rw [hK2] at O
  refine xr_top (w := .int ro) (by rw [hK1]) ?_
  exact xr_iret X hr hlk O dX12_chance_26
def F_X12_mean_66 (v1 : Int32) (v2 : Int32) (v3 : Int64) (M : xM) : Option (Int32 × xM) :=
(F_X12_wholeOf v1 M).bind fun t9 =>
(F_X12_part v3 t9.1 v2 t9.2).bind fun t10 =>
some (t10.1, t10.2)
def F_X12_mean_43b (v0 : Nat) (v1 : Int32) (v2 : Int32) : (Int64 × Int32 × xM) → Option ((Int64 × Int32 × xM) ⊕ (Int32 × xM)) := fun ⟨v3, v5, M⟩ =>
if (6 : Int32) ≤ v5 then (
(F_X12_mean_66 v1 v2 v3 M).map Sum.inr)
else (
(xgP M v0 12 32).bind fun t6 =>
(xaJ M t6 v5).bind fun t7 =>
(some ((v3 + t7))).bind fun t8 =>
some (.inl (t8, (v5 + 1), M)))
def F_X12_mean_43 (v0 : Nat) (v1 : Int32) (v2 : Int32) (v3 : Int64) (v5 : Int32) (M : xM) : Option (Int32 × xM) := xit (F_X12_mean_43b v0 v1 v2) xFU (v3, v5, M)
def F_X12_mean (a0 : Nat) (a1 : Int32) (a2 : Int32) (M : xM) : Option (Int32 × xM) :=
(xpI M a0 12 0 (0 : Int32)).bind fun t1 =>
(F_X12_within a2.toInt64 (0 : Int64) (1 : Int64) t1).bind fun t2 =>
if t2.1 = 0 then (
some ((-2 : Int32), t2.2))
else (
(F_X12_within a1.toInt64 (0 : Int64) (8 : Int64) t2.2).bind fun t3 =>
if t3.1 = 0 then (
some ((-3 : Int32), t3.2))
else (
(xck t3.2 a0 12).bind fun _ =>
(F_X12_laysGale a0 a1 t3.2).bind fun t5 =>
F_X12_mean_43 a0 a1 a2 (0 : Int64) (0 : Int32) t5))
set_option maxRecDepth 100000 in
set_option maxHeartbeats 4000000 in
theorem F_X12_mean_66_ok (X : xX p s m args c cX12_mean 6 RX12 κ) (hr : meth.sig.returnType = (some .int)) (hlk : meth.locks = false) {ro : Int32} {mo : xM} (v1 : Int32) (v2 : Int32) (v3 : Int64) (M : xM) (x : Int32 × xM) (h : F_X12_mean_66 v1 v2 v3 M = some x) (hK : (fun o => o = (ro, mo)) x) (H : Heap) (locs : List Loc) (ls : Array Slot) (O : xO κ s M H locs) (hl : lv_has ls 6 [(1, .int v1), (2, .int v2), (3, .long v3)]) : W p l e (xRm 104 0 0) s m args below meth c H locs 0 0 (xQf below args s 0 0 κ (some (.int ro)) mo) (F0 m 66 ls []) := by
  unfold F_X12_mean_66 at h
  have hx := X.1
  have hb := X.2.1
  refine lv_lload_n hx hb dX12_mean_66 rfl (lv_at hl 2 rfl) ?_
  refine lv_iload_n hx hb dX12_mean_67 rfl (lv_at hl 0 rfl) ?_
  obtain ⟨t9, ht9, h⟩ := Option.bind_eq_some_iff.mp h
  refine xr_callS (rest := [.long v3]) X O (T_X12_wholeOf l κ v1 M _ _ ht9) lk_X12_464 (Nat.le_of_ble_eq_true rfl) rfl hl.1 rfl (Nat.le_of_ble_eq_true rfl) dX12_mean_68 ⟨Nat.le_of_ble_eq_true rfl, Nat.le_of_ble_eq_true rfl⟩ (fun H locs O => ?_)
  refine W.eq (g2 := F0 m 71 ls [.long t9.1, .long v3]) rfl ?_
  refine lv_iload_n hx hb dX12_mean_71 rfl (lv_at hl 1 rfl) ?_
  obtain ⟨t10, ht10, h⟩ := Option.bind_eq_some_iff.mp h
  refine xr_callS (rest := []) X O (T_X12_part l κ v3 t9.1 v2 t9.2 _ _ ht10) lk_X12_468 (Nat.le_of_ble_eq_true rfl) rfl hl.1 rfl (Nat.le_of_ble_eq_true rfl) dX12_mean_72 ⟨Nat.le_of_ble_eq_true rfl, Nat.le_of_ble_eq_true rfl⟩ (fun H locs O => ?_)
  refine W.eq (g2 := F0 m 75 ls [.int t10.1]) rfl ?_
  rw [← Option.some.inj h] at hK
  have hK : (t10.1, t10.2) = (ro, mo) := hK
  obtain ⟨hK1, hK2⟩ := Prod.mk.inj hK
  rw [hK2] at O
  refine xr_top (w := .int ro) (by rw [hK1]) ?_
  exact xr_iret X hr hlk O dX12_mean_75
set_option maxRecDepth 100000 in
set_option maxHeartbeats 4000000 in
theorem F_X12_mean_43_bok (X : xX p s m args c cX12_mean 6 RX12 κ) (hr : meth.sig.returnType = (some .int)) (hlk : meth.locks = false) {ro : Int32} {mo : xM} (v0 : Nat) (v1 : Int32) (v2 : Int32) (v3 : Int64) (v5 : Int32) {W43 : Int64 × Int32 × xM → Prop} (hW43 : ∀ (v3 : Int64) (v5 : Int32) (M : xM), W43 (v3, v5, M) → ∀ (H : Heap) (locs : List Loc) (ls : Array Slot), xO κ s M H locs → lv_has ls 6 [(0, .ref (κ.1 + v0)), (1, .int v1), (2, .int v2), (3, .long v3), (5, .int v5)] → W p l e (xRm 104 0 0) s m args below meth c H locs 0 0 (xQf below args s 0 0 κ (some (.int ro)) mo) (F0 m 43 ls [])) (M : xM) (x : (Int64 × Int32 × xM) ⊕ (Int32 × xM)) (h : F_X12_mean_43b v0 v1 v2 (v3, v5, M) = some x) (hK : (xKl W43 (fun o => o = (ro, mo))) x) (H : Heap) (locs : List Loc) (ls : Array Slot) (O : xO κ s M H locs) (hl : lv_has ls 6 [(0, .ref (κ.1 + v0)), (1, .int v1), (2, .int v2), (3, .long v3), (5, .int v5)]) : W p l e (xRm 104 0 0) s m args below meth c H locs 0 0 (xQf below args s 0 0 κ (some (.int ro)) mo) (F0 m 43 ls []) := by
  unfold F_X12_mean_43b at h
  dsimp only at h
  have hx := X.1
  have hb := X.2.1
  refine lv_iload hx hb dX12_mean_43 (lv_at hl 4 rfl) ?_
  refine lv_bipush (v := (6 : Int32)) hx hb dX12_mean_45 (by decide) ?_
  refine lv_icmp_ge (tgt := 66) hx hb dX12_mean_47 (by decide) (fun hc47 => ?_) (fun hc47 => ?_)
  · rw [if_pos hc47] at h
    obtain ⟨_, hw0, ew0⟩ := Option.map_eq_some_iff.mp h
    rw [← ew0] at hK
    have h := hw0
    exact F_X12_mean_66_ok X hr hlk v1 v2 v3 M _ h hK H locs ls O (lv_sub hl [1, 2, 3] rfl)
  rw [if_neg hc47] at h
  refine lv_lload_n hx hb dX12_mean_50 rfl (lv_at hl 3 rfl) ?_
  refine lv_aload_n hx hb dX12_mean_51 rfl (lv_at hl 0 rfl) ?_
  obtain ⟨t6, ht6, h⟩ := Option.bind_eq_some_iff.mp h
  refine xr_getP X O ht6 fl_X12_66 dX12_mean_52 ?_
  refine lv_iload hx hb dX12_mean_55 (lv_at hl 4 rfl) ?_
  obtain ⟨t7, ht7, h⟩ := Option.bind_eq_some_iff.mp h
  refine xr_aldJ X O ht7 dX12_mean_57 ?_
  refine lv_ladd hx hb dX12_mean_58 ?_
  obtain ⟨t8, ht8, h⟩ := Option.bind_eq_some_iff.mp h
  refine xr_top (w := .long t8) (by rw [Option.some.inj ht8]) ?_
  refine lv_lstore_n (lv' := [(3, .long t8), (0, .ref (κ.1 + v0)), (1, .int v1), (2, .int v2), (5, .int v5)]) hx hb dX12_mean_59 rfl hl (by decide) rfl (fun ls hl => ?_)
  refine lv_iinc (v := (v5 + 1)) (lv' := [(5, .int (v5 + 1)), (3, .long t8), (0, .ref (κ.1 + v0)), (1, .int v1), (2, .int v2)]) hx hb dX12_mean_60 hl (k := 4) rfl rfl (by decide) rfl (fun ls hl => ?_)
  refine lv_goto (tgt := 43) hx hb dX12_mean_63 (by decide) ?_
  rw [← Option.some.inj h] at hK
  exact hW43 t8 (v5 + 1) M hK H locs ls O (lv_sub hl [2, 3, 4, 1, 0] rfl)
set_option maxRecDepth 100000 in
set_option maxHeartbeats 4000000 in
theorem F_X12_mean_43_ok (X : xX p s m args c cX12_mean 6 RX12 κ) (hr : meth.sig.returnType = (some .int)) (hlk : meth.locks = false) {ro : Int32} {mo : xM} (v0 : Nat) (v1 : Int32) (v2 : Int32) (v3 : Int64) (v5 : Int32) (M : xM) (x : Int32 × xM) (h : F_X12_mean_43 v0 v1 v2 v3 v5 M = some x) (hK : (fun o => o = (ro, mo)) x) (H : Heap) (locs : List Loc) (ls : Array Slot) (O : xO κ s M H locs) (hl : lv_has ls 6 [(0, .ref (κ.1 + v0)), (1, .int v1), (2, .int v2), (3, .long v3), (5, .int v5)]) : W p l e (xRm 104 0 0) s m args below meth c H locs 0 0 (xQf below args s 0 0 κ (some (.int ro)) mo) (F0 m 43 ls []) := by
  refine xit_K (Wh := fun x => ∀ (H : Heap) (locs : List Loc) (ls : Array Slot), xO κ s x.2.2 H locs → lv_has ls 6 [(0, .ref (κ.1 + v0)), (1, .int v1), (2, .int v2), (3, .long x.1), (5, .int x.2.1)] → W p l e (xRm 104 0 0) s m args below meth c H locs 0 0 (xQf below args s 0 0 κ (some (.int ro)) mo) (F0 m 43 ls [])) (Kp := (fun o => o = (ro, mo))) ?_ xFU (v3, v5, M) x h hK H locs ls O hl
  intro y x h hK H locs ls O hl
  exact F_X12_mean_43_bok X hr hlk v0 v1 v2 y.1 y.2.1 (fun _ _ _ hw => hw) y.2.2 x h hK H locs ls O hl
set_option maxRecDepth 100000 in
set_option maxHeartbeats 4000000 in
theorem T_X12_mean (l : Launch) (κ : xQ) (a0 : Nat) (a1 : Int32) (a2 : Int32) (M : xM) (ro : Int32) (mo : xM) (h : F_X12_mean a0 a1 a2 M = some (ro, mo)) : xC l yX12_mean cX12_mean 6 (some .int) 104 0 0 κ [.ref (κ.1 + a0), .int a1, .int a2] M (some (.int ro)) mo := by
  refine xC_of rfl (Nat.le_of_ble_eq_true rfl) fun p e s m args below meth c X hr hlk hnm H locs ls O hl => ?_
  have X : xX p s m args c cX12_mean 6 RX12 κ := X
  have hl : lv_has ls 6 [(0, .ref (κ.1 + a0)), (1, .int a1), (2, .int a2)] := hl
  have hx := X.1
  have hb := X.2.1
  obtain ⟨x, hx0⟩ : ∃ x, (ro, mo) = x := ⟨_, rfl⟩
  rw [hx0] at h
  have hK : x = (ro, mo) := hx0.symm
  unfold F_X12_mean at h
  refine lv_aload_n hx hb dX12_mean_0 rfl (lv_at hl 0 rfl) ?_
  refine lv_iconst (v := (0 : Int32)) hx hb dX12_mean_1 (by decide) ?_
  obtain ⟨t1, ht1, h⟩ := Option.bind_eq_some_iff.mp h
  refine xr_putI X O ht1 fl_X12_1 dX12_mean_2 (fun H locs O => ?_)
  refine lv_iload_n hx hb dX12_mean_5 rfl (lv_at hl 2 rfl) ?_
  refine lv_i2l (v := a2.toInt64) hx hb dX12_mean_6 rfl ?_
  refine lv_lconst (v := (0 : Int64)) hx hb dX12_mean_7 (by decide) ?_
  refine lv_lconst (v := (1 : Int64)) hx hb dX12_mean_8 (by decide) ?_
  obtain ⟨t2, ht2, h⟩ := Option.bind_eq_some_iff.mp h
  refine xr_callS (rest := []) X O (T_X12_within l κ a2.toInt64 (0 : Int64) (1 : Int64) t1 _ _ ht2) lk_X12_145 (Nat.le_of_ble_eq_true rfl) rfl hl.1 rfl (Nat.le_of_ble_eq_true rfl) dX12_mean_9 ⟨Nat.le_of_ble_eq_true rfl, Nat.le_of_ble_eq_true rfl⟩ (fun H locs O => ?_)
  refine W.eq (g2 := F0 m 12 ls [.int t2.1]) rfl ?_
  refine lv_if_ne (tgt := 18) hx hb dX12_mean_12 (by decide) (fun hc12 => ?_) (fun hc12 => ?_)
  · rw [if_neg hc12] at h
    refine lv_iload_n hx hb dX12_mean_18 rfl (lv_at hl 1 rfl) ?_
    refine lv_i2l (v := a1.toInt64) hx hb dX12_mean_19 rfl ?_
    refine lv_lconst (v := (0 : Int64)) hx hb dX12_mean_20 (by decide) ?_
    refine lv_ldc2 (v := (8 : Int64)) hx hb X.2.2.2.1 (X.2.2.2.2.1 _ ct_X12_431) dX12_mean_21 ?_
    obtain ⟨t3, ht3, h⟩ := Option.bind_eq_some_iff.mp h
    refine xr_callS (rest := []) X O (T_X12_within l κ a1.toInt64 (0 : Int64) (8 : Int64) t2.2 _ _ ht3) lk_X12_145 (Nat.le_of_ble_eq_true rfl) rfl hl.1 rfl (Nat.le_of_ble_eq_true rfl) dX12_mean_24 ⟨Nat.le_of_ble_eq_true rfl, Nat.le_of_ble_eq_true rfl⟩ (fun H locs O => ?_)
    refine W.eq (g2 := F0 m 27 ls [.int t3.1]) rfl ?_
    refine lv_if_ne (tgt := 33) hx hb dX12_mean_27 (by decide) (fun hc27 => ?_) (fun hc27 => ?_)
    · rw [if_neg hc27] at h
      refine lv_aload_n hx hb dX12_mean_33 rfl (lv_at hl 0 rfl) ?_
      refine lv_iload_n hx hb dX12_mean_34 rfl (lv_at hl 1 rfl) ?_
      obtain ⟨_, hut4, h⟩ := Option.bind_eq_some_iff.mp h
      obtain ⟨t5, ht5, h⟩ := Option.bind_eq_some_iff.mp h
      refine xr_callV (rest := []) X O (T_X12_laysGale l κ a0 a1 t3.2 _ ht5) lk_X12_461 hut4 (Nat.le_of_ble_eq_true rfl) rfl hl.1 rfl (Nat.le_of_ble_eq_true rfl) dX12_mean_35 ⟨Nat.le_of_ble_eq_true rfl, Nat.le_of_ble_eq_true rfl⟩ (fun H locs O => ?_)
      refine W.eq (g2 := F0 m 38 ls []) rfl ?_
      refine lv_lconst (v := (0 : Int64)) hx hb dX12_mean_38 (by decide) ?_
      refine lv_lstore_n (lv' := [(3, .long (0 : Int64)), (0, .ref (κ.1 + a0)), (1, .int a1), (2, .int a2)]) hx hb dX12_mean_39 rfl hl (by decide) rfl (fun ls hl => ?_)
      refine lv_iconst (v := (0 : Int32)) hx hb dX12_mean_40 (by decide) ?_
      refine lv_istore (lv' := [(5, .int (0 : Int32)), (3, .long (0 : Int64)), (0, .ref (κ.1 + a0)), (1, .int a1), (2, .int a2)]) hx hb dX12_mean_41 hl (by decide) rfl (fun ls hl => ?_)
      exact F_X12_mean_43_ok X hr hlk a0 a1 a2 (0 : Int64) (0 : Int32) t5 _ h hK H locs ls O (lv_sub hl [2, 3, 4, 1, 0] rfl)
    rw [if_pos hc27] at h
    refine lv_bipush (v := (-3 : Int32)) hx hb dX12_mean_30 (by decide) ?_
    rw [← Option.some.inj h] at hK
    have hK : ((-3 : Int32), t3.2) = (ro, mo) := hK
    obtain ⟨hK1, hK2⟩ := Prod.mk.inj hK
    rw [hK2] at O
    refine xr_top (w := .int ro) (by rw [hK1]) ?_
    exact xr_iret X hr hlk O dX12_mean_32
  rw [if_pos hc12] at h
  refine lv_bipush (v := (-2 : Int32)) hx hb dX12_mean_15 (by decide) ?_
  rw [← Option.some.inj h] at hK
  have hK : ((-2 : Int32), t2.2) = (ro, mo) := hK
  obtain ⟨hK1, hK2⟩ := Prod.mk.inj hK
  rw [hK2] at O
  refine xr_top (w := .int ro) (by rw [hK1]) ?_
  exact xr_iret X hr hlk O dX12_mean_17
def F_X12_cut (a0 : Int64) (a1 : Int32) (M : xM) : Option (Int64 × xM) :=
if a1 = 0 then (
some (a0.toInt32.toInt8.toInt32.toInt64, M))
else (
if a1 = (1 : Int32) then (
some (a0.toInt32.toInt16.toInt32.toInt64, M))
else (
if a1 = (2 : Int32) then (
some (a0.toInt32.toInt64, M))
else (
some (a0, M))))
set_option maxRecDepth 100000 in
set_option maxHeartbeats 4000000 in
theorem T_X12_cut (l : Launch) (κ : xQ) (a0 : Int64) (a1 : Int32) (M : xM) (ro : Int64) (mo : xM) (h : F_X12_cut a0 a1 M = some (ro, mo)) : xC l yX12_cut cX12_cut 3 (some .long) 2 0 0 κ [.long a0, .int a1] M (some (.long ro)) mo := by
  refine xC_of rfl (Nat.le_of_ble_eq_true rfl) fun p e s m args below meth c X hr hlk hnm H locs ls O hl => ?_
  have X : xX p s m args c cX12_cut 3 RX12 κ := X
  have hl : lv_has ls 3 [(0, .long a0), (2, .int a1)] := hl
  have hx := X.1
  have hb := X.2.1
  obtain ⟨x, hx0⟩ : ∃ x, (ro, mo) = x := ⟨_, rfl⟩
  rw [hx0] at h
  have hK : x = (ro, mo) := hx0.symm
  unfold F_X12_cut at h
  refine lv_iload_n hx hb dX12_cut_0 rfl (lv_at hl 1 rfl) ?_
  refine lv_if_ne (tgt := 11) hx hb dX12_cut_1 (by decide) (fun hc1 => ?_) (fun hc1 => ?_)
  · rw [if_neg hc1] at h
    refine lv_iload_n hx hb dX12_cut_11 rfl (lv_at hl 1 rfl) ?_
    refine lv_iconst (v := (1 : Int32)) hx hb dX12_cut_12 (by decide) ?_
    refine lv_icmp_ne (tgt := 23) hx hb dX12_cut_13 (by decide) (fun hc13 => ?_) (fun hc13 => ?_)
    · rw [if_neg hc13] at h
      refine lv_iload_n hx hb dX12_cut_23 rfl (lv_at hl 1 rfl) ?_
      refine lv_iconst (v := (2 : Int32)) hx hb dX12_cut_24 (by decide) ?_
      refine lv_icmp_ne (tgt := 34) hx hb dX12_cut_25 (by decide) (fun hc25 => ?_) (fun hc25 => ?_)
      · rw [if_neg hc25] at h
        refine lv_lload_n hx hb dX12_cut_34 rfl (lv_at hl 0 rfl) ?_
        rw [← Option.some.inj h] at hK
        have hK : (a0, M) = (ro, mo) := hK
        obtain ⟨hK1, hK2⟩ := Prod.mk.inj hK
        rw [hK2] at O
        refine xr_top (w := .long ro) (by rw [hK1]) ?_
        exact xr_lret X hr hlk O dX12_cut_35
      rw [if_pos hc25] at h
      refine lv_lload_n hx hb dX12_cut_28 rfl (lv_at hl 0 rfl) ?_
      refine lv_l2i (v := a0.toInt32) hx hb dX12_cut_29 rfl ?_
      refine lv_i2l (v := a0.toInt32.toInt64) hx hb dX12_cut_30 rfl ?_
      refine lv_goto (tgt := 35) hx hb dX12_cut_31 (by decide) ?_
      rw [← Option.some.inj h] at hK
      have hK : (a0.toInt32.toInt64, M) = (ro, mo) := hK
      obtain ⟨hK1, hK2⟩ := Prod.mk.inj hK
      rw [hK2] at O
      refine xr_top (w := .long ro) (by rw [hK1]) ?_
      exact xr_lret X hr hlk O dX12_cut_35
    rw [if_pos hc13] at h
    refine lv_lload_n hx hb dX12_cut_16 rfl (lv_at hl 0 rfl) ?_
    refine lv_l2i (v := a0.toInt32) hx hb dX12_cut_17 rfl ?_
    refine lv_i2s (v := a0.toInt32.toInt16.toInt32) hx hb dX12_cut_18 rfl ?_
    refine lv_i2l (v := a0.toInt32.toInt16.toInt32.toInt64) hx hb dX12_cut_19 rfl ?_
    refine lv_goto (tgt := 35) hx hb dX12_cut_20 (by decide) ?_
    rw [← Option.some.inj h] at hK
    have hK : (a0.toInt32.toInt16.toInt32.toInt64, M) = (ro, mo) := hK
    obtain ⟨hK1, hK2⟩ := Prod.mk.inj hK
    rw [hK2] at O
    refine xr_top (w := .long ro) (by rw [hK1]) ?_
    exact xr_lret X hr hlk O dX12_cut_35
  rw [if_pos hc1] at h
  refine lv_lload_n hx hb dX12_cut_4 rfl (lv_at hl 0 rfl) ?_
  refine lv_l2i (v := a0.toInt32) hx hb dX12_cut_5 rfl ?_
  refine lv_i2b (v := a0.toInt32.toInt8.toInt32) hx hb dX12_cut_6 rfl ?_
  refine lv_i2l (v := a0.toInt32.toInt8.toInt32.toInt64) hx hb dX12_cut_7 rfl ?_
  refine lv_goto (tgt := 35) hx hb dX12_cut_8 (by decide) ?_
  rw [← Option.some.inj h] at hK
  have hK : (a0.toInt32.toInt8.toInt32.toInt64, M) = (ro, mo) := hK
  obtain ⟨hK1, hK2⟩ := Prod.mk.inj hK
  rw [hK2] at O
  refine xr_top (w := .long ro) (by rw [hK1]) ?_
  exact xr_lret X hr hlk O dX12_cut_35
def F_X12_numbers_89 (M : xM) : Option (Int32 × xM) :=
some ((0 : Int32), M)
def F_X12_numbers_64b (v0 : Nat) (v1 : Int32) (v3 : Int32) : (Int32 × xM) → Option ((Int32 × xM) ⊕ (Int32 × xM)) := fun ⟨v4, M⟩ =>
if v3 ≤ v4 then (
(F_X12_numbers_89 M).map Sum.inr)
else (
(xgP M v0 12 35).bind fun t9 =>
(xsJ M t9 (((40 : Int32) * v1) + v4) (0 : Int64)).bind fun t10 =>
some (.inl ((v4 + 1), t10)))
def F_X12_numbers_64 (v0 : Nat) (v1 : Int32) (v3 : Int32) (v4 : Int32) (M : xM) : Option (Int32 × xM) := xit (F_X12_numbers_64b v0 v1 v3) xFU (v4, M)
def F_X12_numbers (a0 : Nat) (a1 : Int32) (a2 : Int32) (a3 : Int32) (M : xM) : Option (Int32 × xM) :=
(xpI M a0 12 0 (0 : Int32)).bind fun t1 =>
(F_X12_within a1.toInt64 (0 : Int64) (3 : Int64) t1).bind fun t2 =>
if t2.1 = 0 then (
some ((-2 : Int32), t2.2))
else (
(F_X12_within a2.toInt64 (0 : Int64) (3 : Int64) t2.2).bind fun t3 =>
if t3.1 = 0 then (
some ((-2 : Int32), t3.2))
else (
(F_X12_within a3.toInt64 (0 : Int64) (40 : Int64) t3.2).bind fun t4 =>
if t4.1 = 0 then (
some ((-3 : Int32), t4.2))
else (
(xgP t4.2 a0 12 33).bind fun t5 =>
(xsI t4.2 t5 a1 a2).bind fun t6 =>
(xgP t6 a0 12 34).bind fun t7 =>
(xsI t6 t7 a1 a3).bind fun t8 =>
F_X12_numbers_64 a0 a1 a3 (0 : Int32) t8)))
set_option maxRecDepth 100000 in
set_option maxHeartbeats 4000000 in
theorem F_X12_numbers_89_ok (X : xX p s m args c cX12_numbers 5 RX12 κ) (hr : meth.sig.returnType = (some .int)) (hlk : meth.locks = false) {ro : Int32} {mo : xM} (M : xM) (x : Int32 × xM) (h : F_X12_numbers_89 M = some x) (hK : (fun o => o = (ro, mo)) x) (H : Heap) (locs : List Loc) (ls : Array Slot) (O : xO κ s M H locs) (hl : lv_has ls 5 []) : W p l e (xRm 3 0 0) s m args below meth c H locs 0 0 (xQf below args s 0 0 κ (some (.int ro)) mo) (F0 m 89 ls []) := by
  unfold F_X12_numbers_89 at h
  have hx := X.1
  have hb := X.2.1
  refine lv_iconst (v := (0 : Int32)) hx hb dX12_numbers_89 (by decide) ?_
  rw [← Option.some.inj h] at hK
  have hK : ((0 : Int32), M) = (ro, mo) := hK
  obtain ⟨hK1, hK2⟩ := Prod.mk.inj hK
  rw [hK2] at O
  refine xr_top (w := .int ro) (by rw [hK1]) ?_
  exact xr_iret X hr hlk O dX12_numbers_90
set_option maxRecDepth 100000 in
set_option maxHeartbeats 4000000 in
theorem F_X12_numbers_64_bok (X : xX p s m args c cX12_numbers 5 RX12 κ) (hr : meth.sig.returnType = (some .int)) (hlk : meth.locks = false) {ro : Int32} {mo : xM} (v0 : Nat) (v1 : Int32) (v3 : Int32) (v4 : Int32) {W64 : Int32 × xM → Prop} (hW64 : ∀ (v4 : Int32) (M : xM), W64 (v4, M) → ∀ (H : Heap) (locs : List Loc) (ls : Array Slot), xO κ s M H locs → lv_has ls 5 [(0, .ref (κ.1 + v0)), (1, .int v1), (3, .int v3), (4, .int v4)] → W p l e (xRm 3 0 0) s m args below meth c H locs 0 0 (xQf below args s 0 0 κ (some (.int ro)) mo) (F0 m 64 ls [])) (M : xM) (x : (Int32 × xM) ⊕ (Int32 × xM)) (h : F_X12_numbers_64b v0 v1 v3 (v4, M) = some x) (hK : (xKl W64 (fun o => o = (ro, mo))) x) (H : Heap) (locs : List Loc) (ls : Array Slot) (O : xO κ s M H locs) (hl : lv_has ls 5 [(0, .ref (κ.1 + v0)), (1, .int v1), (3, .int v3), (4, .int v4)]) : W p l e (xRm 3 0 0) s m args below meth c H locs 0 0 (xQf below args s 0 0 κ (some (.int ro)) mo) (F0 m 64 ls []) := by
  unfold F_X12_numbers_64b at h
  dsimp only at h
  have hx := X.1
  have hb := X.2.1
  refine lv_iload hx hb dX12_numbers_64 (lv_at hl 3 rfl) ?_
  refine lv_iload_n hx hb dX12_numbers_66 rfl (lv_at hl 2 rfl) ?_
  refine lv_icmp_ge (tgt := 89) hx hb dX12_numbers_67 (by decide) (fun hc67 => ?_) (fun hc67 => ?_)
  · rw [if_pos hc67] at h
    obtain ⟨_, hw0, ew0⟩ := Option.map_eq_some_iff.mp h
    rw [← ew0] at hK
    have h := hw0
    exact F_X12_numbers_89_ok X hr hlk  M _ h hK H locs ls O (lv_sub hl [] rfl)
  rw [if_neg hc67] at h
  refine lv_aload_n hx hb dX12_numbers_70 rfl (lv_at hl 0 rfl) ?_
  obtain ⟨t9, ht9, h⟩ := Option.bind_eq_some_iff.mp h
  refine xr_getP X O ht9 fl_X12_76 dX12_numbers_71 ?_
  refine lv_bipush (v := (40 : Int32)) hx hb dX12_numbers_74 (by decide) ?_
  refine lv_iload_n hx hb dX12_numbers_76 rfl (lv_at hl 1 rfl) ?_
  refine lv_imul hx hb dX12_numbers_77 ?_
  refine lv_iload hx hb dX12_numbers_78 (lv_at hl 3 rfl) ?_
  refine lv_iadd hx hb dX12_numbers_80 ?_
  refine lv_lconst (v := (0 : Int64)) hx hb dX12_numbers_81 (by decide) ?_
  obtain ⟨t10, ht10, h⟩ := Option.bind_eq_some_iff.mp h
  refine xr_stJ X O ht10 dX12_numbers_82 (fun H locs O => ?_)
  refine lv_iinc (v := (v4 + 1)) (lv' := [(4, .int (v4 + 1)), (0, .ref (κ.1 + v0)), (1, .int v1), (3, .int v3)]) hx hb dX12_numbers_83 hl (k := 3) rfl rfl (by decide) rfl (fun ls hl => ?_)
  refine lv_goto (tgt := 64) hx hb dX12_numbers_86 (by decide) ?_
  rw [← Option.some.inj h] at hK
  exact hW64 (v4 + 1) t10 hK H locs ls O (lv_sub hl [1, 2, 3, 0] rfl)
set_option maxRecDepth 100000 in
set_option maxHeartbeats 4000000 in
theorem F_X12_numbers_64_ok (X : xX p s m args c cX12_numbers 5 RX12 κ) (hr : meth.sig.returnType = (some .int)) (hlk : meth.locks = false) {ro : Int32} {mo : xM} (v0 : Nat) (v1 : Int32) (v3 : Int32) (v4 : Int32) (M : xM) (x : Int32 × xM) (h : F_X12_numbers_64 v0 v1 v3 v4 M = some x) (hK : (fun o => o = (ro, mo)) x) (H : Heap) (locs : List Loc) (ls : Array Slot) (O : xO κ s M H locs) (hl : lv_has ls 5 [(0, .ref (κ.1 + v0)), (1, .int v1), (3, .int v3), (4, .int v4)]) : W p l e (xRm 3 0 0) s m args below meth c H locs 0 0 (xQf below args s 0 0 κ (some (.int ro)) mo) (F0 m 64 ls []) := by
  refine xit_K (Wh := fun x => ∀ (H : Heap) (locs : List Loc) (ls : Array Slot), xO κ s x.2 H locs → lv_has ls 5 [(0, .ref (κ.1 + v0)), (1, .int v1), (3, .int v3), (4, .int x.1)] → W p l e (xRm 3 0 0) s m args below meth c H locs 0 0 (xQf below args s 0 0 κ (some (.int ro)) mo) (F0 m 64 ls [])) (Kp := (fun o => o = (ro, mo))) ?_ xFU (v4, M) x h hK H locs ls O hl
  intro y x h hK H locs ls O hl
  exact F_X12_numbers_64_bok X hr hlk v0 v1 v3 y.1 (fun _ _ hw => hw) y.2 x h hK H locs ls O hl
set_option maxRecDepth 100000 in
set_option maxHeartbeats 4000000 in
theorem T_X12_numbers (l : Launch) (κ : xQ) (a0 : Nat) (a1 : Int32) (a2 : Int32) (a3 : Int32) (M : xM) (ro : Int32) (mo : xM) (h : F_X12_numbers a0 a1 a2 a3 M = some (ro, mo)) : xC l yX12_numbers cX12_numbers 5 (some .int) 3 0 0 κ [.ref (κ.1 + a0), .int a1, .int a2, .int a3] M (some (.int ro)) mo := by
  refine xC_of rfl (Nat.le_of_ble_eq_true rfl) fun p e s m args below meth c X hr hlk hnm H locs ls O hl => ?_
  have X : xX p s m args c cX12_numbers 5 RX12 κ := X
  have hl : lv_has ls 5 [(0, .ref (κ.1 + a0)), (1, .int a1), (2, .int a2), (3, .int a3)] := hl
  have hx := X.1
  have hb := X.2.1
  obtain ⟨x, hx0⟩ : ∃ x, (ro, mo) = x := ⟨_, rfl⟩
  rw [hx0] at h
  have hK : x = (ro, mo) := hx0.symm
  unfold F_X12_numbers at h
  refine lv_aload_n hx hb dX12_numbers_0 rfl (lv_at hl 0 rfl) ?_
  refine lv_iconst (v := (0 : Int32)) hx hb dX12_numbers_1 (by decide) ?_
  obtain ⟨t1, ht1, h⟩ := Option.bind_eq_some_iff.mp h
  refine xr_putI X O ht1 fl_X12_1 dX12_numbers_2 (fun H locs O => ?_)
  refine lv_iload_n hx hb dX12_numbers_5 rfl (lv_at hl 1 rfl) ?_
  refine lv_i2l (v := a1.toInt64) hx hb dX12_numbers_6 rfl ?_
  refine lv_lconst (v := (0 : Int64)) hx hb dX12_numbers_7 (by decide) ?_
  refine lv_ldc2 (v := (3 : Int64)) hx hb X.2.2.2.1 (X.2.2.2.2.1 _ ct_X12_348) dX12_numbers_8 ?_
  obtain ⟨t2, ht2, h⟩ := Option.bind_eq_some_iff.mp h
  refine xr_callS (rest := []) X O (T_X12_within l κ a1.toInt64 (0 : Int64) (3 : Int64) t1 _ _ ht2) lk_X12_145 (Nat.le_of_ble_eq_true rfl) rfl hl.1 rfl (Nat.le_of_ble_eq_true rfl) dX12_numbers_11 ⟨Nat.le_of_ble_eq_true rfl, Nat.le_of_ble_eq_true rfl⟩ (fun H locs O => ?_)
  refine W.eq (g2 := F0 m 14 ls [.int t2.1]) rfl ?_
  refine lv_if_eq (tgt := 29) hx hb dX12_numbers_14 (by decide) (fun hc14 => ?_) (fun hc14 => ?_)
  · rw [if_pos hc14] at h
    refine lv_bipush (v := (-2 : Int32)) hx hb dX12_numbers_29 (by decide) ?_
    rw [← Option.some.inj h] at hK
    have hK : ((-2 : Int32), t2.2) = (ro, mo) := hK
    obtain ⟨hK1, hK2⟩ := Prod.mk.inj hK
    rw [hK2] at O
    refine xr_top (w := .int ro) (by rw [hK1]) ?_
    exact xr_iret X hr hlk O dX12_numbers_31
  rw [if_neg hc14] at h
  refine lv_iload_n hx hb dX12_numbers_17 rfl (lv_at hl 2 rfl) ?_
  refine lv_i2l (v := a2.toInt64) hx hb dX12_numbers_18 rfl ?_
  refine lv_lconst (v := (0 : Int64)) hx hb dX12_numbers_19 (by decide) ?_
  refine lv_ldc2 (v := (3 : Int64)) hx hb X.2.2.2.1 (X.2.2.2.2.1 _ ct_X12_348) dX12_numbers_20 ?_
  obtain ⟨t3, ht3, h⟩ := Option.bind_eq_some_iff.mp h
  refine xr_callS (rest := []) X O (T_X12_within l κ a2.toInt64 (0 : Int64) (3 : Int64) t2.2 _ _ ht3) lk_X12_145 (Nat.le_of_ble_eq_true rfl) rfl hl.1 rfl (Nat.le_of_ble_eq_true rfl) dX12_numbers_23 ⟨Nat.le_of_ble_eq_true rfl, Nat.le_of_ble_eq_true rfl⟩ (fun H locs O => ?_)
  refine W.eq (g2 := F0 m 26 ls [.int t3.1]) rfl ?_
  refine lv_if_ne (tgt := 32) hx hb dX12_numbers_26 (by decide) (fun hc26 => ?_) (fun hc26 => ?_)
  · rw [if_neg hc26] at h
    refine lv_iload_n hx hb dX12_numbers_32 rfl (lv_at hl 3 rfl) ?_
    refine lv_i2l (v := a3.toInt64) hx hb dX12_numbers_33 rfl ?_
    refine lv_lconst (v := (0 : Int64)) hx hb dX12_numbers_34 (by decide) ?_
    refine lv_ldc2 (v := (40 : Int64)) hx hb X.2.2.2.1 (X.2.2.2.2.1 _ ct_X12_369) dX12_numbers_35 ?_
    obtain ⟨t4, ht4, h⟩ := Option.bind_eq_some_iff.mp h
    refine xr_callS (rest := []) X O (T_X12_within l κ a3.toInt64 (0 : Int64) (40 : Int64) t3.2 _ _ ht4) lk_X12_145 (Nat.le_of_ble_eq_true rfl) rfl hl.1 rfl (Nat.le_of_ble_eq_true rfl) dX12_numbers_38 ⟨Nat.le_of_ble_eq_true rfl, Nat.le_of_ble_eq_true rfl⟩ (fun H locs O => ?_)
    refine W.eq (g2 := F0 m 41 ls [.int t4.1]) rfl ?_
    refine lv_if_ne (tgt := 47) hx hb dX12_numbers_41 (by decide) (fun hc41 => ?_) (fun hc41 => ?_)
    · rw [if_neg hc41] at h
      refine lv_aload_n hx hb dX12_numbers_47 rfl (lv_at hl 0 rfl) ?_
      obtain ⟨t5, ht5, h⟩ := Option.bind_eq_some_iff.mp h
      refine xr_getP X O ht5 fl_X12_70 dX12_numbers_48 ?_
      refine lv_iload_n hx hb dX12_numbers_51 rfl (lv_at hl 1 rfl) ?_
      refine lv_iload_n hx hb dX12_numbers_52 rfl (lv_at hl 2 rfl) ?_
      obtain ⟨t6, ht6, h⟩ := Option.bind_eq_some_iff.mp h
      refine xr_stI X O ht6 dX12_numbers_53 (fun H locs O => ?_)
      refine lv_aload_n hx hb dX12_numbers_54 rfl (lv_at hl 0 rfl) ?_
      obtain ⟨t7, ht7, h⟩ := Option.bind_eq_some_iff.mp h
      refine xr_getP X O ht7 fl_X12_73 dX12_numbers_55 ?_
      refine lv_iload_n hx hb dX12_numbers_58 rfl (lv_at hl 1 rfl) ?_
      refine lv_iload_n hx hb dX12_numbers_59 rfl (lv_at hl 3 rfl) ?_
      obtain ⟨t8, ht8, h⟩ := Option.bind_eq_some_iff.mp h
      refine xr_stI X O ht8 dX12_numbers_60 (fun H locs O => ?_)
      refine lv_iconst (v := (0 : Int32)) hx hb dX12_numbers_61 (by decide) ?_
      refine lv_istore (lv' := [(4, .int (0 : Int32)), (0, .ref (κ.1 + a0)), (1, .int a1), (2, .int a2), (3, .int a3)]) hx hb dX12_numbers_62 hl (by decide) rfl (fun ls hl => ?_)
      exact F_X12_numbers_64_ok X hr hlk a0 a1 a3 (0 : Int32) t8 _ h hK H locs ls O (lv_sub hl [1, 2, 4, 0] rfl)
    rw [if_pos hc41] at h
    refine lv_bipush (v := (-3 : Int32)) hx hb dX12_numbers_44 (by decide) ?_
    rw [← Option.some.inj h] at hK
    have hK : ((-3 : Int32), t4.2) = (ro, mo) := hK
    obtain ⟨hK1, hK2⟩ := Prod.mk.inj hK
    rw [hK2] at O
    refine xr_top (w := .int ro) (by rw [hK1]) ?_
    exact xr_iret X hr hlk O dX12_numbers_46
  rw [if_pos hc26] at h
  refine lv_bipush (v := (-2 : Int32)) hx hb dX12_numbers_29 (by decide) ?_
  rw [← Option.some.inj h] at hK
  have hK : ((-2 : Int32), t3.2) = (ro, mo) := hK
  obtain ⟨hK1, hK2⟩ := Prod.mk.inj hK
  rw [hK2] at O
  refine xr_top (w := .int ro) (by rw [hK1]) ?_
  exact xr_iret X hr hlk O dX12_numbers_31
def F_X12_write (a0 : Nat) (a1 : Int32) (a2 : Int32) (a3 : Int64) (M : xM) : Option (Int64 × xM) :=
(xpI M a0 12 0 (0 : Int32)).bind fun t1 =>
(xck t1 a0 12).bind fun _ =>
(F_X12_noTray a0 a1 t1).bind fun t3 =>
if t3.1 = 0 then (
(xgP t3.2 a0 12 34).bind fun t4 =>
(xaI t3.2 20 t4 a1).bind fun t5 =>
(F_X12_within a2.toInt64 (0 : Int64) (t5 - (1 : Int32)).toInt64 t3.2).bind fun t6 =>
if t6.1 = 0 then (
some ((-7 : Int64), t6.2))
else (
(xgP t6.2 a0 12 35).bind fun t7 =>
(xgP t6.2 a0 12 33).bind fun t8 =>
(xaI t6.2 20 t8 a1).bind fun t9 =>
(F_X12_cut a3 t9 t6.2).bind fun t10 =>
(xsJ t10.2 t7 (((40 : Int32) * a1) + a2) t10.1).bind fun t11 =>
(xgP t11 a0 12 35).bind fun t12 =>
(xaJ t11 t12 (((40 : Int32) * a1) + a2)).bind fun t13 =>
some (t13, t11)))
else (
some (t3.1.toInt64, t3.2))
set_option maxRecDepth 100000 in
set_option maxHeartbeats 4000000 in
theorem T_X12_write (l : Launch) (κ : xQ) (a0 : Nat) (a1 : Int32) (a2 : Int32) (a3 : Int64) (M : xM) (ro : Int64) (mo : xM) (h : F_X12_write a0 a1 a2 a3 M = some (ro, mo)) : xC l yX12_write cX12_write 6 (some .long) 4 0 0 κ [.ref (κ.1 + a0), .int a1, .int a2, .long a3] M (some (.long ro)) mo := by
  refine xC_of rfl (Nat.le_of_ble_eq_true rfl) fun p e s m args below meth c X hr hlk hnm H locs ls O hl => ?_
  have X : xX p s m args c cX12_write 6 RX12 κ := X
  have hl : lv_has ls 6 [(0, .ref (κ.1 + a0)), (1, .int a1), (2, .int a2), (3, .long a3)] := hl
  have hx := X.1
  have hb := X.2.1
  obtain ⟨x, hx0⟩ : ∃ x, (ro, mo) = x := ⟨_, rfl⟩
  rw [hx0] at h
  have hK : x = (ro, mo) := hx0.symm
  unfold F_X12_write at h
  refine lv_aload_n hx hb dX12_write_0 rfl (lv_at hl 0 rfl) ?_
  refine lv_iconst (v := (0 : Int32)) hx hb dX12_write_1 (by decide) ?_
  obtain ⟨t1, ht1, h⟩ := Option.bind_eq_some_iff.mp h
  refine xr_putI X O ht1 fl_X12_1 dX12_write_2 (fun H locs O => ?_)
  refine lv_aload_n hx hb dX12_write_5 rfl (lv_at hl 0 rfl) ?_
  refine lv_iload_n hx hb dX12_write_6 rfl (lv_at hl 1 rfl) ?_
  obtain ⟨_, hut2, h⟩ := Option.bind_eq_some_iff.mp h
  obtain ⟨t3, ht3, h⟩ := Option.bind_eq_some_iff.mp h
  refine xr_callV (rest := []) X O (T_X12_noTray l κ a0 a1 t1 _ _ ht3) lk_X12_350 hut2 (Nat.le_of_ble_eq_true rfl) rfl hl.1 rfl (Nat.le_of_ble_eq_true rfl) dX12_write_7 ⟨Nat.le_of_ble_eq_true rfl, Nat.le_of_ble_eq_true rfl⟩ (fun H locs O => ?_)
  refine W.eq (g2 := F0 m 10 ls [.int t3.1]) rfl ?_
  refine lv_istore (lv' := [(5, .int t3.1), (0, .ref (κ.1 + a0)), (1, .int a1), (2, .int a2), (3, .long a3)]) hx hb dX12_write_10 hl (by decide) rfl (fun ls hl => ?_)
  refine lv_iload hx hb dX12_write_12 (lv_at hl 0 rfl) ?_
  refine lv_if_eq (tgt := 21) hx hb dX12_write_14 (by decide) (fun hc14 => ?_) (fun hc14 => ?_)
  · rw [if_pos hc14] at h
    refine lv_iload_n hx hb dX12_write_21 rfl (lv_at hl 3 rfl) ?_
    refine lv_i2l (v := a2.toInt64) hx hb dX12_write_22 rfl ?_
    refine lv_lconst (v := (0 : Int64)) hx hb dX12_write_23 (by decide) ?_
    refine lv_aload_n hx hb dX12_write_24 rfl (lv_at hl 1 rfl) ?_
    obtain ⟨t4, ht4, h⟩ := Option.bind_eq_some_iff.mp h
    refine xr_getP X O ht4 fl_X12_73 dX12_write_25 ?_
    refine lv_iload_n hx hb dX12_write_28 rfl (lv_at hl 2 rfl) ?_
    obtain ⟨t5, ht5, h⟩ := Option.bind_eq_some_iff.mp h
    refine xr_aldI X O ht5 dX12_write_29 ?_
    refine lv_iconst (v := (1 : Int32)) hx hb dX12_write_30 (by decide) ?_
    refine lv_isub hx hb dX12_write_31 ?_
    refine lv_i2l (v := (t5 - (1 : Int32)).toInt64) hx hb dX12_write_32 rfl ?_
    obtain ⟨t6, ht6, h⟩ := Option.bind_eq_some_iff.mp h
    refine xr_callS (rest := []) X O (T_X12_within l κ a2.toInt64 (0 : Int64) (t5 - (1 : Int32)).toInt64 t3.2 _ _ ht6) lk_X12_145 (Nat.le_of_ble_eq_true rfl) rfl hl.1 rfl (Nat.le_of_ble_eq_true rfl) dX12_write_33 ⟨Nat.le_of_ble_eq_true rfl, Nat.le_of_ble_eq_true rfl⟩ (fun H locs O => ?_)
    refine W.eq (g2 := F0 m 36 ls [.int t6.1]) rfl ?_
    refine lv_if_ne (tgt := 43) hx hb dX12_write_36 (by decide) (fun hc36 => ?_) (fun hc36 => ?_)
    · rw [if_neg hc36] at h
      refine lv_aload_n hx hb dX12_write_43 rfl (lv_at hl 1 rfl) ?_
      obtain ⟨t7, ht7, h⟩ := Option.bind_eq_some_iff.mp h
      refine xr_getP X O ht7 fl_X12_76 dX12_write_44 ?_
      refine lv_bipush (v := (40 : Int32)) hx hb dX12_write_47 (by decide) ?_
      refine lv_iload_n hx hb dX12_write_49 rfl (lv_at hl 2 rfl) ?_
      refine lv_imul hx hb dX12_write_50 ?_
      refine lv_iload_n hx hb dX12_write_51 rfl (lv_at hl 3 rfl) ?_
      refine lv_iadd hx hb dX12_write_52 ?_
      refine lv_lload_n hx hb dX12_write_53 rfl (lv_at hl 4 rfl) ?_
      refine lv_aload_n hx hb dX12_write_54 rfl (lv_at hl 1 rfl) ?_
      obtain ⟨t8, ht8, h⟩ := Option.bind_eq_some_iff.mp h
      refine xr_getP X O ht8 fl_X12_70 dX12_write_55 ?_
      refine lv_iload_n hx hb dX12_write_58 rfl (lv_at hl 2 rfl) ?_
      obtain ⟨t9, ht9, h⟩ := Option.bind_eq_some_iff.mp h
      refine xr_aldI X O ht9 dX12_write_59 ?_
      obtain ⟨t10, ht10, h⟩ := Option.bind_eq_some_iff.mp h
      refine xr_callS (rest := [.int (((40 : Int32) * a1) + a2), .ref (κ.1 + t7)]) X O (T_X12_cut l κ a3 t9 t6.2 _ _ ht10) lk_X12_474 (Nat.le_of_ble_eq_true rfl) rfl hl.1 rfl (Nat.le_of_ble_eq_true rfl) dX12_write_60 ⟨Nat.le_of_ble_eq_true rfl, Nat.le_of_ble_eq_true rfl⟩ (fun H locs O => ?_)
      refine W.eq (g2 := F0 m 63 ls [.long t10.1, .int (((40 : Int32) * a1) + a2), .ref (κ.1 + t7)]) rfl ?_
      obtain ⟨t11, ht11, h⟩ := Option.bind_eq_some_iff.mp h
      refine xr_stJ X O ht11 dX12_write_63 (fun H locs O => ?_)
      refine lv_aload_n hx hb dX12_write_64 rfl (lv_at hl 1 rfl) ?_
      obtain ⟨t12, ht12, h⟩ := Option.bind_eq_some_iff.mp h
      refine xr_getP X O ht12 fl_X12_76 dX12_write_65 ?_
      refine lv_bipush (v := (40 : Int32)) hx hb dX12_write_68 (by decide) ?_
      refine lv_iload_n hx hb dX12_write_70 rfl (lv_at hl 2 rfl) ?_
      refine lv_imul hx hb dX12_write_71 ?_
      refine lv_iload_n hx hb dX12_write_72 rfl (lv_at hl 3 rfl) ?_
      refine lv_iadd hx hb dX12_write_73 ?_
      obtain ⟨t13, ht13, h⟩ := Option.bind_eq_some_iff.mp h
      refine xr_aldJ X O ht13 dX12_write_74 ?_
      rw [← Option.some.inj h] at hK
      have hK : (t13, t11) = (ro, mo) := hK
      obtain ⟨hK1, hK2⟩ := Prod.mk.inj hK
      rw [hK2] at O
      refine xr_top (w := .long ro) (by rw [hK1]) ?_
      exact xr_lret X hr hlk O dX12_write_75
    rw [if_pos hc36] at h
    refine lv_ldc2 (v := (-7 : Int64)) hx hb X.2.2.2.1 (X.2.2.2.2.1 _ ct_X12_472) dX12_write_39 ?_
    rw [← Option.some.inj h] at hK
    have hK : ((-7 : Int64), t6.2) = (ro, mo) := hK
    obtain ⟨hK1, hK2⟩ := Prod.mk.inj hK
    rw [hK2] at O
    refine xr_top (w := .long ro) (by rw [hK1]) ?_
    exact xr_lret X hr hlk O dX12_write_42
  rw [if_neg hc14] at h
  refine lv_iload hx hb dX12_write_17 (lv_at hl 0 rfl) ?_
  refine lv_i2l (v := t3.1.toInt64) hx hb dX12_write_19 rfl ?_
  rw [← Option.some.inj h] at hK
  have hK : (t3.1.toInt64, t3.2) = (ro, mo) := hK
  obtain ⟨hK1, hK2⟩ := Prod.mk.inj hK
  rw [hK2] at O
  refine xr_top (w := .long ro) (by rw [hK1]) ?_
  exact xr_lret X hr hlk O dX12_write_20
def F_X12_lists_90 (v3 : Int32) (M : xM) : Option (Int32 × xM) :=
some (v3, M)
def F_X12_lists_55b (v0 : Nat) (v1 : Int32) (v3 : Int32) : (Int32 × xM) → Option ((Int32 × xM) ⊕ (Int32 × xM)) := fun ⟨v4, M⟩ =>
if v3 ≤ v4 then (
(F_X12_lists_90 v3 M).map Sum.inr)
else (
(xgP M v0 12 35).bind fun t14 =>
(xgP M v0 12 1).bind fun t15 =>
(xaI M 20 t15 ((67 : Int32) + v4)).bind fun t16 =>
(xsJ M t14 (((40 : Int32) * v1) + v4) t16.toInt64).bind fun t17 =>
some (.inl ((v4 + 1), t17)))
def F_X12_lists_55 (v0 : Nat) (v1 : Int32) (v3 : Int32) (v4 : Int32) (M : xM) : Option (Int32 × xM) := xit (F_X12_lists_55b v0 v1 v3) xFU (v4, M)
def F_X12_lists_51 (v0 : Nat) (v1 : Int32) (s0 : Int32) (M : xM) : Option (Int32 × xM) :=
F_X12_lists_55 v0 v1 s0 (0 : Int32) M
def F_X12_lists (a0 : Nat) (a1 : Int32) (M : xM) : Option (Int32 × xM) :=
(xpI M a0 12 0 (0 : Int32)).bind fun t1 =>
(xck t1 a0 12).bind fun _ =>
(F_X12_noTray a0 a1 t1).bind fun t3 =>
if t3.1 = 0 then (
(xgP t3.2 a0 12 1).bind fun t4 =>
(xck t3.2 a0 12).bind fun _ =>
(F_X12_cellsOf a0 t4 t3.2).bind fun t6 =>
(xgP t6.2 a0 12 34).bind fun t7 =>
(xaI t6.2 20 t7 a1).bind fun t8 =>
if t8 ≤ t6.1 then (
(xgP t6.2 a0 12 34).bind fun t9 =>
(xaI t6.2 20 t9 a1).bind fun t10 =>
F_X12_lists_51 a0 a1 t10 t6.2)
else (
(xgP t6.2 a0 12 1).bind fun t11 =>
(xck t6.2 a0 12).bind fun _ =>
(F_X12_cellsOf a0 t11 t6.2).bind fun t13 =>
F_X12_lists_51 a0 a1 t13.1 t13.2))
else (
some (t3.1, t3.2))
set_option maxRecDepth 100000 in
set_option maxHeartbeats 4000000 in
theorem F_X12_lists_90_ok (X : xX p s m args c cX12_lists 5 RX12 κ) (hr : meth.sig.returnType = (some .int)) (hlk : meth.locks = false) {ro : Int32} {mo : xM} (v3 : Int32) (M : xM) (x : Int32 × xM) (h : F_X12_lists_90 v3 M = some x) (hK : (fun o => o = (ro, mo)) x) (H : Heap) (locs : List Loc) (ls : Array Slot) (O : xO κ s M H locs) (hl : lv_has ls 5 [(3, .int v3)]) : W p l e (xRm 4 0 0) s m args below meth c H locs 0 0 (xQf below args s 0 0 κ (some (.int ro)) mo) (F0 m 90 ls []) := by
  unfold F_X12_lists_90 at h
  have hx := X.1
  have hb := X.2.1
  refine lv_iload_n hx hb dX12_lists_90 rfl (lv_at hl 0 rfl) ?_
  rw [← Option.some.inj h] at hK
  have hK : (v3, M) = (ro, mo) := hK
  obtain ⟨hK1, hK2⟩ := Prod.mk.inj hK
  rw [hK2] at O
  refine xr_top (w := .int ro) (by rw [hK1]) ?_
  exact xr_iret X hr hlk O dX12_lists_91
set_option maxRecDepth 100000 in
set_option maxHeartbeats 4000000 in
theorem F_X12_lists_55_bok (X : xX p s m args c cX12_lists 5 RX12 κ) (hr : meth.sig.returnType = (some .int)) (hlk : meth.locks = false) {ro : Int32} {mo : xM} (v0 : Nat) (v1 : Int32) (v3 : Int32) (v4 : Int32) {W55 : Int32 × xM → Prop} (hW55 : ∀ (v4 : Int32) (M : xM), W55 (v4, M) → ∀ (H : Heap) (locs : List Loc) (ls : Array Slot), xO κ s M H locs → lv_has ls 5 [(0, .ref (κ.1 + v0)), (1, .int v1), (3, .int v3), (4, .int v4)] → W p l e (xRm 4 0 0) s m args below meth c H locs 0 0 (xQf below args s 0 0 κ (some (.int ro)) mo) (F0 m 55 ls [])) (M : xM) (x : (Int32 × xM) ⊕ (Int32 × xM)) (h : F_X12_lists_55b v0 v1 v3 (v4, M) = some x) (hK : (xKl W55 (fun o => o = (ro, mo))) x) (H : Heap) (locs : List Loc) (ls : Array Slot) (O : xO κ s M H locs) (hl : lv_has ls 5 [(0, .ref (κ.1 + v0)), (1, .int v1), (3, .int v3), (4, .int v4)]) : W p l e (xRm 4 0 0) s m args below meth c H locs 0 0 (xQf below args s 0 0 κ (some (.int ro)) mo) (F0 m 55 ls []) := by
  unfold F_X12_lists_55b at h
  dsimp only at h
  have hx := X.1
  have hb := X.2.1
  refine lv_iload hx hb dX12_lists_55 (lv_at hl 3 rfl) ?_
  refine lv_iload_n hx hb dX12_lists_57 rfl (lv_at hl 2 rfl) ?_
  refine lv_icmp_ge (tgt := 90) hx hb dX12_lists_58 (by decide) (fun hc58 => ?_) (fun hc58 => ?_)
  · rw [if_pos hc58] at h
    obtain ⟨_, hw0, ew0⟩ := Option.map_eq_some_iff.mp h
    rw [← ew0] at hK
    have h := hw0
    exact F_X12_lists_90_ok X hr hlk v3 M _ h hK H locs ls O (lv_sub hl [2] rfl)
  rw [if_neg hc58] at h
  refine lv_aload_n hx hb dX12_lists_61 rfl (lv_at hl 0 rfl) ?_
  obtain ⟨t14, ht14, h⟩ := Option.bind_eq_some_iff.mp h
  refine xr_getP X O ht14 fl_X12_76 dX12_lists_62 ?_
  refine lv_bipush (v := (40 : Int32)) hx hb dX12_lists_65 (by decide) ?_
  refine lv_iload_n hx hb dX12_lists_67 rfl (lv_at hl 1 rfl) ?_
  refine lv_imul hx hb dX12_lists_68 ?_
  refine lv_iload hx hb dX12_lists_69 (lv_at hl 3 rfl) ?_
  refine lv_iadd hx hb dX12_lists_71 ?_
  refine lv_aload_n hx hb dX12_lists_72 rfl (lv_at hl 0 rfl) ?_
  obtain ⟨t15, ht15, h⟩ := Option.bind_eq_some_iff.mp h
  refine xr_getP X O ht15 fl_X12_13 dX12_lists_73 ?_
  refine lv_bipush (v := (67 : Int32)) hx hb dX12_lists_76 (by decide) ?_
  refine lv_iload hx hb dX12_lists_78 (lv_at hl 3 rfl) ?_
  refine lv_iadd hx hb dX12_lists_80 ?_
  obtain ⟨t16, ht16, h⟩ := Option.bind_eq_some_iff.mp h
  refine xr_aldI X O ht16 dX12_lists_81 ?_
  refine lv_i2l (v := t16.toInt64) hx hb dX12_lists_82 rfl ?_
  obtain ⟨t17, ht17, h⟩ := Option.bind_eq_some_iff.mp h
  refine xr_stJ X O ht17 dX12_lists_83 (fun H locs O => ?_)
  refine lv_iinc (v := (v4 + 1)) (lv' := [(4, .int (v4 + 1)), (0, .ref (κ.1 + v0)), (1, .int v1), (3, .int v3)]) hx hb dX12_lists_84 hl (k := 3) rfl rfl (by decide) rfl (fun ls hl => ?_)
  refine lv_goto (tgt := 55) hx hb dX12_lists_87 (by decide) ?_
  rw [← Option.some.inj h] at hK
  exact hW55 (v4 + 1) t17 hK H locs ls O (lv_sub hl [1, 2, 3, 0] rfl)
set_option maxRecDepth 100000 in
set_option maxHeartbeats 4000000 in
theorem F_X12_lists_55_ok (X : xX p s m args c cX12_lists 5 RX12 κ) (hr : meth.sig.returnType = (some .int)) (hlk : meth.locks = false) {ro : Int32} {mo : xM} (v0 : Nat) (v1 : Int32) (v3 : Int32) (v4 : Int32) (M : xM) (x : Int32 × xM) (h : F_X12_lists_55 v0 v1 v3 v4 M = some x) (hK : (fun o => o = (ro, mo)) x) (H : Heap) (locs : List Loc) (ls : Array Slot) (O : xO κ s M H locs) (hl : lv_has ls 5 [(0, .ref (κ.1 + v0)), (1, .int v1), (3, .int v3), (4, .int v4)]) : W p l e (xRm 4 0 0) s m args below meth c H locs 0 0 (xQf below args s 0 0 κ (some (.int ro)) mo) (F0 m 55 ls []) := by
  refine xit_K (Wh := fun x => ∀ (H : Heap) (locs : List Loc) (ls : Array Slot), xO κ s x.2 H locs → lv_has ls 5 [(0, .ref (κ.1 + v0)), (1, .int v1), (3, .int v3), (4, .int x.1)] → W p l e (xRm 4 0 0) s m args below meth c H locs 0 0 (xQf below args s 0 0 κ (some (.int ro)) mo) (F0 m 55 ls [])) (Kp := (fun o => o = (ro, mo))) ?_ xFU (v4, M) x h hK H locs ls O hl
  intro y x h hK H locs ls O hl
  exact F_X12_lists_55_bok X hr hlk v0 v1 v3 y.1 (fun _ _ hw => hw) y.2 x h hK H locs ls O hl
set_option maxRecDepth 100000 in
set_option maxHeartbeats 4000000 in
theorem F_X12_lists_51_ok (X : xX p s m args c cX12_lists 5 RX12 κ) (hr : meth.sig.returnType = (some .int)) (hlk : meth.locks = false) {ro : Int32} {mo : xM} (v0 : Nat) (v1 : Int32) (s0 : Int32) (M : xM) (x : Int32 × xM) (h : F_X12_lists_51 v0 v1 s0 M = some x) (hK : (fun o => o = (ro, mo)) x) (H : Heap) (locs : List Loc) (ls : Array Slot) (O : xO κ s M H locs) (hl : lv_has ls 5 [(0, .ref (κ.1 + v0)), (1, .int v1)]) : W p l e (xRm 4 0 0) s m args below meth c H locs 0 0 (xQf below args s 0 0 κ (some (.int ro)) mo) (F0 m 51 ls [.int s0]) := by
  unfold F_X12_lists_51 at h
  have hx := X.1
  have hb := X.2.1
  refine lv_istore_n (lv' := [(3, .int s0), (0, .ref (κ.1 + v0)), (1, .int v1)]) hx hb dX12_lists_51 rfl hl (by decide) rfl (fun ls hl => ?_)
  refine lv_iconst (v := (0 : Int32)) hx hb dX12_lists_52 (by decide) ?_
  refine lv_istore (lv' := [(4, .int (0 : Int32)), (3, .int s0), (0, .ref (κ.1 + v0)), (1, .int v1)]) hx hb dX12_lists_53 hl (by decide) rfl (fun ls hl => ?_)
  exact F_X12_lists_55_ok X hr hlk v0 v1 s0 (0 : Int32) M _ h hK H locs ls O (lv_sub hl [2, 3, 1, 0] rfl)
set_option maxRecDepth 100000 in
set_option maxHeartbeats 4000000 in
theorem T_X12_lists (l : Launch) (κ : xQ) (a0 : Nat) (a1 : Int32) (M : xM) (ro : Int32) (mo : xM) (h : F_X12_lists a0 a1 M = some (ro, mo)) : xC l yX12_lists cX12_lists 5 (some .int) 4 0 0 κ [.ref (κ.1 + a0), .int a1] M (some (.int ro)) mo := by
  refine xC_of rfl (Nat.le_of_ble_eq_true rfl) fun p e s m args below meth c X hr hlk hnm H locs ls O hl => ?_
  have X : xX p s m args c cX12_lists 5 RX12 κ := X
  have hl : lv_has ls 5 [(0, .ref (κ.1 + a0)), (1, .int a1)] := hl
  have hx := X.1
  have hb := X.2.1
  obtain ⟨x, hx0⟩ : ∃ x, (ro, mo) = x := ⟨_, rfl⟩
  rw [hx0] at h
  have hK : x = (ro, mo) := hx0.symm
  unfold F_X12_lists at h
  refine lv_aload_n hx hb dX12_lists_0 rfl (lv_at hl 0 rfl) ?_
  refine lv_iconst (v := (0 : Int32)) hx hb dX12_lists_1 (by decide) ?_
  obtain ⟨t1, ht1, h⟩ := Option.bind_eq_some_iff.mp h
  refine xr_putI X O ht1 fl_X12_1 dX12_lists_2 (fun H locs O => ?_)
  refine lv_aload_n hx hb dX12_lists_5 rfl (lv_at hl 0 rfl) ?_
  refine lv_iload_n hx hb dX12_lists_6 rfl (lv_at hl 1 rfl) ?_
  obtain ⟨_, hut2, h⟩ := Option.bind_eq_some_iff.mp h
  obtain ⟨t3, ht3, h⟩ := Option.bind_eq_some_iff.mp h
  refine xr_callV (rest := []) X O (T_X12_noTray l κ a0 a1 t1 _ _ ht3) lk_X12_350 hut2 (Nat.le_of_ble_eq_true rfl) rfl hl.1 rfl (Nat.le_of_ble_eq_true rfl) dX12_lists_7 ⟨Nat.le_of_ble_eq_true rfl, Nat.le_of_ble_eq_true rfl⟩ (fun H locs O => ?_)
  refine W.eq (g2 := F0 m 10 ls [.int t3.1]) rfl ?_
  refine lv_istore_n (lv' := [(2, .int t3.1), (0, .ref (κ.1 + a0)), (1, .int a1)]) hx hb dX12_lists_10 rfl hl (by decide) rfl (fun ls hl => ?_)
  refine lv_iload_n hx hb dX12_lists_11 rfl (lv_at hl 0 rfl) ?_
  refine lv_if_eq (tgt := 17) hx hb dX12_lists_12 (by decide) (fun hc12 => ?_) (fun hc12 => ?_)
  · rw [if_pos hc12] at h
    refine lv_aload_n hx hb dX12_lists_17 rfl (lv_at hl 1 rfl) ?_
    refine lv_aload_n hx hb dX12_lists_18 rfl (lv_at hl 1 rfl) ?_
    obtain ⟨t4, ht4, h⟩ := Option.bind_eq_some_iff.mp h
    refine xr_getP X O ht4 fl_X12_13 dX12_lists_19 ?_
    obtain ⟨_, hut5, h⟩ := Option.bind_eq_some_iff.mp h
    obtain ⟨t6, ht6, h⟩ := Option.bind_eq_some_iff.mp h
    refine xr_callV (rest := []) X O (T_X12_cellsOf l κ a0 t4 t3.2 _ _ ht6) lk_X12_189 hut5 (Nat.le_of_ble_eq_true rfl) rfl hl.1 rfl (Nat.le_of_ble_eq_true rfl) dX12_lists_22 ⟨Nat.le_of_ble_eq_true rfl, Nat.le_of_ble_eq_true rfl⟩ (fun H locs O => ?_)
    refine W.eq (g2 := F0 m 25 ls [.int t6.1]) rfl ?_
    refine lv_aload_n hx hb dX12_lists_25 rfl (lv_at hl 1 rfl) ?_
    obtain ⟨t7, ht7, h⟩ := Option.bind_eq_some_iff.mp h
    refine xr_getP X O ht7 fl_X12_73 dX12_lists_26 ?_
    refine lv_iload_n hx hb dX12_lists_29 rfl (lv_at hl 2 rfl) ?_
    obtain ⟨t8, ht8, h⟩ := Option.bind_eq_some_iff.mp h
    refine xr_aldI X O ht8 dX12_lists_30 ?_
    refine lv_icmp_ge (tgt := 45) hx hb dX12_lists_31 (by decide) (fun hc31 => ?_) (fun hc31 => ?_)
    · rw [if_pos hc31] at h
      refine lv_aload_n hx hb dX12_lists_45 rfl (lv_at hl 1 rfl) ?_
      obtain ⟨t9, ht9, h⟩ := Option.bind_eq_some_iff.mp h
      refine xr_getP X O ht9 fl_X12_73 dX12_lists_46 ?_
      refine lv_iload_n hx hb dX12_lists_49 rfl (lv_at hl 2 rfl) ?_
      obtain ⟨t10, ht10, h⟩ := Option.bind_eq_some_iff.mp h
      refine xr_aldI X O ht10 dX12_lists_50 ?_
      exact F_X12_lists_51_ok X hr hlk a0 a1 t10 t6.2 _ h hK H locs ls O (lv_sub hl [1, 2] rfl)
    rw [if_neg hc31] at h
    refine lv_aload_n hx hb dX12_lists_34 rfl (lv_at hl 1 rfl) ?_
    refine lv_aload_n hx hb dX12_lists_35 rfl (lv_at hl 1 rfl) ?_
    obtain ⟨t11, ht11, h⟩ := Option.bind_eq_some_iff.mp h
    refine xr_getP X O ht11 fl_X12_13 dX12_lists_36 ?_
    obtain ⟨_, hut12, h⟩ := Option.bind_eq_some_iff.mp h
    obtain ⟨t13, ht13, h⟩ := Option.bind_eq_some_iff.mp h
    refine xr_callV (rest := []) X O (T_X12_cellsOf l κ a0 t11 t6.2 _ _ ht13) lk_X12_189 hut12 (Nat.le_of_ble_eq_true rfl) rfl hl.1 rfl (Nat.le_of_ble_eq_true rfl) dX12_lists_39 ⟨Nat.le_of_ble_eq_true rfl, Nat.le_of_ble_eq_true rfl⟩ (fun H locs O => ?_)
    refine W.eq (g2 := F0 m 42 ls [.int t13.1]) rfl ?_
    refine lv_goto (tgt := 51) hx hb dX12_lists_42 (by decide) ?_
    exact F_X12_lists_51_ok X hr hlk a0 a1 t13.1 t13.2 _ h hK H locs ls O (lv_sub hl [1, 2] rfl)
  rw [if_neg hc12] at h
  refine lv_iload_n hx hb dX12_lists_15 rfl (lv_at hl 0 rfl) ?_
  rw [← Option.some.inj h] at hK
  have hK : (t3.1, t3.2) = (ro, mo) := hK
  obtain ⟨hK1, hK2⟩ := Prod.mk.inj hK
  rw [hK2] at O
  refine xr_top (w := .int ro) (by rw [hK1]) ?_
  exact xr_iret X hr hlk O dX12_lists_16
def F_X12_image_53 (v0 : Nat) (v1 : Int32) (M : xM) : Option (Int32 × xM) :=
(xgP M v0 12 2).bind fun t7 =>
(xsZ M t7 v1 (1 : Int32)).bind fun t8 =>
some ((0 : Int32), t8)
def F_X12_image_20b (v0 : Nat) (v1 : Int32) : (Int32 × xM) → Option ((Int32 × xM) ⊕ (Int32 × xM)) := fun ⟨v2, M⟩ =>
if (1420 : Int32) ≤ v2 then (
(F_X12_image_53 v0 v1 M).map Sum.inr)
else (
(xgP M v0 12 1).bind fun t3 =>
(xgP M v0 12 1).bind fun t4 =>
(xaI M 20 t4 v2).bind fun t5 =>
(xsI M t3 (((1420 : Int32) * (v1 + (1 : Int32))) + v2) t5).bind fun t6 =>
some (.inl ((v2 + 1), t6)))
def F_X12_image_20 (v0 : Nat) (v1 : Int32) (v2 : Int32) (M : xM) : Option (Int32 × xM) := xit (F_X12_image_20b v0 v1) xFU (v2, M)
def F_X12_image (a0 : Nat) (a1 : Int32) (M : xM) : Option (Int32 × xM) :=
(xpI M a0 12 0 (0 : Int32)).bind fun t1 =>
(F_X12_within a1.toInt64 (0 : Int64) (1 : Int64) t1).bind fun t2 =>
if t2.1 = 0 then (
some ((-2 : Int32), t2.2))
else (
F_X12_image_20 a0 a1 (0 : Int32) t2.2)
set_option maxRecDepth 100000 in
set_option maxHeartbeats 4000000 in
theorem F_X12_image_53_ok (X : xX p s m args c cX12_image 3 RX12 κ) (hr : meth.sig.returnType = (some .int)) (hlk : meth.locks = false) {ro : Int32} {mo : xM} (v0 : Nat) (v1 : Int32) (M : xM) (x : Int32 × xM) (h : F_X12_image_53 v0 v1 M = some x) (hK : (fun o => o = (ro, mo)) x) (H : Heap) (locs : List Loc) (ls : Array Slot) (O : xO κ s M H locs) (hl : lv_has ls 3 [(0, .ref (κ.1 + v0)), (1, .int v1)]) : W p l e (xRm 3 0 0) s m args below meth c H locs 0 0 (xQf below args s 0 0 κ (some (.int ro)) mo) (F0 m 53 ls []) := by
  unfold F_X12_image_53 at h
  have hx := X.1
  have hb := X.2.1
  refine lv_aload_n hx hb dX12_image_53 rfl (lv_at hl 0 rfl) ?_
  obtain ⟨t7, ht7, h⟩ := Option.bind_eq_some_iff.mp h
  refine xr_getP X O ht7 fl_X12_17 dX12_image_54 ?_
  refine lv_iload_n hx hb dX12_image_57 rfl (lv_at hl 1 rfl) ?_
  refine lv_iconst (v := (1 : Int32)) hx hb dX12_image_58 (by decide) ?_
  obtain ⟨t8, ht8, h⟩ := Option.bind_eq_some_iff.mp h
  refine xr_stZ X O ht8 dX12_image_59 (fun H locs O => ?_)
  refine lv_iconst (v := (0 : Int32)) hx hb dX12_image_60 (by decide) ?_
  rw [← Option.some.inj h] at hK
  have hK : ((0 : Int32), t8) = (ro, mo) := hK
  obtain ⟨hK1, hK2⟩ := Prod.mk.inj hK
  rw [hK2] at O
  refine xr_top (w := .int ro) (by rw [hK1]) ?_
  exact xr_iret X hr hlk O dX12_image_61
set_option maxRecDepth 100000 in
set_option maxHeartbeats 4000000 in
theorem F_X12_image_20_bok (X : xX p s m args c cX12_image 3 RX12 κ) (hr : meth.sig.returnType = (some .int)) (hlk : meth.locks = false) {ro : Int32} {mo : xM} (v0 : Nat) (v1 : Int32) (v2 : Int32) {W20 : Int32 × xM → Prop} (hW20 : ∀ (v2 : Int32) (M : xM), W20 (v2, M) → ∀ (H : Heap) (locs : List Loc) (ls : Array Slot), xO κ s M H locs → lv_has ls 3 [(0, .ref (κ.1 + v0)), (1, .int v1), (2, .int v2)] → W p l e (xRm 3 0 0) s m args below meth c H locs 0 0 (xQf below args s 0 0 κ (some (.int ro)) mo) (F0 m 20 ls [])) (M : xM) (x : (Int32 × xM) ⊕ (Int32 × xM)) (h : F_X12_image_20b v0 v1 (v2, M) = some x) (hK : (xKl W20 (fun o => o = (ro, mo))) x) (H : Heap) (locs : List Loc) (ls : Array Slot) (O : xO κ s M H locs) (hl : lv_has ls 3 [(0, .ref (κ.1 + v0)), (1, .int v1), (2, .int v2)]) : W p l e (xRm 3 0 0) s m args below meth c H locs 0 0 (xQf below args s 0 0 κ (some (.int ro)) mo) (F0 m 20 ls []) := by
  unfold F_X12_image_20b at h
  dsimp only at h
  have hx := X.1
  have hb := X.2.1
  refine lv_iload_n hx hb dX12_image_20 rfl (lv_at hl 2 rfl) ?_
  refine lv_sipush (v := (1420 : Int32)) hx hb dX12_image_21 (by decide) ?_
  refine lv_icmp_ge (tgt := 53) hx hb dX12_image_24 (by decide) (fun hc24 => ?_) (fun hc24 => ?_)
  · rw [if_pos hc24] at h
    obtain ⟨_, hw0, ew0⟩ := Option.map_eq_some_iff.mp h
    rw [← ew0] at hK
    have h := hw0
    exact F_X12_image_53_ok X hr hlk v0 v1 M _ h hK H locs ls O (lv_sub hl [0, 1] rfl)
  rw [if_neg hc24] at h
  refine lv_aload_n hx hb dX12_image_27 rfl (lv_at hl 0 rfl) ?_
  obtain ⟨t3, ht3, h⟩ := Option.bind_eq_some_iff.mp h
  refine xr_getP X O ht3 fl_X12_13 dX12_image_28 ?_
  refine lv_sipush (v := (1420 : Int32)) hx hb dX12_image_31 (by decide) ?_
  refine lv_iload_n hx hb dX12_image_34 rfl (lv_at hl 1 rfl) ?_
  refine lv_iconst (v := (1 : Int32)) hx hb dX12_image_35 (by decide) ?_
  refine lv_iadd hx hb dX12_image_36 ?_
  refine lv_imul hx hb dX12_image_37 ?_
  refine lv_iload_n hx hb dX12_image_38 rfl (lv_at hl 2 rfl) ?_
  refine lv_iadd hx hb dX12_image_39 ?_
  refine lv_aload_n hx hb dX12_image_40 rfl (lv_at hl 0 rfl) ?_
  obtain ⟨t4, ht4, h⟩ := Option.bind_eq_some_iff.mp h
  refine xr_getP X O ht4 fl_X12_13 dX12_image_41 ?_
  refine lv_iload_n hx hb dX12_image_44 rfl (lv_at hl 2 rfl) ?_
  obtain ⟨t5, ht5, h⟩ := Option.bind_eq_some_iff.mp h
  refine xr_aldI X O ht5 dX12_image_45 ?_
  obtain ⟨t6, ht6, h⟩ := Option.bind_eq_some_iff.mp h
  refine xr_stI X O ht6 dX12_image_46 (fun H locs O => ?_)
  refine lv_iinc (v := (v2 + 1)) (lv' := [(2, .int (v2 + 1)), (0, .ref (κ.1 + v0)), (1, .int v1)]) hx hb dX12_image_47 hl (k := 2) rfl rfl (by decide) rfl (fun ls hl => ?_)
  refine lv_goto (tgt := 20) hx hb dX12_image_50 (by decide) ?_
  rw [← Option.some.inj h] at hK
  exact hW20 (v2 + 1) t6 hK H locs ls O (lv_sub hl [1, 2, 0] rfl)
set_option maxRecDepth 100000 in
set_option maxHeartbeats 4000000 in
theorem F_X12_image_20_ok (X : xX p s m args c cX12_image 3 RX12 κ) (hr : meth.sig.returnType = (some .int)) (hlk : meth.locks = false) {ro : Int32} {mo : xM} (v0 : Nat) (v1 : Int32) (v2 : Int32) (M : xM) (x : Int32 × xM) (h : F_X12_image_20 v0 v1 v2 M = some x) (hK : (fun o => o = (ro, mo)) x) (H : Heap) (locs : List Loc) (ls : Array Slot) (O : xO κ s M H locs) (hl : lv_has ls 3 [(0, .ref (κ.1 + v0)), (1, .int v1), (2, .int v2)]) : W p l e (xRm 3 0 0) s m args below meth c H locs 0 0 (xQf below args s 0 0 κ (some (.int ro)) mo) (F0 m 20 ls []) := by
  refine xit_K (Wh := fun x => ∀ (H : Heap) (locs : List Loc) (ls : Array Slot), xO κ s x.2 H locs → lv_has ls 3 [(0, .ref (κ.1 + v0)), (1, .int v1), (2, .int x.1)] → W p l e (xRm 3 0 0) s m args below meth c H locs 0 0 (xQf below args s 0 0 κ (some (.int ro)) mo) (F0 m 20 ls [])) (Kp := (fun o => o = (ro, mo))) ?_ xFU (v2, M) x h hK H locs ls O hl
  intro y x h hK H locs ls O hl
  exact F_X12_image_20_bok X hr hlk v0 v1 y.1 (fun _ _ hw => hw) y.2 x h hK H locs ls O hl
set_option maxRecDepth 100000 in
set_option maxHeartbeats 4000000 in
theorem T_X12_image (l : Launch) (κ : xQ) (a0 : Nat) (a1 : Int32) (M : xM) (ro : Int32) (mo : xM) (h : F_X12_image a0 a1 M = some (ro, mo)) : xC l yX12_image cX12_image 3 (some .int) 3 0 0 κ [.ref (κ.1 + a0), .int a1] M (some (.int ro)) mo := by
  refine xC_of rfl (Nat.le_of_ble_eq_true rfl) fun p e s m args below meth c X hr hlk hnm H locs ls O hl => ?_
  have X : xX p s m args c cX12_image 3 RX12 κ := X
  have hl : lv_has ls 3 [(0, .ref (κ.1 + a0)), (1, .int a1)] := hl
  have hx := X.1
  have hb := X.2.1
  obtain ⟨x, hx0⟩ : ∃ x, (ro, mo) = x := ⟨_, rfl⟩
  rw [hx0] at h
  have hK : x = (ro, mo) := hx0.symm
  unfold F_X12_image at h
  refine lv_aload_n hx hb dX12_image_0 rfl (lv_at hl 0 rfl) ?_
  refine lv_iconst (v := (0 : Int32)) hx hb dX12_image_1 (by decide) ?_
  obtain ⟨t1, ht1, h⟩ := Option.bind_eq_some_iff.mp h
  refine xr_putI X O ht1 fl_X12_1 dX12_image_2 (fun H locs O => ?_)
  refine lv_iload_n hx hb dX12_image_5 rfl (lv_at hl 1 rfl) ?_
  refine lv_i2l (v := a1.toInt64) hx hb dX12_image_6 rfl ?_
  refine lv_lconst (v := (0 : Int64)) hx hb dX12_image_7 (by decide) ?_
  refine lv_lconst (v := (1 : Int64)) hx hb dX12_image_8 (by decide) ?_
  obtain ⟨t2, ht2, h⟩ := Option.bind_eq_some_iff.mp h
  refine xr_callS (rest := []) X O (T_X12_within l κ a1.toInt64 (0 : Int64) (1 : Int64) t1 _ _ ht2) lk_X12_145 (Nat.le_of_ble_eq_true rfl) rfl hl.1 rfl (Nat.le_of_ble_eq_true rfl) dX12_image_9 ⟨Nat.le_of_ble_eq_true rfl, Nat.le_of_ble_eq_true rfl⟩ (fun H locs O => ?_)
  refine W.eq (g2 := F0 m 12 ls [.int t2.1]) rfl ?_
  refine lv_if_ne (tgt := 18) hx hb dX12_image_12 (by decide) (fun hc12 => ?_) (fun hc12 => ?_)
  · rw [if_neg hc12] at h
    refine lv_iconst (v := (0 : Int32)) hx hb dX12_image_18 (by decide) ?_
    refine lv_istore_n (lv' := [(2, .int (0 : Int32)), (0, .ref (κ.1 + a0)), (1, .int a1)]) hx hb dX12_image_19 rfl hl (by decide) rfl (fun ls hl => ?_)
    exact F_X12_image_20_ok X hr hlk a0 a1 (0 : Int32) t2.2 _ h hK H locs ls O (lv_sub hl [1, 2, 0] rfl)
  rw [if_pos hc12] at h
  refine lv_bipush (v := (-2 : Int32)) hx hb dX12_image_15 (by decide) ?_
  rw [← Option.some.inj h] at hK
  have hK : ((-2 : Int32), t2.2) = (ro, mo) := hK
  obtain ⟨hK1, hK2⟩ := Prod.mk.inj hK
  rw [hK2] at O
  refine xr_top (w := .int ro) (by rw [hK1]) ?_
  exact xr_iret X hr hlk O dX12_image_17
def F_X12_restore_65 (v0 : Nat) (M : xM) : Option (Int32 × xM) :=
(xgP M v0 12 1).bind fun t9 =>
(xsI M t9 (108 : Int32) (0 : Int32)).bind fun t10 =>
some ((0 : Int32), t10)
def F_X12_restore_32b (v0 : Nat) (v1 : Int32) : (Int32 × xM) → Option ((Int32 × xM) ⊕ (Int32 × xM)) := fun ⟨v2, M⟩ =>
if (1420 : Int32) ≤ v2 then (
(F_X12_restore_65 v0 M).map Sum.inr)
else (
(xgP M v0 12 1).bind fun t5 =>
(xgP M v0 12 1).bind fun t6 =>
(xaI M 20 t6 (((1420 : Int32) * (v1 + (1 : Int32))) + v2)).bind fun t7 =>
(xsI M t5 v2 t7).bind fun t8 =>
some (.inl ((v2 + 1), t8)))
def F_X12_restore_32 (v0 : Nat) (v1 : Int32) (v2 : Int32) (M : xM) : Option (Int32 × xM) := xit (F_X12_restore_32b v0 v1) xFU (v2, M)
def F_X12_restore (a0 : Nat) (a1 : Int32) (M : xM) : Option (Int32 × xM) :=
(xpI M a0 12 0 (0 : Int32)).bind fun t1 =>
(F_X12_within a1.toInt64 (0 : Int64) (1 : Int64) t1).bind fun t2 =>
if t2.1 = 0 then (
some ((-2 : Int32), t2.2))
else (
(xgP t2.2 a0 12 2).bind fun t3 =>
(xaI t2.2 22 t3 a1).bind fun t4 =>
if t4 = 0 then (
some ((-5 : Int32), t2.2))
else (
F_X12_restore_32 a0 a1 (0 : Int32) t2.2))
set_option maxRecDepth 100000 in
set_option maxHeartbeats 4000000 in
theorem F_X12_restore_65_ok (X : xX p s m args c cX12_restore 3 RX12 κ) (hr : meth.sig.returnType = (some .int)) (hlk : meth.locks = false) {ro : Int32} {mo : xM} (v0 : Nat) (M : xM) (x : Int32 × xM) (h : F_X12_restore_65 v0 M = some x) (hK : (fun o => o = (ro, mo)) x) (H : Heap) (locs : List Loc) (ls : Array Slot) (O : xO κ s M H locs) (hl : lv_has ls 3 [(0, .ref (κ.1 + v0))]) : W p l e (xRm 3 0 0) s m args below meth c H locs 0 0 (xQf below args s 0 0 κ (some (.int ro)) mo) (F0 m 65 ls []) := by
  unfold F_X12_restore_65 at h
  have hx := X.1
  have hb := X.2.1
  refine lv_aload_n hx hb dX12_restore_65 rfl (lv_at hl 0 rfl) ?_
  obtain ⟨t9, ht9, h⟩ := Option.bind_eq_some_iff.mp h
  refine xr_getP X O ht9 fl_X12_13 dX12_restore_66 ?_
  refine lv_bipush (v := (108 : Int32)) hx hb dX12_restore_69 (by decide) ?_
  refine lv_iconst (v := (0 : Int32)) hx hb dX12_restore_71 (by decide) ?_
  obtain ⟨t10, ht10, h⟩ := Option.bind_eq_some_iff.mp h
  refine xr_stI X O ht10 dX12_restore_72 (fun H locs O => ?_)
  refine lv_iconst (v := (0 : Int32)) hx hb dX12_restore_73 (by decide) ?_
  rw [← Option.some.inj h] at hK
  have hK : ((0 : Int32), t10) = (ro, mo) := hK
  obtain ⟨hK1, hK2⟩ := Prod.mk.inj hK
  rw [hK2] at O
  refine xr_top (w := .int ro) (by rw [hK1]) ?_
  exact xr_iret X hr hlk O dX12_restore_74
set_option maxRecDepth 100000 in
set_option maxHeartbeats 4000000 in
theorem F_X12_restore_32_bok (X : xX p s m args c cX12_restore 3 RX12 κ) (hr : meth.sig.returnType = (some .int)) (hlk : meth.locks = false) {ro : Int32} {mo : xM} (v0 : Nat) (v1 : Int32) (v2 : Int32) {W32 : Int32 × xM → Prop} (hW32 : ∀ (v2 : Int32) (M : xM), W32 (v2, M) → ∀ (H : Heap) (locs : List Loc) (ls : Array Slot), xO κ s M H locs → lv_has ls 3 [(0, .ref (κ.1 + v0)), (1, .int v1), (2, .int v2)] → W p l e (xRm 3 0 0) s m args below meth c H locs 0 0 (xQf below args s 0 0 κ (some (.int ro)) mo) (F0 m 32 ls [])) (M : xM) (x : (Int32 × xM) ⊕ (Int32 × xM)) (h : F_X12_restore_32b v0 v1 (v2, M) = some x) (hK : (xKl W32 (fun o => o = (ro, mo))) x) (H : Heap) (locs : List Loc) (ls : Array Slot) (O : xO κ s M H locs) (hl : lv_has ls 3 [(0, .ref (κ.1 + v0)), (1, .int v1), (2, .int v2)]) : W p l e (xRm 3 0 0) s m args below meth c H locs 0 0 (xQf below args s 0 0 κ (some (.int ro)) mo) (F0 m 32 ls []) := by
  unfold F_X12_restore_32b at h
  dsimp only at h
  have hx := X.1
  have hb := X.2.1
  refine lv_iload_n hx hb dX12_restore_32 rfl (lv_at hl 2 rfl) ?_
  refine lv_sipush (v := (1420 : Int32)) hx hb dX12_restore_33 (by decide) ?_
  refine lv_icmp_ge (tgt := 65) hx hb dX12_restore_36 (by decide) (fun hc36 => ?_) (fun hc36 => ?_)
  · rw [if_pos hc36] at h
    obtain ⟨_, hw0, ew0⟩ := Option.map_eq_some_iff.mp h
    rw [← ew0] at hK
    have h := hw0
    exact F_X12_restore_65_ok X hr hlk v0 M _ h hK H locs ls O (lv_sub hl [0] rfl)
  rw [if_neg hc36] at h
  refine lv_aload_n hx hb dX12_restore_39 rfl (lv_at hl 0 rfl) ?_
  obtain ⟨t5, ht5, h⟩ := Option.bind_eq_some_iff.mp h
  refine xr_getP X O ht5 fl_X12_13 dX12_restore_40 ?_
  refine lv_iload_n hx hb dX12_restore_43 rfl (lv_at hl 2 rfl) ?_
  refine lv_aload_n hx hb dX12_restore_44 rfl (lv_at hl 0 rfl) ?_
  obtain ⟨t6, ht6, h⟩ := Option.bind_eq_some_iff.mp h
  refine xr_getP X O ht6 fl_X12_13 dX12_restore_45 ?_
  refine lv_sipush (v := (1420 : Int32)) hx hb dX12_restore_48 (by decide) ?_
  refine lv_iload_n hx hb dX12_restore_51 rfl (lv_at hl 1 rfl) ?_
  refine lv_iconst (v := (1 : Int32)) hx hb dX12_restore_52 (by decide) ?_
  refine lv_iadd hx hb dX12_restore_53 ?_
  refine lv_imul hx hb dX12_restore_54 ?_
  refine lv_iload_n hx hb dX12_restore_55 rfl (lv_at hl 2 rfl) ?_
  refine lv_iadd hx hb dX12_restore_56 ?_
  obtain ⟨t7, ht7, h⟩ := Option.bind_eq_some_iff.mp h
  refine xr_aldI X O ht7 dX12_restore_57 ?_
  obtain ⟨t8, ht8, h⟩ := Option.bind_eq_some_iff.mp h
  refine xr_stI X O ht8 dX12_restore_58 (fun H locs O => ?_)
  refine lv_iinc (v := (v2 + 1)) (lv' := [(2, .int (v2 + 1)), (0, .ref (κ.1 + v0)), (1, .int v1)]) hx hb dX12_restore_59 hl (k := 2) rfl rfl (by decide) rfl (fun ls hl => ?_)
  refine lv_goto (tgt := 32) hx hb dX12_restore_62 (by decide) ?_
  rw [← Option.some.inj h] at hK
  exact hW32 (v2 + 1) t8 hK H locs ls O (lv_sub hl [1, 2, 0] rfl)
set_option maxRecDepth 100000 in
set_option maxHeartbeats 4000000 in
theorem F_X12_restore_32_ok (X : xX p s m args c cX12_restore 3 RX12 κ) (hr : meth.sig.returnType = (some .int)) (hlk : meth.locks = false) {ro : Int32} {mo : xM} (v0 : Nat) (v1 : Int32) (v2 : Int32) (M : xM) (x : Int32 × xM) (h : F_X12_restore_32 v0 v1 v2 M = some x) (hK : (fun o => o = (ro, mo)) x) (H : Heap) (locs : List Loc) (ls : Array Slot) (O : xO κ s M H locs) (hl : lv_has ls 3 [(0, .ref (κ.1 + v0)), (1, .int v1), (2, .int v2)]) : W p l e (xRm 3 0 0) s m args below meth c H locs 0 0 (xQf below args s 0 0 κ (some (.int ro)) mo) (F0 m 32 ls []) := by
  refine xit_K (Wh := fun x => ∀ (H : Heap) (locs : List Loc) (ls : Array Slot), xO κ s x.2 H locs → lv_has ls 3 [(0, .ref (κ.1 + v0)), (1, .int v1), (2, .int x.1)] → W p l e (xRm 3 0 0) s m args below meth c H locs 0 0 (xQf below args s 0 0 κ (some (.int ro)) mo) (F0 m 32 ls [])) (Kp := (fun o => o = (ro, mo))) ?_ xFU (v2, M) x h hK H locs ls O hl
  intro y x h hK H locs ls O hl
  exact F_X12_restore_32_bok X hr hlk v0 v1 y.1 (fun _ _ hw => hw) y.2 x h hK H locs ls O hl
set_option maxRecDepth 100000 in
set_option maxHeartbeats 4000000 in
theorem T_X12_restore (l : Launch) (κ : xQ) (a0 : Nat) (a1 : Int32) (M : xM) (ro : Int32) (mo : xM) (h : F_X12_restore a0 a1 M = some (ro, mo)) : xC l yX12_restore cX12_restore 3 (some .int) 3 0 0 κ [.ref (κ.1 + a0), .int a1] M (some (.int ro)) mo := by
  refine xC_of rfl (Nat.le_of_ble_eq_true rfl) fun p e s m args below meth c X hr hlk hnm H locs ls O hl => ?_
  have X : xX p s m args c cX12_restore 3 RX12 κ := X
  have hl : lv_has ls 3 [(0, .ref (κ.1 + a0)), (1, .int a1)] := hl
  have hx := X.1
  have hb := X.2.1
  obtain ⟨x, hx0⟩ : ∃ x, (ro, mo) = x := ⟨_, rfl⟩
  rw [hx0] at h
  have hK : x = (ro, mo) := hx0.symm
  unfold F_X12_restore at h
  refine lv_aload_n hx hb dX12_restore_0 rfl (lv_at hl 0 rfl) ?_
  refine lv_iconst (v := (0 : Int32)) hx hb dX12_restore_1 (by decide) ?_
  obtain ⟨t1, ht1, h⟩ := Option.bind_eq_some_iff.mp h
  refine xr_putI X O ht1 fl_X12_1 dX12_restore_2 (fun H locs O => ?_)
  refine lv_iload_n hx hb dX12_restore_5 rfl (lv_at hl 1 rfl) ?_
  refine lv_i2l (v := a1.toInt64) hx hb dX12_restore_6 rfl ?_
  refine lv_lconst (v := (0 : Int64)) hx hb dX12_restore_7 (by decide) ?_
  refine lv_lconst (v := (1 : Int64)) hx hb dX12_restore_8 (by decide) ?_
  obtain ⟨t2, ht2, h⟩ := Option.bind_eq_some_iff.mp h
  refine xr_callS (rest := []) X O (T_X12_within l κ a1.toInt64 (0 : Int64) (1 : Int64) t1 _ _ ht2) lk_X12_145 (Nat.le_of_ble_eq_true rfl) rfl hl.1 rfl (Nat.le_of_ble_eq_true rfl) dX12_restore_9 ⟨Nat.le_of_ble_eq_true rfl, Nat.le_of_ble_eq_true rfl⟩ (fun H locs O => ?_)
  refine W.eq (g2 := F0 m 12 ls [.int t2.1]) rfl ?_
  refine lv_if_ne (tgt := 18) hx hb dX12_restore_12 (by decide) (fun hc12 => ?_) (fun hc12 => ?_)
  · rw [if_neg hc12] at h
    refine lv_aload_n hx hb dX12_restore_18 rfl (lv_at hl 0 rfl) ?_
    obtain ⟨t3, ht3, h⟩ := Option.bind_eq_some_iff.mp h
    refine xr_getP X O ht3 fl_X12_17 dX12_restore_19 ?_
    refine lv_iload_n hx hb dX12_restore_22 rfl (lv_at hl 1 rfl) ?_
    obtain ⟨t4, ht4, h⟩ := Option.bind_eq_some_iff.mp h
    refine xr_aldZ X O ht4 dX12_restore_23 ?_
    refine lv_if_ne (tgt := 30) hx hb dX12_restore_24 (by decide) (fun hc24 => ?_) (fun hc24 => ?_)
    · rw [if_neg hc24] at h
      refine lv_iconst (v := (0 : Int32)) hx hb dX12_restore_30 (by decide) ?_
      refine lv_istore_n (lv' := [(2, .int (0 : Int32)), (0, .ref (κ.1 + a0)), (1, .int a1)]) hx hb dX12_restore_31 rfl hl (by decide) rfl (fun ls hl => ?_)
      exact F_X12_restore_32_ok X hr hlk a0 a1 (0 : Int32) t2.2 _ h hK H locs ls O (lv_sub hl [1, 2, 0] rfl)
    rw [if_pos hc24] at h
    refine lv_bipush (v := (-5 : Int32)) hx hb dX12_restore_27 (by decide) ?_
    rw [← Option.some.inj h] at hK
    have hK : ((-5 : Int32), t2.2) = (ro, mo) := hK
    obtain ⟨hK1, hK2⟩ := Prod.mk.inj hK
    rw [hK2] at O
    refine xr_top (w := .int ro) (by rw [hK1]) ?_
    exact xr_iret X hr hlk O dX12_restore_29
  rw [if_pos hc12] at h
  refine lv_bipush (v := (-2 : Int32)) hx hb dX12_restore_15 (by decide) ?_
  rw [← Option.some.inj h] at hK
  have hK : ((-2 : Int32), t2.2) = (ro, mo) := hK
  obtain ⟨hK1, hK2⟩ := Prod.mk.inj hK
  rw [hK2] at O
  refine xr_top (w := .int ro) (by rw [hK1]) ?_
  exact xr_iret X hr hlk O dX12_restore_17
def F_X12_count (a0 : Nat) (a1 : Int32) (M : xM) : Option (Int32 × xM) :=
(xpI M a0 12 0 (0 : Int32)).bind fun t1 =>
if a1 = (0 : Int32) then (
(xgP t1 a0 12 1).bind fun t2 =>
(xaI t1 20 t2 (1 : Int32)).bind fun t3 =>
some (t3, t1))
else if a1 = (1 : Int32) then (
(xgP t1 a0 12 1).bind fun t4 =>
(xaI t1 20 t4 (2 : Int32)).bind fun t5 =>
some (t5, t1))
else if a1 = (2 : Int32) then (
(xgP t1 a0 12 1).bind fun t6 =>
(xaI t1 20 t6 (92 : Int32)).bind fun t7 =>
some (t7, t1))
else if a1 = (3 : Int32) then (
(xck t1 a0 12).bind fun _ =>
(F_X12_standing a0 t1).bind fun t9 =>
some (t9.1, t9.2))
else if a1 = (4 : Int32) then (
(xgP t1 a0 12 1).bind fun t10 =>
(xaI t1 20 t10 (106 : Int32)).bind fun t11 =>
some (t11, t1))
else if a1 = (5 : Int32) then (
(xgP t1 a0 12 1).bind fun t12 =>
(xaI t1 20 t12 (107 : Int32)).bind fun t13 =>
some (t13, t1))
else if a1 = (6 : Int32) then (
(xck t1 a0 12).bind fun _ =>
(F_X12_sandSum a0 t1).bind fun t15 =>
some (t15.1, t15.2))
else if a1 = (7 : Int32) then (
(xgP t1 a0 12 1).bind fun t16 =>
(xaI t1 20 t16 (4 : Int32)).bind fun t17 =>
some (t17, t1))
else if a1 = (8 : Int32) then (
(xgP t1 a0 12 1).bind fun t18 =>
(xaI t1 20 t18 (5 : Int32)).bind fun t19 =>
some (t19, t1))
else if a1 = (9 : Int32) then (
(xgP t1 a0 12 1).bind fun t20 =>
(xaI t1 20 t20 (108 : Int32)).bind fun t21 =>
some (t21, t1))
else if a1 = (10 : Int32) then (
(xgI t1 a0 12 5).bind fun t22 =>
some (t22, t1))
else if a1 = (11 : Int32) then (
(xgP t1 a0 12 1).bind fun t23 =>
(xaI t1 20 t23 (0 : Int32)).bind fun t24 =>
some (t24, t1))
else (
some ((-1 : Int32), t1))
set_option maxRecDepth 100000 in
set_option maxHeartbeats 4000000 in
theorem T_X12_count (l : Launch) (κ : xQ) (a0 : Nat) (a1 : Int32) (M : xM) (ro : Int32) (mo : xM) (h : F_X12_count a0 a1 M = some (ro, mo)) : xC l yX12_count cX12_count 2 (some .int) 5 0 0 κ [.ref (κ.1 + a0), .int a1] M (some (.int ro)) mo := by
  refine xC_of rfl (Nat.le_of_ble_eq_true rfl) fun p e s m args below meth c X hr hlk hnm H locs ls O hl => ?_
  have X : xX p s m args c cX12_count 2 RX12 κ := X
  have hl : lv_has ls 2 [(0, .ref (κ.1 + a0)), (1, .int a1)] := hl
  have hx := X.1
  have hb := X.2.1
  obtain ⟨x, hx0⟩ : ∃ x, (ro, mo) = x := ⟨_, rfl⟩
  rw [hx0] at h
  have hK : x = (ro, mo) := hx0.symm
  unfold F_X12_count at h
  refine lv_aload_n hx hb dX12_count_0 rfl (lv_at hl 0 rfl) ?_
  refine lv_iconst (v := (0 : Int32)) hx hb dX12_count_1 (by decide) ?_
  obtain ⟨t1, ht1, h⟩ := Option.bind_eq_some_iff.mp h
  refine xr_putI X O ht1 fl_X12_1 dX12_count_2 (fun H locs O => ?_)
  refine lv_iload_n hx hb dX12_count_5 rfl (lv_at hl 1 rfl) ?_
  by_cases hs6_0 : a1 = (0 : Int32)
  · rw [if_pos hs6_0] at h
    refine xr_tabIn (tgt := 68) (off := 62) X dX12_count_6 hs6_0 (by decide +kernel) (by decide +kernel) (by decide +kernel) (by decide) ?_
    refine lv_aload_n hx hb dX12_count_68 rfl (lv_at hl 0 rfl) ?_
    obtain ⟨t2, ht2, h⟩ := Option.bind_eq_some_iff.mp h
    refine xr_getP X O ht2 fl_X12_13 dX12_count_69 ?_
    refine lv_iconst (v := (1 : Int32)) hx hb dX12_count_72 (by decide) ?_
    obtain ⟨t3, ht3, h⟩ := Option.bind_eq_some_iff.mp h
    refine xr_aldI X O ht3 dX12_count_73 ?_
    rw [← Option.some.inj h] at hK
    have hK : (t3, t1) = (ro, mo) := hK
    obtain ⟨hK1, hK2⟩ := Prod.mk.inj hK
    rw [hK2] at O
    refine xr_top (w := .int ro) (by rw [hK1]) ?_
    exact xr_iret X hr hlk O dX12_count_74
  rw [if_neg hs6_0] at h
  by_cases hs6_1 : a1 = (1 : Int32)
  · rw [if_pos hs6_1] at h
    refine xr_tabIn (tgt := 75) (off := 69) X dX12_count_6 hs6_1 (by decide +kernel) (by decide +kernel) (by decide +kernel) (by decide) ?_
    refine lv_aload_n hx hb dX12_count_75 rfl (lv_at hl 0 rfl) ?_
    obtain ⟨t4, ht4, h⟩ := Option.bind_eq_some_iff.mp h
    refine xr_getP X O ht4 fl_X12_13 dX12_count_76 ?_
    refine lv_iconst (v := (2 : Int32)) hx hb dX12_count_79 (by decide) ?_
    obtain ⟨t5, ht5, h⟩ := Option.bind_eq_some_iff.mp h
    refine xr_aldI X O ht5 dX12_count_80 ?_
    rw [← Option.some.inj h] at hK
    have hK : (t5, t1) = (ro, mo) := hK
    obtain ⟨hK1, hK2⟩ := Prod.mk.inj hK
    rw [hK2] at O
    refine xr_top (w := .int ro) (by rw [hK1]) ?_
    exact xr_iret X hr hlk O dX12_count_81
  rw [if_neg hs6_1] at h
  by_cases hs6_2 : a1 = (2 : Int32)
  · rw [if_pos hs6_2] at h
    refine xr_tabIn (tgt := 82) (off := 76) X dX12_count_6 hs6_2 (by decide +kernel) (by decide +kernel) (by decide +kernel) (by decide) ?_
    refine lv_aload_n hx hb dX12_count_82 rfl (lv_at hl 0 rfl) ?_
    obtain ⟨t6, ht6, h⟩ := Option.bind_eq_some_iff.mp h
    refine xr_getP X O ht6 fl_X12_13 dX12_count_83 ?_
    refine lv_bipush (v := (92 : Int32)) hx hb dX12_count_86 (by decide) ?_
    obtain ⟨t7, ht7, h⟩ := Option.bind_eq_some_iff.mp h
    refine xr_aldI X O ht7 dX12_count_88 ?_
    rw [← Option.some.inj h] at hK
    have hK : (t7, t1) = (ro, mo) := hK
    obtain ⟨hK1, hK2⟩ := Prod.mk.inj hK
    rw [hK2] at O
    refine xr_top (w := .int ro) (by rw [hK1]) ?_
    exact xr_iret X hr hlk O dX12_count_89
  rw [if_neg hs6_2] at h
  by_cases hs6_3 : a1 = (3 : Int32)
  · rw [if_pos hs6_3] at h
    refine xr_tabIn (tgt := 90) (off := 84) X dX12_count_6 hs6_3 (by decide +kernel) (by decide +kernel) (by decide +kernel) (by decide) ?_
    refine lv_aload_n hx hb dX12_count_90 rfl (lv_at hl 0 rfl) ?_
    obtain ⟨_, hut8, h⟩ := Option.bind_eq_some_iff.mp h
    obtain ⟨t9, ht9, h⟩ := Option.bind_eq_some_iff.mp h
    refine xr_callV (rest := []) X O (T_X12_standing l κ a0 t1 _ _ ht9) lk_X12_301 hut8 (Nat.le_of_ble_eq_true rfl) rfl hl.1 rfl (Nat.le_of_ble_eq_true rfl) dX12_count_91 ⟨Nat.le_of_ble_eq_true rfl, Nat.le_of_ble_eq_true rfl⟩ (fun H locs O => ?_)
    refine W.eq (g2 := F0 m 94 ls [.int t9.1]) rfl ?_
    rw [← Option.some.inj h] at hK
    have hK : (t9.1, t9.2) = (ro, mo) := hK
    obtain ⟨hK1, hK2⟩ := Prod.mk.inj hK
    rw [hK2] at O
    refine xr_top (w := .int ro) (by rw [hK1]) ?_
    exact xr_iret X hr hlk O dX12_count_94
  rw [if_neg hs6_3] at h
  by_cases hs6_4 : a1 = (4 : Int32)
  · rw [if_pos hs6_4] at h
    refine xr_tabIn (tgt := 95) (off := 89) X dX12_count_6 hs6_4 (by decide +kernel) (by decide +kernel) (by decide +kernel) (by decide) ?_
    refine lv_aload_n hx hb dX12_count_95 rfl (lv_at hl 0 rfl) ?_
    obtain ⟨t10, ht10, h⟩ := Option.bind_eq_some_iff.mp h
    refine xr_getP X O ht10 fl_X12_13 dX12_count_96 ?_
    refine lv_bipush (v := (106 : Int32)) hx hb dX12_count_99 (by decide) ?_
    obtain ⟨t11, ht11, h⟩ := Option.bind_eq_some_iff.mp h
    refine xr_aldI X O ht11 dX12_count_101 ?_
    rw [← Option.some.inj h] at hK
    have hK : (t11, t1) = (ro, mo) := hK
    obtain ⟨hK1, hK2⟩ := Prod.mk.inj hK
    rw [hK2] at O
    refine xr_top (w := .int ro) (by rw [hK1]) ?_
    exact xr_iret X hr hlk O dX12_count_102
  rw [if_neg hs6_4] at h
  by_cases hs6_5 : a1 = (5 : Int32)
  · rw [if_pos hs6_5] at h
    refine xr_tabIn (tgt := 103) (off := 97) X dX12_count_6 hs6_5 (by decide +kernel) (by decide +kernel) (by decide +kernel) (by decide) ?_
    refine lv_aload_n hx hb dX12_count_103 rfl (lv_at hl 0 rfl) ?_
    obtain ⟨t12, ht12, h⟩ := Option.bind_eq_some_iff.mp h
    refine xr_getP X O ht12 fl_X12_13 dX12_count_104 ?_
    refine lv_bipush (v := (107 : Int32)) hx hb dX12_count_107 (by decide) ?_
    obtain ⟨t13, ht13, h⟩ := Option.bind_eq_some_iff.mp h
    refine xr_aldI X O ht13 dX12_count_109 ?_
    rw [← Option.some.inj h] at hK
    have hK : (t13, t1) = (ro, mo) := hK
    obtain ⟨hK1, hK2⟩ := Prod.mk.inj hK
    rw [hK2] at O
    refine xr_top (w := .int ro) (by rw [hK1]) ?_
    exact xr_iret X hr hlk O dX12_count_110
  rw [if_neg hs6_5] at h
  by_cases hs6_6 : a1 = (6 : Int32)
  · rw [if_pos hs6_6] at h
    refine xr_tabIn (tgt := 111) (off := 105) X dX12_count_6 hs6_6 (by decide +kernel) (by decide +kernel) (by decide +kernel) (by decide) ?_
    refine lv_aload_n hx hb dX12_count_111 rfl (lv_at hl 0 rfl) ?_
    obtain ⟨_, hut14, h⟩ := Option.bind_eq_some_iff.mp h
    obtain ⟨t15, ht15, h⟩ := Option.bind_eq_some_iff.mp h
    refine xr_callV (rest := []) X O (T_X12_sandSum l κ a0 t1 _ _ ht15) lk_X12_356 hut14 (Nat.le_of_ble_eq_true rfl) rfl hl.1 rfl (Nat.le_of_ble_eq_true rfl) dX12_count_112 ⟨Nat.le_of_ble_eq_true rfl, Nat.le_of_ble_eq_true rfl⟩ (fun H locs O => ?_)
    refine W.eq (g2 := F0 m 115 ls [.int t15.1]) rfl ?_
    rw [← Option.some.inj h] at hK
    have hK : (t15.1, t15.2) = (ro, mo) := hK
    obtain ⟨hK1, hK2⟩ := Prod.mk.inj hK
    rw [hK2] at O
    refine xr_top (w := .int ro) (by rw [hK1]) ?_
    exact xr_iret X hr hlk O dX12_count_115
  rw [if_neg hs6_6] at h
  by_cases hs6_7 : a1 = (7 : Int32)
  · rw [if_pos hs6_7] at h
    refine xr_tabIn (tgt := 116) (off := 110) X dX12_count_6 hs6_7 (by decide +kernel) (by decide +kernel) (by decide +kernel) (by decide) ?_
    refine lv_aload_n hx hb dX12_count_116 rfl (lv_at hl 0 rfl) ?_
    obtain ⟨t16, ht16, h⟩ := Option.bind_eq_some_iff.mp h
    refine xr_getP X O ht16 fl_X12_13 dX12_count_117 ?_
    refine lv_iconst (v := (4 : Int32)) hx hb dX12_count_120 (by decide) ?_
    obtain ⟨t17, ht17, h⟩ := Option.bind_eq_some_iff.mp h
    refine xr_aldI X O ht17 dX12_count_121 ?_
    rw [← Option.some.inj h] at hK
    have hK : (t17, t1) = (ro, mo) := hK
    obtain ⟨hK1, hK2⟩ := Prod.mk.inj hK
    rw [hK2] at O
    refine xr_top (w := .int ro) (by rw [hK1]) ?_
    exact xr_iret X hr hlk O dX12_count_122
  rw [if_neg hs6_7] at h
  by_cases hs6_8 : a1 = (8 : Int32)
  · rw [if_pos hs6_8] at h
    refine xr_tabIn (tgt := 123) (off := 117) X dX12_count_6 hs6_8 (by decide +kernel) (by decide +kernel) (by decide +kernel) (by decide) ?_
    refine lv_aload_n hx hb dX12_count_123 rfl (lv_at hl 0 rfl) ?_
    obtain ⟨t18, ht18, h⟩ := Option.bind_eq_some_iff.mp h
    refine xr_getP X O ht18 fl_X12_13 dX12_count_124 ?_
    refine lv_iconst (v := (5 : Int32)) hx hb dX12_count_127 (by decide) ?_
    obtain ⟨t19, ht19, h⟩ := Option.bind_eq_some_iff.mp h
    refine xr_aldI X O ht19 dX12_count_128 ?_
    rw [← Option.some.inj h] at hK
    have hK : (t19, t1) = (ro, mo) := hK
    obtain ⟨hK1, hK2⟩ := Prod.mk.inj hK
    rw [hK2] at O
    refine xr_top (w := .int ro) (by rw [hK1]) ?_
    exact xr_iret X hr hlk O dX12_count_129
  rw [if_neg hs6_8] at h
  by_cases hs6_9 : a1 = (9 : Int32)
  · rw [if_pos hs6_9] at h
    refine xr_tabIn (tgt := 130) (off := 124) X dX12_count_6 hs6_9 (by decide +kernel) (by decide +kernel) (by decide +kernel) (by decide) ?_
    refine lv_aload_n hx hb dX12_count_130 rfl (lv_at hl 0 rfl) ?_
    obtain ⟨t20, ht20, h⟩ := Option.bind_eq_some_iff.mp h
    refine xr_getP X O ht20 fl_X12_13 dX12_count_131 ?_
    refine lv_bipush (v := (108 : Int32)) hx hb dX12_count_134 (by decide) ?_
    obtain ⟨t21, ht21, h⟩ := Option.bind_eq_some_iff.mp h
    refine xr_aldI X O ht21 dX12_count_136 ?_
    rw [← Option.some.inj h] at hK
    have hK : (t21, t1) = (ro, mo) := hK
    obtain ⟨hK1, hK2⟩ := Prod.mk.inj hK
    rw [hK2] at O
    refine xr_top (w := .int ro) (by rw [hK1]) ?_
    exact xr_iret X hr hlk O dX12_count_137
  rw [if_neg hs6_9] at h
  by_cases hs6_10 : a1 = (10 : Int32)
  · rw [if_pos hs6_10] at h
    refine xr_tabIn (tgt := 138) (off := 132) X dX12_count_6 hs6_10 (by decide +kernel) (by decide +kernel) (by decide +kernel) (by decide) ?_
    refine lv_aload_n hx hb dX12_count_138 rfl (lv_at hl 0 rfl) ?_
    obtain ⟨t22, ht22, h⟩ := Option.bind_eq_some_iff.mp h
    refine xr_getI X O ht22 fl_X12_83 (Or.inl rfl) dX12_count_139 ?_
    rw [← Option.some.inj h] at hK
    have hK : (t22, t1) = (ro, mo) := hK
    obtain ⟨hK1, hK2⟩ := Prod.mk.inj hK
    rw [hK2] at O
    refine xr_top (w := .int ro) (by rw [hK1]) ?_
    exact xr_iret X hr hlk O dX12_count_142
  rw [if_neg hs6_10] at h
  by_cases hs6_11 : a1 = (11 : Int32)
  · rw [if_pos hs6_11] at h
    refine xr_tabIn (tgt := 143) (off := 137) X dX12_count_6 hs6_11 (by decide +kernel) (by decide +kernel) (by decide +kernel) (by decide) ?_
    refine lv_aload_n hx hb dX12_count_143 rfl (lv_at hl 0 rfl) ?_
    obtain ⟨t23, ht23, h⟩ := Option.bind_eq_some_iff.mp h
    refine xr_getP X O ht23 fl_X12_13 dX12_count_144 ?_
    refine lv_iconst (v := (0 : Int32)) hx hb dX12_count_147 (by decide) ?_
    obtain ⟨t24, ht24, h⟩ := Option.bind_eq_some_iff.mp h
    refine xr_aldI X O ht24 dX12_count_148 ?_
    rw [← Option.some.inj h] at hK
    have hK : (t24, t1) = (ro, mo) := hK
    obtain ⟨hK1, hK2⟩ := Prod.mk.inj hK
    rw [hK2] at O
    refine xr_top (w := .int ro) (by rw [hK1]) ?_
    exact xr_iret X hr hlk O dX12_count_149
  rw [if_neg hs6_11] at h
  have ihs6_0 := xr_nei (k := 0) (by decide) hs6_0
  have ihs6_1 := xr_nei (k := 1) (by decide) hs6_1
  have ihs6_2 := xr_nei (k := 2) (by decide) hs6_2
  have ihs6_3 := xr_nei (k := 3) (by decide) hs6_3
  have ihs6_4 := xr_nei (k := 4) (by decide) hs6_4
  have ihs6_5 := xr_nei (k := 5) (by decide) hs6_5
  have ihs6_6 := xr_nei (k := 6) (by decide) hs6_6
  have ihs6_7 := xr_nei (k := 7) (by decide) hs6_7
  have ihs6_8 := xr_nei (k := 8) (by decide) hs6_8
  have ihs6_9 := xr_nei (k := 9) (by decide) hs6_9
  have ihs6_10 := xr_nei (k := 10) (by decide) hs6_10
  have ihs6_11 := xr_nei (k := 11) (by decide) hs6_11
  refine lv_tableOut (tgt := 150) hx hb dX12_count_6 (by omega) (by decide) ?_
  refine lv_iconst (v := (-1 : Int32)) hx hb dX12_count_150 (by decide) ?_
  rw [← Option.some.inj h] at hK
  have hK : ((-1 : Int32), t1) = (ro, mo) := hK
  obtain ⟨hK1, hK2⟩ := Prod.mk.inj hK
  rw [hK2] at O
  refine xr_top (w := .int ro) (by rw [hK1]) ?_
  exact xr_iret X hr hlk O dX12_count_151
end G
