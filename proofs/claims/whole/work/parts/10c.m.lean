section G
variable {p : Program} {l : Launch} {e : Env} {s : State} {m : MethodId} {args : Array Value} {below : List Frame} {meth : Method} {c : Code} {κ : xQ}
def F_X7_readAtom (rc : Nat → Nat → Int32 → xM → Option (xM)) (a0 : Nat) (a1 : Int32) (M : xM) : Option (xM) :=
(xgI M a0 7 2).bind fun t1 =>
if t1 = 0 then (
(xck M a0 7).bind fun _ =>
(F_X7_nameHere a0 M).bind fun t3 =>
(xgI t3.2 a0 7 8).bind fun t4 =>
if t4 = (3 : Int32) then (
(xgP t3.2 a0 7 0).bind fun t26 =>
(xck t3.2 a0 7).bind fun _ =>
(F_X7_numberHere a0 t3.2).bind fun t28 =>
(xck t28.2 t26 3).bind fun _ =>
(F_X3_emit t26 t28.1 t28.2).bind fun t30 =>
(xck t30 a0 7).bind fun _ =>
(F_X7_step a0 t30).bind fun t32 =>
some t32)
else (
if t3.1 = (-1 : Int32) then (
(xck t3.2 a0 7).bind fun _ =>
(F_X7_atSign a0 (40 : Int32) t3.2).bind fun t6 =>
if t6.1 = 0 then (
(xck t6.2 a0 7).bind fun _ =>
(F_X7_atWord a0 20 t6.2).bind fun t8 =>
if t8.1 = 0 then (
(xck t8.2 a0 7).bind fun _ =>
(F_X7_fail a0 (2 : Int32) t8.2).bind fun t10 =>
some t10)
else (
(xck t8.2 a0 7).bind fun _ =>
(F_X7_goesDeeper a0 a1 t8.2).bind fun t12 =>
if t12.1 = 0 then (
some t12.2)
else (
(xck t12.2 a0 7).bind fun _ =>
(rc 2 a0 (a1 + (1 : Int32)) t12.2).bind fun t14 =>
some t14)))
else (
(xck t6.2 a0 7).bind fun _ =>
(F_X7_goesDeeper a0 a1 t6.2).bind fun t16 =>
if t16.1 = 0 then (
some t16.2)
else (
(xck t16.2 a0 7).bind fun _ =>
(rc 4 a0 (a1 + (1 : Int32)) t16.2).bind fun t18 =>
(xck t18 a0 7).bind fun _ =>
(F_X7_expectSign a0 (41 : Int32) t18).bind fun t20 =>
some t20)))
else (
(xgP t3.2 a0 7 0).bind fun t21 =>
(xck t3.2 t21 3).bind fun _ =>
(F_X3_emit t21 ((1010 : Int32) + t3.1) t3.2).bind fun t23 =>
(xck t23 a0 7).bind fun _ =>
(F_X7_step a0 t23).bind fun t25 =>
some t25)))
else (
some M)
def F_X7_readBoth_56 (rc : Nat → Nat → Int32 → xM → Option (xM)) (M : xM) : Option (xM) :=
some M
def F_X7_readBoth_7b (rc : Nat → Nat → Int32 → xM → Option (xM)) (v0 : Nat) (v1 : Int32) : (Int32 × xM) → Option ((Int32 × xM) ⊕ (xM)) := fun ⟨v2, M⟩ =>
if (900 : Int32) ≤ v2 then (
(F_X7_readBoth_56 rc M).map Sum.inr)
else (
(xgI M v0 7 2).bind fun t3 =>
if t3 = 0 then (
(xck M v0 7).bind fun _ =>
(F_X7_atWord v0 22 M).bind fun t5 =>
if t5.1 = 0 then (
(F_X7_readBoth_56 rc t5.2).map Sum.inr)
else (
(xck t5.2 v0 7).bind fun _ =>
(F_X7_step v0 t5.2).bind fun t7 =>
(xck t7 v0 7).bind fun _ =>
(rc 7 v0 v1 t7).bind fun t9 =>
(xgP t9 v0 7 0).bind fun t10 =>
(xck t9 t10 3).bind fun _ =>
(F_X3_emit t10 (1006 : Int32) t9).bind fun t12 =>
some (.inl ((v2 + 1), t12))))
else (
(F_X7_readBoth_56 rc M).map Sum.inr))
def F_X7_readBoth_7 (rc : Nat → Nat → Int32 → xM → Option (xM)) (v0 : Nat) (v1 : Int32) (v2 : Int32) (M : xM) : Option (xM) := xit (F_X7_readBoth_7b rc v0 v1) xFU (v2, M)
def F_X7_readBoth (rc : Nat → Nat → Int32 → xM → Option (xM)) (a0 : Nat) (a1 : Int32) (M : xM) : Option (xM) :=
(xck M a0 7).bind fun _ =>
(rc 7 a0 a1 M).bind fun t2 =>
F_X7_readBoth_7 rc a0 a1 (0 : Int32) t2
def F_X7_readChoice (rc : Nat → Nat → Int32 → xM → Option (xM)) (a0 : Nat) (a1 : Int32) (M : xM) : Option (xM) :=
(xck M a0 7).bind fun _ =>
(rc 6 a0 a1 M).bind fun t2 =>
(xck t2 a0 7).bind fun _ =>
(F_X7_expectWord a0 24 t2).bind fun t4 =>
(xck t4 a0 7).bind fun _ =>
(rc 4 a0 a1 t4).bind fun t6 =>
(xck t6 a0 7).bind fun _ =>
(F_X7_expectWord a0 25 t6).bind fun t8 =>
(xck t8 a0 7).bind fun _ =>
(rc 4 a0 a1 t8).bind fun t10 =>
(xck t10 a0 7).bind fun _ =>
(F_X7_expectWord a0 26 t10).bind fun t12 =>
(xgP t12 a0 7 0).bind fun t13 =>
(xck t12 t13 3).bind fun _ =>
(F_X3_emit t13 (1009 : Int32) t12).bind fun t15 =>
some t15
def F_X7_readComparison_55 (rc : Nat → Nat → Int32 → xM → Option (xM)) (v0 : Nat) (v1 : Int32) (v2 : Int32) (M : xM) : Option (xM) :=
(xgI M v0 7 2).bind fun t11 =>
if t11 = 0 then (
(xck M v0 7).bind fun _ =>
(F_X7_step v0 M).bind fun t13 =>
(xck t13 v0 7).bind fun _ =>
(rc 4 v0 v1 t13).bind fun t15 =>
(xgP t15 v0 7 0).bind fun t16 =>
(xck t15 t16 3).bind fun _ =>
(F_X3_emit t16 v2 t15).bind fun t18 =>
some t18)
else (
some M)
def F_X7_readComparison (rc : Nat → Nat → Int32 → xM → Option (xM)) (a0 : Nat) (a1 : Int32) (M : xM) : Option (xM) :=
(xck M a0 7).bind fun _ =>
(rc 4 a0 a1 M).bind fun t2 =>
(xck t2 a0 7).bind fun _ =>
(F_X7_atSign a0 (60 : Int32) t2).bind fun t4 =>
if t4.1 = 0 then (
(xck t4.2 a0 7).bind fun _ =>
(F_X7_atSign a0 (62 : Int32) t4.2).bind fun t6 =>
if t6.1 = 0 then (
(xck t6.2 a0 7).bind fun _ =>
(F_X7_atSign a0 (61 : Int32) t6.2).bind fun t8 =>
if t8.1 = 0 then (
(xck t8.2 a0 7).bind fun _ =>
(F_X7_fail a0 (2 : Int32) t8.2).bind fun t10 =>
F_X7_readComparison_55 rc a0 a1 (1003 : Int32) t10)
else (
F_X7_readComparison_55 rc a0 a1 (1003 : Int32) t8.2))
else (
F_X7_readComparison_55 rc a0 a1 (1005 : Int32) t6.2))
else (
F_X7_readComparison_55 rc a0 a1 (1004 : Int32) t4.2)
def F_X7_readSum_57 (rc : Nat → Nat → Int32 → xM → Option (xM)) (v0 : Nat) (v1 : Int32) (v2 : Int32) (s0 : Int32) (M : xM) : Option ((Int32 × xM) ⊕ (xM)) :=
(xck M v0 7).bind fun _ =>
(F_X7_step v0 M).bind fun t11 =>
(xck t11 v0 7).bind fun _ =>
(rc 5 v0 v1 t11).bind fun t13 =>
(xgP t13 v0 7 0).bind fun t14 =>
(xck t13 t14 3).bind fun _ =>
(F_X3_emit t14 s0 t13).bind fun t16 =>
some (.inl ((v2 + 1), t16))
def F_X7_readSum_39 (rc : Nat → Nat → Int32 → xM → Option (xM)) (v0 : Nat) (v1 : Int32) (v2 : Int32) (M : xM) : Option ((Int32 × xM) ⊕ (xM)) :=
(xck M v0 7).bind fun _ =>
(F_X7_atSign v0 (43 : Int32) M).bind fun t9 =>
if t9.1 = 0 then (
F_X7_readSum_57 rc v0 v1 v2 (1001 : Int32) t9.2)
else (
F_X7_readSum_57 rc v0 v1 v2 (1000 : Int32) t9.2)
def F_X7_readSum_81 (rc : Nat → Nat → Int32 → xM → Option (xM)) (M : xM) : Option (xM) :=
some M
def F_X7_readSum_7b (rc : Nat → Nat → Int32 → xM → Option (xM)) (v0 : Nat) (v1 : Int32) : (Int32 × xM) → Option ((Int32 × xM) ⊕ (xM)) := fun ⟨v2, M⟩ =>
if (900 : Int32) ≤ v2 then (
(F_X7_readSum_81 rc M).map Sum.inr)
else (
(xgI M v0 7 2).bind fun t3 =>
if t3 = 0 then (
(xck M v0 7).bind fun _ =>
(F_X7_atSign v0 (43 : Int32) M).bind fun t5 =>
if t5.1 = 0 then (
(xck t5.2 v0 7).bind fun _ =>
(F_X7_atSign v0 (45 : Int32) t5.2).bind fun t7 =>
if t7.1 = 0 then (
(F_X7_readSum_81 rc t7.2).map Sum.inr)
else (
F_X7_readSum_39 rc v0 v1 v2 t7.2))
else (
F_X7_readSum_39 rc v0 v1 v2 t5.2))
else (
(F_X7_readSum_81 rc M).map Sum.inr))
def F_X7_readSum_7 (rc : Nat → Nat → Int32 → xM → Option (xM)) (v0 : Nat) (v1 : Int32) (v2 : Int32) (M : xM) : Option (xM) := xit (F_X7_readSum_7b rc v0 v1) xFU (v2, M)
def F_X7_readSum (rc : Nat → Nat → Int32 → xM → Option (xM)) (a0 : Nat) (a1 : Int32) (M : xM) : Option (xM) :=
(xck M a0 7).bind fun _ =>
(rc 5 a0 a1 M).bind fun t2 =>
F_X7_readSum_7 rc a0 a1 (0 : Int32) t2
def F_X7_readTerm_55 (rc : Nat → Nat → Int32 → xM → Option (xM)) (M : xM) : Option (xM) :=
some M
def F_X7_readTerm_7b (rc : Nat → Nat → Int32 → xM → Option (xM)) (v0 : Nat) (v1 : Int32) : (Int32 × xM) → Option ((Int32 × xM) ⊕ (xM)) := fun ⟨v2, M⟩ =>
if (900 : Int32) ≤ v2 then (
(F_X7_readTerm_55 rc M).map Sum.inr)
else (
(xgI M v0 7 2).bind fun t3 =>
if t3 = 0 then (
(xck M v0 7).bind fun _ =>
(F_X7_atSign v0 (42 : Int32) M).bind fun t5 =>
if t5.1 = 0 then (
(F_X7_readTerm_55 rc t5.2).map Sum.inr)
else (
(xck t5.2 v0 7).bind fun _ =>
(F_X7_step v0 t5.2).bind fun t7 =>
(xck t7 v0 7).bind fun _ =>
(rc 0 v0 v1 t7).bind fun t9 =>
(xgP t9 v0 7 0).bind fun t10 =>
(xck t9 t10 3).bind fun _ =>
(F_X3_emit t10 (1002 : Int32) t9).bind fun t12 =>
some (.inl ((v2 + 1), t12))))
else (
(F_X7_readTerm_55 rc M).map Sum.inr))
def F_X7_readTerm_7 (rc : Nat → Nat → Int32 → xM → Option (xM)) (v0 : Nat) (v1 : Int32) (v2 : Int32) (M : xM) : Option (xM) := xit (F_X7_readTerm_7b rc v0 v1) xFU (v2, M)
def F_X7_readTerm (rc : Nat → Nat → Int32 → xM → Option (xM)) (a0 : Nat) (a1 : Int32) (M : xM) : Option (xM) :=
(xck M a0 7).bind fun _ =>
(rc 0 a0 a1 M).bind fun t2 =>
F_X7_readTerm_7 rc a0 a1 (0 : Int32) t2
def F_X7_readTruth_56 (rc : Nat → Nat → Int32 → xM → Option (xM)) (M : xM) : Option (xM) :=
some M
def F_X7_readTruth_7b (rc : Nat → Nat → Int32 → xM → Option (xM)) (v0 : Nat) (v1 : Int32) : (Int32 × xM) → Option ((Int32 × xM) ⊕ (xM)) := fun ⟨v2, M⟩ =>
if (900 : Int32) ≤ v2 then (
(F_X7_readTruth_56 rc M).map Sum.inr)
else (
(xgI M v0 7 2).bind fun t3 =>
if t3 = 0 then (
(xck M v0 7).bind fun _ =>
(F_X7_atWord v0 23 M).bind fun t5 =>
if t5.1 = 0 then (
(F_X7_readTruth_56 rc t5.2).map Sum.inr)
else (
(xck t5.2 v0 7).bind fun _ =>
(F_X7_step v0 t5.2).bind fun t7 =>
(xck t7 v0 7).bind fun _ =>
(rc 1 v0 v1 t7).bind fun t9 =>
(xgP t9 v0 7 0).bind fun t10 =>
(xck t9 t10 3).bind fun _ =>
(F_X3_emit t10 (1007 : Int32) t9).bind fun t12 =>
some (.inl ((v2 + 1), t12))))
else (
(F_X7_readTruth_56 rc M).map Sum.inr))
def F_X7_readTruth_7 (rc : Nat → Nat → Int32 → xM → Option (xM)) (v0 : Nat) (v1 : Int32) (v2 : Int32) (M : xM) : Option (xM) := xit (F_X7_readTruth_7b rc v0 v1) xFU (v2, M)
def F_X7_readTruth (rc : Nat → Nat → Int32 → xM → Option (xM)) (a0 : Nat) (a1 : Int32) (M : xM) : Option (xM) :=
(xck M a0 7).bind fun _ =>
(rc 1 a0 a1 M).bind fun t2 =>
F_X7_readTruth_7 rc a0 a1 (0 : Int32) t2
def F_X7_readUnit (rc : Nat → Nat → Int32 → xM → Option (xM)) (a0 : Nat) (a1 : Int32) (M : xM) : Option (xM) :=
(xgI M a0 7 2).bind fun t1 =>
if t1 = 0 then (
(xck M a0 7).bind fun _ =>
(F_X7_atWord a0 21 M).bind fun t3 =>
if t3.1 = 0 then (
(xck t3.2 a0 7).bind fun _ =>
(F_X7_atSign a0 (91 : Int32) t3.2).bind fun t5 =>
if t5.1 = 0 then (
(xck t5.2 a0 7).bind fun _ =>
(rc 3 a0 a1 t5.2).bind fun t7 =>
some t7)
else (
(xck t5.2 a0 7).bind fun _ =>
(F_X7_goesDeeper a0 a1 t5.2).bind fun t9 =>
if t9.1 = 0 then (
some t9.2)
else (
(xck t9.2 a0 7).bind fun _ =>
(rc 6 a0 (a1 + (1 : Int32)) t9.2).bind fun t11 =>
(xck t11 a0 7).bind fun _ =>
(F_X7_expectSign a0 (93 : Int32) t11).bind fun t13 =>
some t13)))
else (
(xck t3.2 a0 7).bind fun _ =>
(F_X7_goesDeeper a0 a1 t3.2).bind fun t15 =>
if t15.1 = 0 then (
some t15.2)
else (
(xck t15.2 a0 7).bind fun _ =>
(rc 7 a0 (a1 + (1 : Int32)) t15.2).bind fun t17 =>
(xgP t17 a0 7 0).bind fun t18 =>
(xck t17 t18 3).bind fun _ =>
(F_X3_emit t18 (1008 : Int32) t17).bind fun t20 =>
some t20)))
else (
some M)
def R_X7_readAtom : Nat → Nat → Nat → Int32 → xM → Option (xM)
  | 0 => fun _ _ _ _ => none
  | n + 1 => fun q => match q with
    | 0 => F_X7_readAtom (R_X7_readAtom n)
    | 1 => F_X7_readBoth (R_X7_readAtom n)
    | 2 => F_X7_readChoice (R_X7_readAtom n)
    | 3 => F_X7_readComparison (R_X7_readAtom n)
    | 4 => F_X7_readSum (R_X7_readAtom n)
    | 5 => F_X7_readTerm (R_X7_readAtom n)
    | 6 => F_X7_readTruth (R_X7_readAtom n)
    | _ => F_X7_readUnit (R_X7_readAtom n)
def Fx_X7_readAtom (a0 : Nat) (a1 : Int32) (M : xM) : Option (xM) := R_X7_readAtom 60 0 a0 a1 M
def Fx_X7_readBoth (a0 : Nat) (a1 : Int32) (M : xM) : Option (xM) := R_X7_readAtom 60 1 a0 a1 M
def Fx_X7_readChoice (a0 : Nat) (a1 : Int32) (M : xM) : Option (xM) := R_X7_readAtom 60 2 a0 a1 M
def Fx_X7_readComparison (a0 : Nat) (a1 : Int32) (M : xM) : Option (xM) := R_X7_readAtom 60 3 a0 a1 M
def Fx_X7_readSum (a0 : Nat) (a1 : Int32) (M : xM) : Option (xM) := R_X7_readAtom 60 4 a0 a1 M
def Fx_X7_readTerm (a0 : Nat) (a1 : Int32) (M : xM) : Option (xM) := R_X7_readAtom 60 5 a0 a1 M
def Fx_X7_readTruth (a0 : Nat) (a1 : Int32) (M : xM) : Option (xM) := R_X7_readAtom 60 6 a0 a1 M
def Fx_X7_readUnit (a0 : Nat) (a1 : Int32) (M : xM) : Option (xM) := R_X7_readAtom 60 7 a0 a1 M
set_option maxRecDepth 100000 in
set_option maxHeartbeats 4000000 in
theorem To_X7_readAtom (l : Launch) {dd : Nat} (hdd : 7 ≤ dd) {rc : Nat → Nat → Int32 → xM → Option (xM)} (hrc0 : ∀ (κ : xQ) (a0 : Nat) (a1 : Int32) (M mo : xM), rc 0 a0 a1 M = some mo → xC l yX7_readAtom cX7_readAtom 3 none dd 0 0 κ [.ref (κ.1 + a0), .int a1] M none mo) (hrc1 : ∀ (κ : xQ) (a0 : Nat) (a1 : Int32) (M mo : xM), rc 1 a0 a1 M = some mo → xC l yX7_readBoth cX7_readBoth 3 none dd 0 0 κ [.ref (κ.1 + a0), .int a1] M none mo) (hrc2 : ∀ (κ : xQ) (a0 : Nat) (a1 : Int32) (M mo : xM), rc 2 a0 a1 M = some mo → xC l yX7_readChoice cX7_readChoice 2 none dd 0 0 κ [.ref (κ.1 + a0), .int a1] M none mo) (hrc3 : ∀ (κ : xQ) (a0 : Nat) (a1 : Int32) (M mo : xM), rc 3 a0 a1 M = some mo → xC l yX7_readComparison cX7_readComparison 3 none dd 0 0 κ [.ref (κ.1 + a0), .int a1] M none mo) (hrc4 : ∀ (κ : xQ) (a0 : Nat) (a1 : Int32) (M mo : xM), rc 4 a0 a1 M = some mo → xC l yX7_readSum cX7_readSum 4 none dd 0 0 κ [.ref (κ.1 + a0), .int a1] M none mo) (hrc5 : ∀ (κ : xQ) (a0 : Nat) (a1 : Int32) (M mo : xM), rc 5 a0 a1 M = some mo → xC l yX7_readTerm cX7_readTerm 3 none dd 0 0 κ [.ref (κ.1 + a0), .int a1] M none mo) (hrc6 : ∀ (κ : xQ) (a0 : Nat) (a1 : Int32) (M mo : xM), rc 6 a0 a1 M = some mo → xC l yX7_readTruth cX7_readTruth 3 none dd 0 0 κ [.ref (κ.1 + a0), .int a1] M none mo) (hrc7 : ∀ (κ : xQ) (a0 : Nat) (a1 : Int32) (M mo : xM), rc 7 a0 a1 M = some mo → xC l yX7_readUnit cX7_readUnit 2 none dd 0 0 κ [.ref (κ.1 + a0), .int a1] M none mo) (κ : xQ) (a0 : Nat) (a1 : Int32) (M : xM) (mo : xM) (h : F_X7_readAtom rc a0 a1 M = some mo) : xC l yX7_readAtom cX7_readAtom 3 none (dd + 1) 0 0 κ [.ref (κ.1 + a0), .int a1] M none mo := by
  refine xC_of rfl (Nat.le_of_ble_eq_true rfl) fun p e s m args below meth c X hr hlk hnm H locs ls O hl => ?_
  have X : xX p s m args c cX7_readAtom 3 RX7 κ := X
  have hl : lv_has ls 3 [(0, .ref (κ.1 + a0)), (1, .int a1)] := hl
  have hx := X.1
  have hb := X.2.1
  obtain ⟨x, hx0⟩ : ∃ x, mo = x := ⟨_, rfl⟩
  rw [hx0] at h
  have hK : x = mo := hx0.symm
  unfold F_X7_readAtom at h
  refine lv_aload_n hx hb dX7_readAtom_0 rfl (lv_at hl 0 rfl) ?_
  obtain ⟨t1, ht1, h⟩ := Option.bind_eq_some_iff.mp h
  refine xr_getI X O ht1 fl_X7_48 (Or.inl rfl) dX7_readAtom_1 ?_
  refine lv_if_eq (tgt := 8) hx hb dX7_readAtom_4 (by decide) (fun hc4 => ?_) (fun hc4 => ?_)
  · rw [if_pos hc4] at h
    refine lv_aload_n hx hb dX7_readAtom_8 rfl (lv_at hl 0 rfl) ?_
    obtain ⟨_, hut2, h⟩ := Option.bind_eq_some_iff.mp h
    obtain ⟨t3, ht3, h⟩ := Option.bind_eq_some_iff.mp h
    refine xr_callV (rest := []) X O (T_X7_nameHere l κ a0 M _ _ ht3) lk_X7_249 hut2 (by omega) rfl hl.1 rfl (Nat.le_of_ble_eq_true rfl) dX7_readAtom_9 ⟨Nat.le_of_ble_eq_true rfl, Nat.le_of_ble_eq_true rfl⟩ (fun H locs O => ?_)
    refine W.eq (g2 := F0 m 12 ls [.int t3.1]) rfl ?_
    refine lv_istore_n (lv' := [(2, .int t3.1), (0, .ref (κ.1 + a0)), (1, .int a1)]) hx hb dX7_readAtom_12 rfl hl (by decide) rfl (fun ls hl => ?_)
    refine lv_aload_n hx hb dX7_readAtom_13 rfl (lv_at hl 1 rfl) ?_
    obtain ⟨t4, ht4, h⟩ := Option.bind_eq_some_iff.mp h
    refine xr_getI X O ht4 fl_X7_64 (Or.inl rfl) dX7_readAtom_14 ?_
    refine lv_iconst (v := (3 : Int32)) hx hb dX7_readAtom_17 (by decide) ?_
    refine lv_icmp_ne (tgt := 39) hx hb dX7_readAtom_18 (by decide) (fun hc18 => ?_) (fun hc18 => ?_)
    · rw [if_neg hc18] at h
      refine lv_iload_n hx hb dX7_readAtom_39 rfl (lv_at hl 0 rfl) ?_
      refine lv_iconst (v := (-1 : Int32)) hx hb dX7_readAtom_40 (by decide) ?_
      refine lv_icmp_eq (tgt := 63) hx hb dX7_readAtom_41 (by decide) (fun hc41 => ?_) (fun hc41 => ?_)
      · rw [if_pos hc41] at h
        refine lv_aload_n hx hb dX7_readAtom_63 rfl (lv_at hl 1 rfl) ?_
        refine lv_bipush (v := (40 : Int32)) hx hb dX7_readAtom_64 (by decide) ?_
        obtain ⟨_, hut5, h⟩ := Option.bind_eq_some_iff.mp h
        obtain ⟨t6, ht6, h⟩ := Option.bind_eq_some_iff.mp h
        refine xr_callV (rest := []) X O (T_X7_atSign l κ a0 (40 : Int32) t3.2 _ _ ht6) lk_X7_107 hut5 (by omega) rfl hl.1 rfl (Nat.le_of_ble_eq_true rfl) dX7_readAtom_66 ⟨Nat.le_of_ble_eq_true rfl, Nat.le_of_ble_eq_true rfl⟩ (fun H locs O => ?_)
        refine W.eq (g2 := F0 m 69 ls [.int t6.1]) rfl ?_
        refine lv_if_eq (tgt := 96) hx hb dX7_readAtom_69 (by decide) (fun hc69 => ?_) (fun hc69 => ?_)
        · rw [if_pos hc69] at h
          refine lv_aload_n hx hb dX7_readAtom_96 rfl (lv_at hl 1 rfl) ?_
          refine xr_ldcwS hx hb X.2.2.2.1 (X.2.2.2.2.2.2.1 20 _ rfl).1 dX7_readAtom_97 ?_
          obtain ⟨_, hut7, h⟩ := Option.bind_eq_some_iff.mp h
          obtain ⟨t8, ht8, h⟩ := Option.bind_eq_some_iff.mp h
          refine xr_callV (rest := []) X O (T_X7_atWord l κ a0 20 t6.2 _ _ ht8) lk_X7_99 hut7 (by omega) rfl hl.1 rfl (Nat.le_of_ble_eq_true rfl) dX7_readAtom_100 ⟨Nat.le_of_ble_eq_true rfl, Nat.le_of_ble_eq_true rfl⟩ (fun H locs O => ?_)
          refine W.eq (g2 := F0 m 103 ls [.int t8.1]) rfl ?_
          refine lv_if_eq (tgt := 124) hx hb dX7_readAtom_103 (by decide) (fun hc103 => ?_) (fun hc103 => ?_)
          · rw [if_pos hc103] at h
            refine lv_aload_n hx hb dX7_readAtom_124 rfl (lv_at hl 1 rfl) ?_
            refine lv_iconst (v := (2 : Int32)) hx hb dX7_readAtom_125 (by decide) ?_
            obtain ⟨_, hut9, h⟩ := Option.bind_eq_some_iff.mp h
            obtain ⟨t10, ht10, h⟩ := Option.bind_eq_some_iff.mp h
            refine xr_callV (rest := []) X O (T_X7_fail l κ a0 (2 : Int32) t8.2 _ ht10) lk_X7_103 hut9 (by omega) rfl hl.1 rfl (Nat.le_of_ble_eq_true rfl) dX7_readAtom_126 ⟨Nat.le_of_ble_eq_true rfl, Nat.le_of_ble_eq_true rfl⟩ (fun H locs O => ?_)
            refine W.eq (g2 := F0 m 129 ls []) rfl ?_
            rw [← Option.some.inj h] at hK
            have hK : t10 = mo := hK
            rw [hK] at O
            exact xr_vret X hr hlk O dX7_readAtom_129
          rw [if_neg hc103] at h
          refine lv_aload_n hx hb dX7_readAtom_106 rfl (lv_at hl 1 rfl) ?_
          refine lv_iload_n hx hb dX7_readAtom_107 rfl (lv_at hl 2 rfl) ?_
          obtain ⟨_, hut11, h⟩ := Option.bind_eq_some_iff.mp h
          obtain ⟨t12, ht12, h⟩ := Option.bind_eq_some_iff.mp h
          refine xr_callV (rest := []) X O (T_X7_goesDeeper l κ a0 a1 t8.2 _ _ ht12) lk_X7_252 hut11 (by omega) rfl hl.1 rfl (Nat.le_of_ble_eq_true rfl) dX7_readAtom_108 ⟨Nat.le_of_ble_eq_true rfl, Nat.le_of_ble_eq_true rfl⟩ (fun H locs O => ?_)
          refine W.eq (g2 := F0 m 111 ls [.int t12.1]) rfl ?_
          refine lv_if_eq (tgt := 129) hx hb dX7_readAtom_111 (by decide) (fun hc111 => ?_) (fun hc111 => ?_)
          · rw [if_pos hc111] at h
            rw [← Option.some.inj h] at hK
            have hK : t12.2 = mo := hK
            rw [hK] at O
            exact xr_vret X hr hlk O dX7_readAtom_129
          rw [if_neg hc111] at h
          refine lv_aload_n hx hb dX7_readAtom_114 rfl (lv_at hl 1 rfl) ?_
          refine lv_iload_n hx hb dX7_readAtom_115 rfl (lv_at hl 2 rfl) ?_
          refine lv_iconst (v := (1 : Int32)) hx hb dX7_readAtom_116 (by decide) ?_
          refine lv_iadd hx hb dX7_readAtom_117 ?_
          obtain ⟨_, hut13, h⟩ := Option.bind_eq_some_iff.mp h
          obtain ⟨t14, ht14, h⟩ := Option.bind_eq_some_iff.mp h
          refine xr_callV (rest := []) X O (hrc2 κ a0 (a1 + (1 : Int32)) t12.2 _ ht14) lk_X7_258 hut13 (Nat.le_refl _) rfl hl.1 rfl (Nat.le_of_ble_eq_true rfl) dX7_readAtom_118 ⟨Nat.le_of_ble_eq_true rfl, Nat.le_of_ble_eq_true rfl⟩ (fun H locs O => ?_)
          refine W.eq (g2 := F0 m 121 ls []) rfl ?_
          refine lv_goto (tgt := 129) hx hb dX7_readAtom_121 (by decide) ?_
          rw [← Option.some.inj h] at hK
          have hK : t14 = mo := hK
          rw [hK] at O
          exact xr_vret X hr hlk O dX7_readAtom_129
        rw [if_neg hc69] at h
        refine lv_aload_n hx hb dX7_readAtom_72 rfl (lv_at hl 1 rfl) ?_
        refine lv_iload_n hx hb dX7_readAtom_73 rfl (lv_at hl 2 rfl) ?_
        obtain ⟨_, hut15, h⟩ := Option.bind_eq_some_iff.mp h
        obtain ⟨t16, ht16, h⟩ := Option.bind_eq_some_iff.mp h
        refine xr_callV (rest := []) X O (T_X7_goesDeeper l κ a0 a1 t6.2 _ _ ht16) lk_X7_252 hut15 (by omega) rfl hl.1 rfl (Nat.le_of_ble_eq_true rfl) dX7_readAtom_74 ⟨Nat.le_of_ble_eq_true rfl, Nat.le_of_ble_eq_true rfl⟩ (fun H locs O => ?_)
        refine W.eq (g2 := F0 m 77 ls [.int t16.1]) rfl ?_
        refine lv_if_eq (tgt := 129) hx hb dX7_readAtom_77 (by decide) (fun hc77 => ?_) (fun hc77 => ?_)
        · rw [if_pos hc77] at h
          rw [← Option.some.inj h] at hK
          have hK : t16.2 = mo := hK
          rw [hK] at O
          exact xr_vret X hr hlk O dX7_readAtom_129
        rw [if_neg hc77] at h
        refine lv_aload_n hx hb dX7_readAtom_80 rfl (lv_at hl 1 rfl) ?_
        refine lv_iload_n hx hb dX7_readAtom_81 rfl (lv_at hl 2 rfl) ?_
        refine lv_iconst (v := (1 : Int32)) hx hb dX7_readAtom_82 (by decide) ?_
        refine lv_iadd hx hb dX7_readAtom_83 ?_
        obtain ⟨_, hut17, h⟩ := Option.bind_eq_some_iff.mp h
        obtain ⟨t18, ht18, h⟩ := Option.bind_eq_some_iff.mp h
        refine xr_callV (rest := []) X O (hrc4 κ a0 (a1 + (1 : Int32)) t16.2 _ ht18) lk_X7_223 hut17 (Nat.le_refl _) rfl hl.1 rfl (Nat.le_of_ble_eq_true rfl) dX7_readAtom_84 ⟨Nat.le_of_ble_eq_true rfl, Nat.le_of_ble_eq_true rfl⟩ (fun H locs O => ?_)
        refine W.eq (g2 := F0 m 87 ls []) rfl ?_
        refine lv_aload_n hx hb dX7_readAtom_87 rfl (lv_at hl 1 rfl) ?_
        refine lv_bipush (v := (41 : Int32)) hx hb dX7_readAtom_88 (by decide) ?_
        obtain ⟨_, hut19, h⟩ := Option.bind_eq_some_iff.mp h
        obtain ⟨t20, ht20, h⟩ := Option.bind_eq_some_iff.mp h
        refine xr_callV (rest := []) X O (T_X7_expectSign l κ a0 (41 : Int32) t18 _ ht20) lk_X7_70 hut19 (by omega) rfl hl.1 rfl (Nat.le_of_ble_eq_true rfl) dX7_readAtom_90 ⟨Nat.le_of_ble_eq_true rfl, Nat.le_of_ble_eq_true rfl⟩ (fun H locs O => ?_)
        refine W.eq (g2 := F0 m 93 ls []) rfl ?_
        refine lv_goto (tgt := 129) hx hb dX7_readAtom_93 (by decide) ?_
        rw [← Option.some.inj h] at hK
        have hK : t20 = mo := hK
        rw [hK] at O
        exact xr_vret X hr hlk O dX7_readAtom_129
      rw [if_neg hc41] at h
      refine lv_aload_n hx hb dX7_readAtom_44 rfl (lv_at hl 1 rfl) ?_
      obtain ⟨t21, ht21, h⟩ := Option.bind_eq_some_iff.mp h
      refine xr_getP X O ht21 fl_X7_22 dX7_readAtom_45 ?_
      refine lv_sipush (v := (1010 : Int32)) hx hb dX7_readAtom_48 (by decide) ?_
      refine lv_iload_n hx hb dX7_readAtom_51 rfl (lv_at hl 0 rfl) ?_
      refine lv_iadd hx hb dX7_readAtom_52 ?_
      obtain ⟨_, hut22, h⟩ := Option.bind_eq_some_iff.mp h
      obtain ⟨t23, ht23, h⟩ := Option.bind_eq_some_iff.mp h
      refine xr_callV (rest := []) X O (T_X3_emit l κ t21 ((1010 : Int32) + t3.1) t3.2 _ ht23) lk_X7_243 hut22 (by omega) rfl hl.1 rfl (Nat.le_of_ble_eq_true rfl) dX7_readAtom_53 ⟨Nat.le_of_ble_eq_true rfl, Nat.le_of_ble_eq_true rfl⟩ (fun H locs O => ?_)
      refine W.eq (g2 := F0 m 56 ls []) rfl ?_
      refine lv_aload_n hx hb dX7_readAtom_56 rfl (lv_at hl 1 rfl) ?_
      obtain ⟨_, hut24, h⟩ := Option.bind_eq_some_iff.mp h
      obtain ⟨t25, ht25, h⟩ := Option.bind_eq_some_iff.mp h
      refine xr_callV (rest := []) X O (T_X7_step l κ a0 t23 _ ht25) lk_X7_58 hut24 (by omega) rfl hl.1 rfl (Nat.le_of_ble_eq_true rfl) dX7_readAtom_57 ⟨Nat.le_of_ble_eq_true rfl, Nat.le_of_ble_eq_true rfl⟩ (fun H locs O => ?_)
      refine W.eq (g2 := F0 m 60 ls []) rfl ?_
      refine lv_goto (tgt := 129) hx hb dX7_readAtom_60 (by decide) ?_
      rw [← Option.some.inj h] at hK
      have hK : t25 = mo := hK
      rw [hK] at O
      exact xr_vret X hr hlk O dX7_readAtom_129
    rw [if_pos hc18] at h
    refine lv_aload_n hx hb dX7_readAtom_21 rfl (lv_at hl 1 rfl) ?_
    obtain ⟨t26, ht26, h⟩ := Option.bind_eq_some_iff.mp h
    refine xr_getP X O ht26 fl_X7_22 dX7_readAtom_22 ?_
    refine lv_aload_n hx hb dX7_readAtom_25 rfl (lv_at hl 1 rfl) ?_
    obtain ⟨_, hut27, h⟩ := Option.bind_eq_some_iff.mp h
    obtain ⟨t28, ht28, h⟩ := Option.bind_eq_some_iff.mp h
    refine xr_callV (rest := [.ref (κ.1 + t26)]) X O (T_X7_numberHere l κ a0 t3.2 _ _ ht28) lk_X7_111 hut27 (by omega) rfl hl.1 rfl (Nat.le_of_ble_eq_true rfl) dX7_readAtom_26 ⟨Nat.le_of_ble_eq_true rfl, Nat.le_of_ble_eq_true rfl⟩ (fun H locs O => ?_)
    refine W.eq (g2 := F0 m 29 ls [.int t28.1, .ref (κ.1 + t26)]) rfl ?_
    obtain ⟨_, hut29, h⟩ := Option.bind_eq_some_iff.mp h
    obtain ⟨t30, ht30, h⟩ := Option.bind_eq_some_iff.mp h
    refine xr_callV (rest := []) X O (T_X3_emit l κ t26 t28.1 t28.2 _ ht30) lk_X7_243 hut29 (by omega) rfl hl.1 rfl (Nat.le_of_ble_eq_true rfl) dX7_readAtom_29 ⟨Nat.le_of_ble_eq_true rfl, Nat.le_of_ble_eq_true rfl⟩ (fun H locs O => ?_)
    refine W.eq (g2 := F0 m 32 ls []) rfl ?_
    refine lv_aload_n hx hb dX7_readAtom_32 rfl (lv_at hl 1 rfl) ?_
    obtain ⟨_, hut31, h⟩ := Option.bind_eq_some_iff.mp h
    obtain ⟨t32, ht32, h⟩ := Option.bind_eq_some_iff.mp h
    refine xr_callV (rest := []) X O (T_X7_step l κ a0 t30 _ ht32) lk_X7_58 hut31 (by omega) rfl hl.1 rfl (Nat.le_of_ble_eq_true rfl) dX7_readAtom_33 ⟨Nat.le_of_ble_eq_true rfl, Nat.le_of_ble_eq_true rfl⟩ (fun H locs O => ?_)
    refine W.eq (g2 := F0 m 36 ls []) rfl ?_
    refine lv_goto (tgt := 129) hx hb dX7_readAtom_36 (by decide) ?_
    rw [← Option.some.inj h] at hK
    have hK : t32 = mo := hK
    rw [hK] at O
    exact xr_vret X hr hlk O dX7_readAtom_129
  rw [if_neg hc4] at h
  rw [← Option.some.inj h] at hK
  have hK : M = mo := hK
  rw [hK] at O
  exact xr_vret X hr hlk O dX7_readAtom_7
set_option maxRecDepth 100000 in
set_option maxHeartbeats 4000000 in
theorem F_X7_readBoth_56_ok {dd : Nat} (hdd : 7 ≤ dd) {rc : Nat → Nat → Int32 → xM → Option (xM)} (hrc0 : ∀ (κ : xQ) (a0 : Nat) (a1 : Int32) (M mo : xM), rc 0 a0 a1 M = some mo → xC l yX7_readAtom cX7_readAtom 3 none dd 0 0 κ [.ref (κ.1 + a0), .int a1] M none mo) (hrc1 : ∀ (κ : xQ) (a0 : Nat) (a1 : Int32) (M mo : xM), rc 1 a0 a1 M = some mo → xC l yX7_readBoth cX7_readBoth 3 none dd 0 0 κ [.ref (κ.1 + a0), .int a1] M none mo) (hrc2 : ∀ (κ : xQ) (a0 : Nat) (a1 : Int32) (M mo : xM), rc 2 a0 a1 M = some mo → xC l yX7_readChoice cX7_readChoice 2 none dd 0 0 κ [.ref (κ.1 + a0), .int a1] M none mo) (hrc3 : ∀ (κ : xQ) (a0 : Nat) (a1 : Int32) (M mo : xM), rc 3 a0 a1 M = some mo → xC l yX7_readComparison cX7_readComparison 3 none dd 0 0 κ [.ref (κ.1 + a0), .int a1] M none mo) (hrc4 : ∀ (κ : xQ) (a0 : Nat) (a1 : Int32) (M mo : xM), rc 4 a0 a1 M = some mo → xC l yX7_readSum cX7_readSum 4 none dd 0 0 κ [.ref (κ.1 + a0), .int a1] M none mo) (hrc5 : ∀ (κ : xQ) (a0 : Nat) (a1 : Int32) (M mo : xM), rc 5 a0 a1 M = some mo → xC l yX7_readTerm cX7_readTerm 3 none dd 0 0 κ [.ref (κ.1 + a0), .int a1] M none mo) (hrc6 : ∀ (κ : xQ) (a0 : Nat) (a1 : Int32) (M mo : xM), rc 6 a0 a1 M = some mo → xC l yX7_readTruth cX7_readTruth 3 none dd 0 0 κ [.ref (κ.1 + a0), .int a1] M none mo) (hrc7 : ∀ (κ : xQ) (a0 : Nat) (a1 : Int32) (M mo : xM), rc 7 a0 a1 M = some mo → xC l yX7_readUnit cX7_readUnit 2 none dd 0 0 κ [.ref (κ.1 + a0), .int a1] M none mo) (X : xX p s m args c cX7_readBoth 3 RX7 κ) (hr : meth.sig.returnType = none) (hlk : meth.locks = false) {mo : xM} (M : xM) (x : xM) (h : F_X7_readBoth_56 rc M = some x) (hK : (fun o => o = mo) x) (H : Heap) (locs : List Loc) (ls : Array Slot) (O : xO κ s M H locs) (hl : lv_has ls 3 []) : W p l e (xRm (dd + 1) 0 0) s m args below meth c H locs 0 0 (xQf below args s 0 0 κ none mo) (F0 m 56 ls []) := by
  unfold F_X7_readBoth_56 at h
  have hx := X.1
  have hb := X.2.1
  rw [← Option.some.inj h] at hK
  have hK : M = mo := hK
  rw [hK] at O
  exact xr_vret X hr hlk O dX7_readBoth_56
set_option maxRecDepth 100000 in
set_option maxHeartbeats 4000000 in
theorem F_X7_readBoth_7_bok {dd : Nat} (hdd : 7 ≤ dd) {rc : Nat → Nat → Int32 → xM → Option (xM)} (hrc0 : ∀ (κ : xQ) (a0 : Nat) (a1 : Int32) (M mo : xM), rc 0 a0 a1 M = some mo → xC l yX7_readAtom cX7_readAtom 3 none dd 0 0 κ [.ref (κ.1 + a0), .int a1] M none mo) (hrc1 : ∀ (κ : xQ) (a0 : Nat) (a1 : Int32) (M mo : xM), rc 1 a0 a1 M = some mo → xC l yX7_readBoth cX7_readBoth 3 none dd 0 0 κ [.ref (κ.1 + a0), .int a1] M none mo) (hrc2 : ∀ (κ : xQ) (a0 : Nat) (a1 : Int32) (M mo : xM), rc 2 a0 a1 M = some mo → xC l yX7_readChoice cX7_readChoice 2 none dd 0 0 κ [.ref (κ.1 + a0), .int a1] M none mo) (hrc3 : ∀ (κ : xQ) (a0 : Nat) (a1 : Int32) (M mo : xM), rc 3 a0 a1 M = some mo → xC l yX7_readComparison cX7_readComparison 3 none dd 0 0 κ [.ref (κ.1 + a0), .int a1] M none mo) (hrc4 : ∀ (κ : xQ) (a0 : Nat) (a1 : Int32) (M mo : xM), rc 4 a0 a1 M = some mo → xC l yX7_readSum cX7_readSum 4 none dd 0 0 κ [.ref (κ.1 + a0), .int a1] M none mo) (hrc5 : ∀ (κ : xQ) (a0 : Nat) (a1 : Int32) (M mo : xM), rc 5 a0 a1 M = some mo → xC l yX7_readTerm cX7_readTerm 3 none dd 0 0 κ [.ref (κ.1 + a0), .int a1] M none mo) (hrc6 : ∀ (κ : xQ) (a0 : Nat) (a1 : Int32) (M mo : xM), rc 6 a0 a1 M = some mo → xC l yX7_readTruth cX7_readTruth 3 none dd 0 0 κ [.ref (κ.1 + a0), .int a1] M none mo) (hrc7 : ∀ (κ : xQ) (a0 : Nat) (a1 : Int32) (M mo : xM), rc 7 a0 a1 M = some mo → xC l yX7_readUnit cX7_readUnit 2 none dd 0 0 κ [.ref (κ.1 + a0), .int a1] M none mo) (X : xX p s m args c cX7_readBoth 3 RX7 κ) (hr : meth.sig.returnType = none) (hlk : meth.locks = false) {mo : xM} (v0 : Nat) (v1 : Int32) (v2 : Int32) {W7 : Int32 × xM → Prop} (hW7 : ∀ (v2 : Int32) (M : xM), W7 (v2, M) → ∀ (H : Heap) (locs : List Loc) (ls : Array Slot), xO κ s M H locs → lv_has ls 3 [(0, .ref (κ.1 + v0)), (1, .int v1), (2, .int v2)] → W p l e (xRm (dd + 1) 0 0) s m args below meth c H locs 0 0 (xQf below args s 0 0 κ none mo) (F0 m 7 ls [])) (M : xM) (x : (Int32 × xM) ⊕ (xM)) (h : F_X7_readBoth_7b rc v0 v1 (v2, M) = some x) (hK : (xKl W7 (fun o => o = mo)) x) (H : Heap) (locs : List Loc) (ls : Array Slot) (O : xO κ s M H locs) (hl : lv_has ls 3 [(0, .ref (κ.1 + v0)), (1, .int v1), (2, .int v2)]) : W p l e (xRm (dd + 1) 0 0) s m args below meth c H locs 0 0 (xQf below args s 0 0 κ none mo) (F0 m 7 ls []) := by
  unfold F_X7_readBoth_7b at h
  dsimp only at h
  have hx := X.1
  have hb := X.2.1
  refine lv_iload_n hx hb dX7_readBoth_7 rfl (lv_at hl 2 rfl) ?_
  refine lv_sipush (v := (900 : Int32)) hx hb dX7_readBoth_8 (by decide) ?_
  refine lv_icmp_ge (tgt := 56) hx hb dX7_readBoth_11 (by decide) (fun hc11 => ?_) (fun hc11 => ?_)
  · rw [if_pos hc11] at h
    obtain ⟨_, hw0, ew0⟩ := Option.map_eq_some_iff.mp h
    rw [← ew0] at hK
    have h := hw0
    exact F_X7_readBoth_56_ok hdd hrc0 hrc1 hrc2 hrc3 hrc4 hrc5 hrc6 hrc7 X hr hlk  M _ h hK H locs ls O (lv_sub hl [] rfl)
  rw [if_neg hc11] at h
  refine lv_aload_n hx hb dX7_readBoth_14 rfl (lv_at hl 0 rfl) ?_
  obtain ⟨t3, ht3, h⟩ := Option.bind_eq_some_iff.mp h
  refine xr_getI X O ht3 fl_X7_48 (Or.inl rfl) dX7_readBoth_15 ?_
  refine lv_if_ne (tgt := 56) hx hb dX7_readBoth_18 (by decide) (fun hc18 => ?_) (fun hc18 => ?_)
  · rw [if_neg hc18] at h
    obtain ⟨_, hw0, ew0⟩ := Option.map_eq_some_iff.mp h
    rw [← ew0] at hK
    have h := hw0
    exact F_X7_readBoth_56_ok hdd hrc0 hrc1 hrc2 hrc3 hrc4 hrc5 hrc6 hrc7 X hr hlk  M _ h hK H locs ls O (lv_sub hl [] rfl)
  rw [if_pos hc18] at h
  refine lv_aload_n hx hb dX7_readBoth_21 rfl (lv_at hl 0 rfl) ?_
  refine xr_ldcwS hx hb X.2.2.2.1 (X.2.2.2.2.2.2.1 22 _ rfl).1 dX7_readBoth_22 ?_
  obtain ⟨_, hut4, h⟩ := Option.bind_eq_some_iff.mp h
  obtain ⟨t5, ht5, h⟩ := Option.bind_eq_some_iff.mp h
  refine xr_callV (rest := []) X O (T_X7_atWord l κ v0 22 M _ _ ht5) lk_X7_99 hut4 (by omega) rfl hl.1 rfl (Nat.le_of_ble_eq_true rfl) dX7_readBoth_25 ⟨Nat.le_of_ble_eq_true rfl, Nat.le_of_ble_eq_true rfl⟩ (fun H locs O => ?_)
  refine W.eq (g2 := F0 m 28 ls [.int t5.1]) rfl ?_
  refine lv_if_eq (tgt := 56) hx hb dX7_readBoth_28 (by decide) (fun hc28 => ?_) (fun hc28 => ?_)
  · rw [if_pos hc28] at h
    obtain ⟨_, hw0, ew0⟩ := Option.map_eq_some_iff.mp h
    rw [← ew0] at hK
    have h := hw0
    exact F_X7_readBoth_56_ok hdd hrc0 hrc1 hrc2 hrc3 hrc4 hrc5 hrc6 hrc7 X hr hlk  t5.2 _ h hK H locs ls O (lv_sub hl [] rfl)
  rw [if_neg hc28] at h
  refine lv_aload_n hx hb dX7_readBoth_31 rfl (lv_at hl 0 rfl) ?_
  obtain ⟨_, hut6, h⟩ := Option.bind_eq_some_iff.mp h
  obtain ⟨t7, ht7, h⟩ := Option.bind_eq_some_iff.mp h
  refine xr_callV (rest := []) X O (T_X7_step l κ v0 t5.2 _ ht7) lk_X7_58 hut6 (by omega) rfl hl.1 rfl (Nat.le_of_ble_eq_true rfl) dX7_readBoth_32 ⟨Nat.le_of_ble_eq_true rfl, Nat.le_of_ble_eq_true rfl⟩ (fun H locs O => ?_)
  refine W.eq (g2 := F0 m 35 ls []) rfl ?_
  refine lv_aload_n hx hb dX7_readBoth_35 rfl (lv_at hl 0 rfl) ?_
  refine lv_iload_n hx hb dX7_readBoth_36 rfl (lv_at hl 1 rfl) ?_
  obtain ⟨_, hut8, h⟩ := Option.bind_eq_some_iff.mp h
  obtain ⟨t9, ht9, h⟩ := Option.bind_eq_some_iff.mp h
  refine xr_callV (rest := []) X O (hrc7 κ v0 v1 t7 _ ht9) lk_X7_285 hut8 (Nat.le_refl _) rfl hl.1 rfl (Nat.le_of_ble_eq_true rfl) dX7_readBoth_37 ⟨Nat.le_of_ble_eq_true rfl, Nat.le_of_ble_eq_true rfl⟩ (fun H locs O => ?_)
  refine W.eq (g2 := F0 m 40 ls []) rfl ?_
  refine lv_aload_n hx hb dX7_readBoth_40 rfl (lv_at hl 0 rfl) ?_
  obtain ⟨t10, ht10, h⟩ := Option.bind_eq_some_iff.mp h
  refine xr_getP X O ht10 fl_X7_22 dX7_readBoth_41 ?_
  refine lv_sipush (v := (1006 : Int32)) hx hb dX7_readBoth_44 (by decide) ?_
  obtain ⟨_, hut11, h⟩ := Option.bind_eq_some_iff.mp h
  obtain ⟨t12, ht12, h⟩ := Option.bind_eq_some_iff.mp h
  refine xr_callV (rest := []) X O (T_X3_emit l κ t10 (1006 : Int32) t9 _ ht12) lk_X7_243 hut11 (by omega) rfl hl.1 rfl (Nat.le_of_ble_eq_true rfl) dX7_readBoth_47 ⟨Nat.le_of_ble_eq_true rfl, Nat.le_of_ble_eq_true rfl⟩ (fun H locs O => ?_)
  refine W.eq (g2 := F0 m 50 ls []) rfl ?_
  refine lv_iinc (v := (v2 + 1)) (lv' := [(2, .int (v2 + 1)), (0, .ref (κ.1 + v0)), (1, .int v1)]) hx hb dX7_readBoth_50 hl (k := 2) rfl rfl (by decide) rfl (fun ls hl => ?_)
  refine lv_goto (tgt := 7) hx hb dX7_readBoth_53 (by decide) ?_
  rw [← Option.some.inj h] at hK
  exact hW7 (v2 + 1) t12 hK H locs ls O (lv_sub hl [1, 2, 0] rfl)
set_option maxRecDepth 100000 in
set_option maxHeartbeats 4000000 in
theorem F_X7_readBoth_7_ok {dd : Nat} (hdd : 7 ≤ dd) {rc : Nat → Nat → Int32 → xM → Option (xM)} (hrc0 : ∀ (κ : xQ) (a0 : Nat) (a1 : Int32) (M mo : xM), rc 0 a0 a1 M = some mo → xC l yX7_readAtom cX7_readAtom 3 none dd 0 0 κ [.ref (κ.1 + a0), .int a1] M none mo) (hrc1 : ∀ (κ : xQ) (a0 : Nat) (a1 : Int32) (M mo : xM), rc 1 a0 a1 M = some mo → xC l yX7_readBoth cX7_readBoth 3 none dd 0 0 κ [.ref (κ.1 + a0), .int a1] M none mo) (hrc2 : ∀ (κ : xQ) (a0 : Nat) (a1 : Int32) (M mo : xM), rc 2 a0 a1 M = some mo → xC l yX7_readChoice cX7_readChoice 2 none dd 0 0 κ [.ref (κ.1 + a0), .int a1] M none mo) (hrc3 : ∀ (κ : xQ) (a0 : Nat) (a1 : Int32) (M mo : xM), rc 3 a0 a1 M = some mo → xC l yX7_readComparison cX7_readComparison 3 none dd 0 0 κ [.ref (κ.1 + a0), .int a1] M none mo) (hrc4 : ∀ (κ : xQ) (a0 : Nat) (a1 : Int32) (M mo : xM), rc 4 a0 a1 M = some mo → xC l yX7_readSum cX7_readSum 4 none dd 0 0 κ [.ref (κ.1 + a0), .int a1] M none mo) (hrc5 : ∀ (κ : xQ) (a0 : Nat) (a1 : Int32) (M mo : xM), rc 5 a0 a1 M = some mo → xC l yX7_readTerm cX7_readTerm 3 none dd 0 0 κ [.ref (κ.1 + a0), .int a1] M none mo) (hrc6 : ∀ (κ : xQ) (a0 : Nat) (a1 : Int32) (M mo : xM), rc 6 a0 a1 M = some mo → xC l yX7_readTruth cX7_readTruth 3 none dd 0 0 κ [.ref (κ.1 + a0), .int a1] M none mo) (hrc7 : ∀ (κ : xQ) (a0 : Nat) (a1 : Int32) (M mo : xM), rc 7 a0 a1 M = some mo → xC l yX7_readUnit cX7_readUnit 2 none dd 0 0 κ [.ref (κ.1 + a0), .int a1] M none mo) (X : xX p s m args c cX7_readBoth 3 RX7 κ) (hr : meth.sig.returnType = none) (hlk : meth.locks = false) {mo : xM} (v0 : Nat) (v1 : Int32) (v2 : Int32) (M : xM) (x : xM) (h : F_X7_readBoth_7 rc v0 v1 v2 M = some x) (hK : (fun o => o = mo) x) (H : Heap) (locs : List Loc) (ls : Array Slot) (O : xO κ s M H locs) (hl : lv_has ls 3 [(0, .ref (κ.1 + v0)), (1, .int v1), (2, .int v2)]) : W p l e (xRm (dd + 1) 0 0) s m args below meth c H locs 0 0 (xQf below args s 0 0 κ none mo) (F0 m 7 ls []) := by
  refine xit_K (Wh := fun x => ∀ (H : Heap) (locs : List Loc) (ls : Array Slot), xO κ s x.2 H locs → lv_has ls 3 [(0, .ref (κ.1 + v0)), (1, .int v1), (2, .int x.1)] → W p l e (xRm (dd + 1) 0 0) s m args below meth c H locs 0 0 (xQf below args s 0 0 κ none mo) (F0 m 7 ls [])) (Kp := (fun o => o = mo)) ?_ xFU (v2, M) x h hK H locs ls O hl
  intro y x h hK H locs ls O hl
  exact F_X7_readBoth_7_bok hdd hrc0 hrc1 hrc2 hrc3 hrc4 hrc5 hrc6 hrc7 X hr hlk v0 v1 y.1 (fun _ _ hw => hw) y.2 x h hK H locs ls O hl
set_option maxRecDepth 100000 in
set_option maxHeartbeats 4000000 in
theorem To_X7_readBoth (l : Launch) {dd : Nat} (hdd : 7 ≤ dd) {rc : Nat → Nat → Int32 → xM → Option (xM)} (hrc0 : ∀ (κ : xQ) (a0 : Nat) (a1 : Int32) (M mo : xM), rc 0 a0 a1 M = some mo → xC l yX7_readAtom cX7_readAtom 3 none dd 0 0 κ [.ref (κ.1 + a0), .int a1] M none mo) (hrc1 : ∀ (κ : xQ) (a0 : Nat) (a1 : Int32) (M mo : xM), rc 1 a0 a1 M = some mo → xC l yX7_readBoth cX7_readBoth 3 none dd 0 0 κ [.ref (κ.1 + a0), .int a1] M none mo) (hrc2 : ∀ (κ : xQ) (a0 : Nat) (a1 : Int32) (M mo : xM), rc 2 a0 a1 M = some mo → xC l yX7_readChoice cX7_readChoice 2 none dd 0 0 κ [.ref (κ.1 + a0), .int a1] M none mo) (hrc3 : ∀ (κ : xQ) (a0 : Nat) (a1 : Int32) (M mo : xM), rc 3 a0 a1 M = some mo → xC l yX7_readComparison cX7_readComparison 3 none dd 0 0 κ [.ref (κ.1 + a0), .int a1] M none mo) (hrc4 : ∀ (κ : xQ) (a0 : Nat) (a1 : Int32) (M mo : xM), rc 4 a0 a1 M = some mo → xC l yX7_readSum cX7_readSum 4 none dd 0 0 κ [.ref (κ.1 + a0), .int a1] M none mo) (hrc5 : ∀ (κ : xQ) (a0 : Nat) (a1 : Int32) (M mo : xM), rc 5 a0 a1 M = some mo → xC l yX7_readTerm cX7_readTerm 3 none dd 0 0 κ [.ref (κ.1 + a0), .int a1] M none mo) (hrc6 : ∀ (κ : xQ) (a0 : Nat) (a1 : Int32) (M mo : xM), rc 6 a0 a1 M = some mo → xC l yX7_readTruth cX7_readTruth 3 none dd 0 0 κ [.ref (κ.1 + a0), .int a1] M none mo) (hrc7 : ∀ (κ : xQ) (a0 : Nat) (a1 : Int32) (M mo : xM), rc 7 a0 a1 M = some mo → xC l yX7_readUnit cX7_readUnit 2 none dd 0 0 κ [.ref (κ.1 + a0), .int a1] M none mo) (κ : xQ) (a0 : Nat) (a1 : Int32) (M : xM) (mo : xM) (h : F_X7_readBoth rc a0 a1 M = some mo) : xC l yX7_readBoth cX7_readBoth 3 none (dd + 1) 0 0 κ [.ref (κ.1 + a0), .int a1] M none mo := by
  refine xC_of rfl (Nat.le_of_ble_eq_true rfl) fun p e s m args below meth c X hr hlk hnm H locs ls O hl => ?_
  have X : xX p s m args c cX7_readBoth 3 RX7 κ := X
  have hl : lv_has ls 3 [(0, .ref (κ.1 + a0)), (1, .int a1)] := hl
  have hx := X.1
  have hb := X.2.1
  obtain ⟨x, hx0⟩ : ∃ x, mo = x := ⟨_, rfl⟩
  rw [hx0] at h
  have hK : x = mo := hx0.symm
  unfold F_X7_readBoth at h
  refine lv_aload_n hx hb dX7_readBoth_0 rfl (lv_at hl 0 rfl) ?_
  refine lv_iload_n hx hb dX7_readBoth_1 rfl (lv_at hl 1 rfl) ?_
  obtain ⟨_, hut1, h⟩ := Option.bind_eq_some_iff.mp h
  obtain ⟨t2, ht2, h⟩ := Option.bind_eq_some_iff.mp h
  refine xr_callV (rest := []) X O (hrc7 κ a0 a1 M _ ht2) lk_X7_285 hut1 (Nat.le_refl _) rfl hl.1 rfl (Nat.le_of_ble_eq_true rfl) dX7_readBoth_2 ⟨Nat.le_of_ble_eq_true rfl, Nat.le_of_ble_eq_true rfl⟩ (fun H locs O => ?_)
  refine W.eq (g2 := F0 m 5 ls []) rfl ?_
  refine lv_iconst (v := (0 : Int32)) hx hb dX7_readBoth_5 (by decide) ?_
  refine lv_istore_n (lv' := [(2, .int (0 : Int32)), (0, .ref (κ.1 + a0)), (1, .int a1)]) hx hb dX7_readBoth_6 rfl hl (by decide) rfl (fun ls hl => ?_)
  exact F_X7_readBoth_7_ok hdd hrc0 hrc1 hrc2 hrc3 hrc4 hrc5 hrc6 hrc7 X hr hlk a0 a1 (0 : Int32) t2 _ h hK H locs ls O (lv_sub hl [1, 2, 0] rfl)
set_option maxRecDepth 100000 in
set_option maxHeartbeats 4000000 in
theorem To_X7_readChoice (l : Launch) {dd : Nat} (hdd : 7 ≤ dd) {rc : Nat → Nat → Int32 → xM → Option (xM)} (hrc0 : ∀ (κ : xQ) (a0 : Nat) (a1 : Int32) (M mo : xM), rc 0 a0 a1 M = some mo → xC l yX7_readAtom cX7_readAtom 3 none dd 0 0 κ [.ref (κ.1 + a0), .int a1] M none mo) (hrc1 : ∀ (κ : xQ) (a0 : Nat) (a1 : Int32) (M mo : xM), rc 1 a0 a1 M = some mo → xC l yX7_readBoth cX7_readBoth 3 none dd 0 0 κ [.ref (κ.1 + a0), .int a1] M none mo) (hrc2 : ∀ (κ : xQ) (a0 : Nat) (a1 : Int32) (M mo : xM), rc 2 a0 a1 M = some mo → xC l yX7_readChoice cX7_readChoice 2 none dd 0 0 κ [.ref (κ.1 + a0), .int a1] M none mo) (hrc3 : ∀ (κ : xQ) (a0 : Nat) (a1 : Int32) (M mo : xM), rc 3 a0 a1 M = some mo → xC l yX7_readComparison cX7_readComparison 3 none dd 0 0 κ [.ref (κ.1 + a0), .int a1] M none mo) (hrc4 : ∀ (κ : xQ) (a0 : Nat) (a1 : Int32) (M mo : xM), rc 4 a0 a1 M = some mo → xC l yX7_readSum cX7_readSum 4 none dd 0 0 κ [.ref (κ.1 + a0), .int a1] M none mo) (hrc5 : ∀ (κ : xQ) (a0 : Nat) (a1 : Int32) (M mo : xM), rc 5 a0 a1 M = some mo → xC l yX7_readTerm cX7_readTerm 3 none dd 0 0 κ [.ref (κ.1 + a0), .int a1] M none mo) (hrc6 : ∀ (κ : xQ) (a0 : Nat) (a1 : Int32) (M mo : xM), rc 6 a0 a1 M = some mo → xC l yX7_readTruth cX7_readTruth 3 none dd 0 0 κ [.ref (κ.1 + a0), .int a1] M none mo) (hrc7 : ∀ (κ : xQ) (a0 : Nat) (a1 : Int32) (M mo : xM), rc 7 a0 a1 M = some mo → xC l yX7_readUnit cX7_readUnit 2 none dd 0 0 κ [.ref (κ.1 + a0), .int a1] M none mo) (κ : xQ) (a0 : Nat) (a1 : Int32) (M : xM) (mo : xM) (h : F_X7_readChoice rc a0 a1 M = some mo) : xC l yX7_readChoice cX7_readChoice 2 none (dd + 1) 0 0 κ [.ref (κ.1 + a0), .int a1] M none mo := by
  refine xC_of rfl (Nat.le_of_ble_eq_true rfl) fun p e s m args below meth c X hr hlk hnm H locs ls O hl => ?_
  have X : xX p s m args c cX7_readChoice 2 RX7 κ := X
  have hl : lv_has ls 2 [(0, .ref (κ.1 + a0)), (1, .int a1)] := hl
  have hx := X.1
  have hb := X.2.1
  obtain ⟨x, hx0⟩ : ∃ x, mo = x := ⟨_, rfl⟩
  rw [hx0] at h
  have hK : x = mo := hx0.symm
  unfold F_X7_readChoice at h
  refine lv_aload_n hx hb dX7_readChoice_0 rfl (lv_at hl 0 rfl) ?_
  refine lv_iload_n hx hb dX7_readChoice_1 rfl (lv_at hl 1 rfl) ?_
  obtain ⟨_, hut1, h⟩ := Option.bind_eq_some_iff.mp h
  obtain ⟨t2, ht2, h⟩ := Option.bind_eq_some_iff.mp h
  refine xr_callV (rest := []) X O (hrc6 κ a0 a1 M _ ht2) lk_X7_271 hut1 (Nat.le_refl _) rfl hl.1 rfl (Nat.le_of_ble_eq_true rfl) dX7_readChoice_2 ⟨Nat.le_of_ble_eq_true rfl, Nat.le_of_ble_eq_true rfl⟩ (fun H locs O => ?_)
  refine W.eq (g2 := F0 m 5 ls []) rfl ?_
  refine lv_aload_n hx hb dX7_readChoice_5 rfl (lv_at hl 0 rfl) ?_
  refine xr_ldcwS hx hb X.2.2.2.1 (X.2.2.2.2.2.2.1 24 _ rfl).1 dX7_readChoice_6 ?_
  obtain ⟨_, hut3, h⟩ := Option.bind_eq_some_iff.mp h
  obtain ⟨t4, ht4, h⟩ := Option.bind_eq_some_iff.mp h
  refine xr_callV (rest := []) X O (T_X7_expectWord l κ a0 24 t2 _ ht4) lk_X7_123 hut3 (by omega) rfl hl.1 rfl (Nat.le_of_ble_eq_true rfl) dX7_readChoice_9 ⟨Nat.le_of_ble_eq_true rfl, Nat.le_of_ble_eq_true rfl⟩ (fun H locs O => ?_)
  refine W.eq (g2 := F0 m 12 ls []) rfl ?_
  refine lv_aload_n hx hb dX7_readChoice_12 rfl (lv_at hl 0 rfl) ?_
  refine lv_iload_n hx hb dX7_readChoice_13 rfl (lv_at hl 1 rfl) ?_
  obtain ⟨_, hut5, h⟩ := Option.bind_eq_some_iff.mp h
  obtain ⟨t6, ht6, h⟩ := Option.bind_eq_some_iff.mp h
  refine xr_callV (rest := []) X O (hrc4 κ a0 a1 t4 _ ht6) lk_X7_223 hut5 (Nat.le_refl _) rfl hl.1 rfl (Nat.le_of_ble_eq_true rfl) dX7_readChoice_14 ⟨Nat.le_of_ble_eq_true rfl, Nat.le_of_ble_eq_true rfl⟩ (fun H locs O => ?_)
  refine W.eq (g2 := F0 m 17 ls []) rfl ?_
  refine lv_aload_n hx hb dX7_readChoice_17 rfl (lv_at hl 0 rfl) ?_
  refine xr_ldcwS hx hb X.2.2.2.1 (X.2.2.2.2.2.2.1 25 _ rfl).1 dX7_readChoice_18 ?_
  obtain ⟨_, hut7, h⟩ := Option.bind_eq_some_iff.mp h
  obtain ⟨t8, ht8, h⟩ := Option.bind_eq_some_iff.mp h
  refine xr_callV (rest := []) X O (T_X7_expectWord l κ a0 25 t6 _ ht8) lk_X7_123 hut7 (by omega) rfl hl.1 rfl (Nat.le_of_ble_eq_true rfl) dX7_readChoice_21 ⟨Nat.le_of_ble_eq_true rfl, Nat.le_of_ble_eq_true rfl⟩ (fun H locs O => ?_)
  refine W.eq (g2 := F0 m 24 ls []) rfl ?_
  refine lv_aload_n hx hb dX7_readChoice_24 rfl (lv_at hl 0 rfl) ?_
  refine lv_iload_n hx hb dX7_readChoice_25 rfl (lv_at hl 1 rfl) ?_
  obtain ⟨_, hut9, h⟩ := Option.bind_eq_some_iff.mp h
  obtain ⟨t10, ht10, h⟩ := Option.bind_eq_some_iff.mp h
  refine xr_callV (rest := []) X O (hrc4 κ a0 a1 t8 _ ht10) lk_X7_223 hut9 (Nat.le_refl _) rfl hl.1 rfl (Nat.le_of_ble_eq_true rfl) dX7_readChoice_26 ⟨Nat.le_of_ble_eq_true rfl, Nat.le_of_ble_eq_true rfl⟩ (fun H locs O => ?_)
  refine W.eq (g2 := F0 m 29 ls []) rfl ?_
  refine lv_aload_n hx hb dX7_readChoice_29 rfl (lv_at hl 0 rfl) ?_
  refine xr_ldcwS hx hb X.2.2.2.1 (X.2.2.2.2.2.2.1 26 _ rfl).1 dX7_readChoice_30 ?_
  obtain ⟨_, hut11, h⟩ := Option.bind_eq_some_iff.mp h
  obtain ⟨t12, ht12, h⟩ := Option.bind_eq_some_iff.mp h
  refine xr_callV (rest := []) X O (T_X7_expectWord l κ a0 26 t10 _ ht12) lk_X7_123 hut11 (by omega) rfl hl.1 rfl (Nat.le_of_ble_eq_true rfl) dX7_readChoice_33 ⟨Nat.le_of_ble_eq_true rfl, Nat.le_of_ble_eq_true rfl⟩ (fun H locs O => ?_)
  refine W.eq (g2 := F0 m 36 ls []) rfl ?_
  refine lv_aload_n hx hb dX7_readChoice_36 rfl (lv_at hl 0 rfl) ?_
  obtain ⟨t13, ht13, h⟩ := Option.bind_eq_some_iff.mp h
  refine xr_getP X O ht13 fl_X7_22 dX7_readChoice_37 ?_
  refine lv_sipush (v := (1009 : Int32)) hx hb dX7_readChoice_40 (by decide) ?_
  obtain ⟨_, hut14, h⟩ := Option.bind_eq_some_iff.mp h
  obtain ⟨t15, ht15, h⟩ := Option.bind_eq_some_iff.mp h
  refine xr_callV (rest := []) X O (T_X3_emit l κ t13 (1009 : Int32) t12 _ ht15) lk_X7_243 hut14 (by omega) rfl hl.1 rfl (Nat.le_of_ble_eq_true rfl) dX7_readChoice_43 ⟨Nat.le_of_ble_eq_true rfl, Nat.le_of_ble_eq_true rfl⟩ (fun H locs O => ?_)
  refine W.eq (g2 := F0 m 46 ls []) rfl ?_
  rw [← Option.some.inj h] at hK
  have hK : t15 = mo := hK
  rw [hK] at O
  exact xr_vret X hr hlk O dX7_readChoice_46
set_option maxRecDepth 100000 in
set_option maxHeartbeats 4000000 in
theorem F_X7_readComparison_55_ok {dd : Nat} (hdd : 7 ≤ dd) {rc : Nat → Nat → Int32 → xM → Option (xM)} (hrc0 : ∀ (κ : xQ) (a0 : Nat) (a1 : Int32) (M mo : xM), rc 0 a0 a1 M = some mo → xC l yX7_readAtom cX7_readAtom 3 none dd 0 0 κ [.ref (κ.1 + a0), .int a1] M none mo) (hrc1 : ∀ (κ : xQ) (a0 : Nat) (a1 : Int32) (M mo : xM), rc 1 a0 a1 M = some mo → xC l yX7_readBoth cX7_readBoth 3 none dd 0 0 κ [.ref (κ.1 + a0), .int a1] M none mo) (hrc2 : ∀ (κ : xQ) (a0 : Nat) (a1 : Int32) (M mo : xM), rc 2 a0 a1 M = some mo → xC l yX7_readChoice cX7_readChoice 2 none dd 0 0 κ [.ref (κ.1 + a0), .int a1] M none mo) (hrc3 : ∀ (κ : xQ) (a0 : Nat) (a1 : Int32) (M mo : xM), rc 3 a0 a1 M = some mo → xC l yX7_readComparison cX7_readComparison 3 none dd 0 0 κ [.ref (κ.1 + a0), .int a1] M none mo) (hrc4 : ∀ (κ : xQ) (a0 : Nat) (a1 : Int32) (M mo : xM), rc 4 a0 a1 M = some mo → xC l yX7_readSum cX7_readSum 4 none dd 0 0 κ [.ref (κ.1 + a0), .int a1] M none mo) (hrc5 : ∀ (κ : xQ) (a0 : Nat) (a1 : Int32) (M mo : xM), rc 5 a0 a1 M = some mo → xC l yX7_readTerm cX7_readTerm 3 none dd 0 0 κ [.ref (κ.1 + a0), .int a1] M none mo) (hrc6 : ∀ (κ : xQ) (a0 : Nat) (a1 : Int32) (M mo : xM), rc 6 a0 a1 M = some mo → xC l yX7_readTruth cX7_readTruth 3 none dd 0 0 κ [.ref (κ.1 + a0), .int a1] M none mo) (hrc7 : ∀ (κ : xQ) (a0 : Nat) (a1 : Int32) (M mo : xM), rc 7 a0 a1 M = some mo → xC l yX7_readUnit cX7_readUnit 2 none dd 0 0 κ [.ref (κ.1 + a0), .int a1] M none mo) (X : xX p s m args c cX7_readComparison 3 RX7 κ) (hr : meth.sig.returnType = none) (hlk : meth.locks = false) {mo : xM} (v0 : Nat) (v1 : Int32) (v2 : Int32) (M : xM) (x : xM) (h : F_X7_readComparison_55 rc v0 v1 v2 M = some x) (hK : (fun o => o = mo) x) (H : Heap) (locs : List Loc) (ls : Array Slot) (O : xO κ s M H locs) (hl : lv_has ls 3 [(0, .ref (κ.1 + v0)), (1, .int v1), (2, .int v2)]) : W p l e (xRm (dd + 1) 0 0) s m args below meth c H locs 0 0 (xQf below args s 0 0 κ none mo) (F0 m 55 ls []) := by
  unfold F_X7_readComparison_55 at h
  have hx := X.1
  have hb := X.2.1
  refine lv_aload_n hx hb dX7_readComparison_55 rfl (lv_at hl 0 rfl) ?_
  obtain ⟨t11, ht11, h⟩ := Option.bind_eq_some_iff.mp h
  refine xr_getI X O ht11 fl_X7_48 (Or.inl rfl) dX7_readComparison_56 ?_
  refine lv_if_ne (tgt := 79) hx hb dX7_readComparison_59 (by decide) (fun hc59 => ?_) (fun hc59 => ?_)
  · rw [if_neg hc59] at h
    rw [← Option.some.inj h] at hK
    have hK : M = mo := hK
    rw [hK] at O
    exact xr_vret X hr hlk O dX7_readComparison_79
  rw [if_pos hc59] at h
  refine lv_aload_n hx hb dX7_readComparison_62 rfl (lv_at hl 0 rfl) ?_
  obtain ⟨_, hut12, h⟩ := Option.bind_eq_some_iff.mp h
  obtain ⟨t13, ht13, h⟩ := Option.bind_eq_some_iff.mp h
  refine xr_callV (rest := []) X O (T_X7_step l κ v0 M _ ht13) lk_X7_58 hut12 (by omega) rfl hl.1 rfl (Nat.le_of_ble_eq_true rfl) dX7_readComparison_63 ⟨Nat.le_of_ble_eq_true rfl, Nat.le_of_ble_eq_true rfl⟩ (fun H locs O => ?_)
  refine W.eq (g2 := F0 m 66 ls []) rfl ?_
  refine lv_aload_n hx hb dX7_readComparison_66 rfl (lv_at hl 0 rfl) ?_
  refine lv_iload_n hx hb dX7_readComparison_67 rfl (lv_at hl 1 rfl) ?_
  obtain ⟨_, hut14, h⟩ := Option.bind_eq_some_iff.mp h
  obtain ⟨t15, ht15, h⟩ := Option.bind_eq_some_iff.mp h
  refine xr_callV (rest := []) X O (hrc4 κ v0 v1 t13 _ ht15) lk_X7_223 hut14 (Nat.le_refl _) rfl hl.1 rfl (Nat.le_of_ble_eq_true rfl) dX7_readComparison_68 ⟨Nat.le_of_ble_eq_true rfl, Nat.le_of_ble_eq_true rfl⟩ (fun H locs O => ?_)
  refine W.eq (g2 := F0 m 71 ls []) rfl ?_
  refine lv_aload_n hx hb dX7_readComparison_71 rfl (lv_at hl 0 rfl) ?_
  obtain ⟨t16, ht16, h⟩ := Option.bind_eq_some_iff.mp h
  refine xr_getP X O ht16 fl_X7_22 dX7_readComparison_72 ?_
  refine lv_iload_n hx hb dX7_readComparison_75 rfl (lv_at hl 2 rfl) ?_
  obtain ⟨_, hut17, h⟩ := Option.bind_eq_some_iff.mp h
  obtain ⟨t18, ht18, h⟩ := Option.bind_eq_some_iff.mp h
  refine xr_callV (rest := []) X O (T_X3_emit l κ t16 v2 t15 _ ht18) lk_X7_243 hut17 (by omega) rfl hl.1 rfl (Nat.le_of_ble_eq_true rfl) dX7_readComparison_76 ⟨Nat.le_of_ble_eq_true rfl, Nat.le_of_ble_eq_true rfl⟩ (fun H locs O => ?_)
  refine W.eq (g2 := F0 m 79 ls []) rfl ?_
  rw [← Option.some.inj h] at hK
  have hK : t18 = mo := hK
  rw [hK] at O
  exact xr_vret X hr hlk O dX7_readComparison_79
set_option maxRecDepth 100000 in
set_option maxHeartbeats 4000000 in
theorem To_X7_readComparison (l : Launch) {dd : Nat} (hdd : 7 ≤ dd) {rc : Nat → Nat → Int32 → xM → Option (xM)} (hrc0 : ∀ (κ : xQ) (a0 : Nat) (a1 : Int32) (M mo : xM), rc 0 a0 a1 M = some mo → xC l yX7_readAtom cX7_readAtom 3 none dd 0 0 κ [.ref (κ.1 + a0), .int a1] M none mo) (hrc1 : ∀ (κ : xQ) (a0 : Nat) (a1 : Int32) (M mo : xM), rc 1 a0 a1 M = some mo → xC l yX7_readBoth cX7_readBoth 3 none dd 0 0 κ [.ref (κ.1 + a0), .int a1] M none mo) (hrc2 : ∀ (κ : xQ) (a0 : Nat) (a1 : Int32) (M mo : xM), rc 2 a0 a1 M = some mo → xC l yX7_readChoice cX7_readChoice 2 none dd 0 0 κ [.ref (κ.1 + a0), .int a1] M none mo) (hrc3 : ∀ (κ : xQ) (a0 : Nat) (a1 : Int32) (M mo : xM), rc 3 a0 a1 M = some mo → xC l yX7_readComparison cX7_readComparison 3 none dd 0 0 κ [.ref (κ.1 + a0), .int a1] M none mo) (hrc4 : ∀ (κ : xQ) (a0 : Nat) (a1 : Int32) (M mo : xM), rc 4 a0 a1 M = some mo → xC l yX7_readSum cX7_readSum 4 none dd 0 0 κ [.ref (κ.1 + a0), .int a1] M none mo) (hrc5 : ∀ (κ : xQ) (a0 : Nat) (a1 : Int32) (M mo : xM), rc 5 a0 a1 M = some mo → xC l yX7_readTerm cX7_readTerm 3 none dd 0 0 κ [.ref (κ.1 + a0), .int a1] M none mo) (hrc6 : ∀ (κ : xQ) (a0 : Nat) (a1 : Int32) (M mo : xM), rc 6 a0 a1 M = some mo → xC l yX7_readTruth cX7_readTruth 3 none dd 0 0 κ [.ref (κ.1 + a0), .int a1] M none mo) (hrc7 : ∀ (κ : xQ) (a0 : Nat) (a1 : Int32) (M mo : xM), rc 7 a0 a1 M = some mo → xC l yX7_readUnit cX7_readUnit 2 none dd 0 0 κ [.ref (κ.1 + a0), .int a1] M none mo) (κ : xQ) (a0 : Nat) (a1 : Int32) (M : xM) (mo : xM) (h : F_X7_readComparison rc a0 a1 M = some mo) : xC l yX7_readComparison cX7_readComparison 3 none (dd + 1) 0 0 κ [.ref (κ.1 + a0), .int a1] M none mo := by
  refine xC_of rfl (Nat.le_of_ble_eq_true rfl) fun p e s m args below meth c X hr hlk hnm H locs ls O hl => ?_
  have X : xX p s m args c cX7_readComparison 3 RX7 κ := X
  have hl : lv_has ls 3 [(0, .ref (κ.1 + a0)), (1, .int a1)] := hl
  have hx := X.1
  have hb := X.2.1
  obtain ⟨x, hx0⟩ : ∃ x, mo = x := ⟨_, rfl⟩
  rw [hx0] at h
  have hK : x = mo := hx0.symm
  unfold F_X7_readComparison at h
  refine lv_aload_n hx hb dX7_readComparison_0 rfl (lv_at hl 0 rfl) ?_
  refine lv_iload_n hx hb dX7_readComparison_1 rfl (lv_at hl 1 rfl) ?_
  obtain ⟨_, hut1, h⟩ := Option.bind_eq_some_iff.mp h
  obtain ⟨t2, ht2, h⟩ := Option.bind_eq_some_iff.mp h
  refine xr_callV (rest := []) X O (hrc4 κ a0 a1 M _ ht2) lk_X7_223 hut1 (Nat.le_refl _) rfl hl.1 rfl (Nat.le_of_ble_eq_true rfl) dX7_readComparison_2 ⟨Nat.le_of_ble_eq_true rfl, Nat.le_of_ble_eq_true rfl⟩ (fun H locs O => ?_)
  refine W.eq (g2 := F0 m 5 ls []) rfl ?_
  refine lv_sipush (v := (1003 : Int32)) hx hb dX7_readComparison_5 (by decide) ?_
  refine lv_istore_n (lv' := [(2, .int (1003 : Int32)), (0, .ref (κ.1 + a0)), (1, .int a1)]) hx hb dX7_readComparison_8 rfl hl (by decide) rfl (fun ls hl => ?_)
  refine lv_aload_n hx hb dX7_readComparison_9 rfl (lv_at hl 1 rfl) ?_
  refine lv_bipush (v := (60 : Int32)) hx hb dX7_readComparison_10 (by decide) ?_
  obtain ⟨_, hut3, h⟩ := Option.bind_eq_some_iff.mp h
  obtain ⟨t4, ht4, h⟩ := Option.bind_eq_some_iff.mp h
  refine xr_callV (rest := []) X O (T_X7_atSign l κ a0 (60 : Int32) t2 _ _ ht4) lk_X7_107 hut3 (by omega) rfl hl.1 rfl (Nat.le_of_ble_eq_true rfl) dX7_readComparison_12 ⟨Nat.le_of_ble_eq_true rfl, Nat.le_of_ble_eq_true rfl⟩ (fun H locs O => ?_)
  refine W.eq (g2 := F0 m 15 ls [.int t4.1]) rfl ?_
  refine lv_if_eq (tgt := 25) hx hb dX7_readComparison_15 (by decide) (fun hc15 => ?_) (fun hc15 => ?_)
  · rw [if_pos hc15] at h
    refine lv_aload_n hx hb dX7_readComparison_25 rfl (lv_at hl 1 rfl) ?_
    refine lv_bipush (v := (62 : Int32)) hx hb dX7_readComparison_26 (by decide) ?_
    obtain ⟨_, hut5, h⟩ := Option.bind_eq_some_iff.mp h
    obtain ⟨t6, ht6, h⟩ := Option.bind_eq_some_iff.mp h
    refine xr_callV (rest := []) X O (T_X7_atSign l κ a0 (62 : Int32) t4.2 _ _ ht6) lk_X7_107 hut5 (by omega) rfl hl.1 rfl (Nat.le_of_ble_eq_true rfl) dX7_readComparison_28 ⟨Nat.le_of_ble_eq_true rfl, Nat.le_of_ble_eq_true rfl⟩ (fun H locs O => ?_)
    refine W.eq (g2 := F0 m 31 ls [.int t6.1]) rfl ?_
    refine lv_if_eq (tgt := 41) hx hb dX7_readComparison_31 (by decide) (fun hc31 => ?_) (fun hc31 => ?_)
    · rw [if_pos hc31] at h
      refine lv_aload_n hx hb dX7_readComparison_41 rfl (lv_at hl 1 rfl) ?_
      refine lv_bipush (v := (61 : Int32)) hx hb dX7_readComparison_42 (by decide) ?_
      obtain ⟨_, hut7, h⟩ := Option.bind_eq_some_iff.mp h
      obtain ⟨t8, ht8, h⟩ := Option.bind_eq_some_iff.mp h
      refine xr_callV (rest := []) X O (T_X7_atSign l κ a0 (61 : Int32) t6.2 _ _ ht8) lk_X7_107 hut7 (by omega) rfl hl.1 rfl (Nat.le_of_ble_eq_true rfl) dX7_readComparison_44 ⟨Nat.le_of_ble_eq_true rfl, Nat.le_of_ble_eq_true rfl⟩ (fun H locs O => ?_)
      refine W.eq (g2 := F0 m 47 ls [.int t8.1]) rfl ?_
      refine lv_if_ne (tgt := 55) hx hb dX7_readComparison_47 (by decide) (fun hc47 => ?_) (fun hc47 => ?_)
      · rw [if_neg hc47] at h
        exact F_X7_readComparison_55_ok hdd hrc0 hrc1 hrc2 hrc3 hrc4 hrc5 hrc6 hrc7 X hr hlk a0 a1 (1003 : Int32) t8.2 _ h hK H locs ls O (lv_sub hl [1, 2, 0] rfl)
      rw [if_pos hc47] at h
      refine lv_aload_n hx hb dX7_readComparison_50 rfl (lv_at hl 1 rfl) ?_
      refine lv_iconst (v := (2 : Int32)) hx hb dX7_readComparison_51 (by decide) ?_
      obtain ⟨_, hut9, h⟩ := Option.bind_eq_some_iff.mp h
      obtain ⟨t10, ht10, h⟩ := Option.bind_eq_some_iff.mp h
      refine xr_callV (rest := []) X O (T_X7_fail l κ a0 (2 : Int32) t8.2 _ ht10) lk_X7_103 hut9 (by omega) rfl hl.1 rfl (Nat.le_of_ble_eq_true rfl) dX7_readComparison_52 ⟨Nat.le_of_ble_eq_true rfl, Nat.le_of_ble_eq_true rfl⟩ (fun H locs O => ?_)
      refine W.eq (g2 := F0 m 55 ls []) rfl ?_
      exact F_X7_readComparison_55_ok hdd hrc0 hrc1 hrc2 hrc3 hrc4 hrc5 hrc6 hrc7 X hr hlk a0 a1 (1003 : Int32) t10 _ h hK H locs ls O (lv_sub hl [1, 2, 0] rfl)
    rw [if_neg hc31] at h
    refine lv_sipush (v := (1005 : Int32)) hx hb dX7_readComparison_34 (by decide) ?_
    refine lv_istore_n (lv' := [(2, .int (1005 : Int32)), (0, .ref (κ.1 + a0)), (1, .int a1)]) hx hb dX7_readComparison_37 rfl hl (by decide) rfl (fun ls hl => ?_)
    refine lv_goto (tgt := 55) hx hb dX7_readComparison_38 (by decide) ?_
    exact F_X7_readComparison_55_ok hdd hrc0 hrc1 hrc2 hrc3 hrc4 hrc5 hrc6 hrc7 X hr hlk a0 a1 (1005 : Int32) t6.2 _ h hK H locs ls O (lv_sub hl [1, 2, 0] rfl)
  rw [if_neg hc15] at h
  refine lv_sipush (v := (1004 : Int32)) hx hb dX7_readComparison_18 (by decide) ?_
  refine lv_istore_n (lv' := [(2, .int (1004 : Int32)), (0, .ref (κ.1 + a0)), (1, .int a1)]) hx hb dX7_readComparison_21 rfl hl (by decide) rfl (fun ls hl => ?_)
  refine lv_goto (tgt := 55) hx hb dX7_readComparison_22 (by decide) ?_
  exact F_X7_readComparison_55_ok hdd hrc0 hrc1 hrc2 hrc3 hrc4 hrc5 hrc6 hrc7 X hr hlk a0 a1 (1004 : Int32) t4.2 _ h hK H locs ls O (lv_sub hl [1, 2, 0] rfl)
set_option maxRecDepth 100000 in
set_option maxHeartbeats 4000000 in
theorem F_X7_readSum_57_ok {dd : Nat} (hdd : 7 ≤ dd) {rc : Nat → Nat → Int32 → xM → Option (xM)} (hrc0 : ∀ (κ : xQ) (a0 : Nat) (a1 : Int32) (M mo : xM), rc 0 a0 a1 M = some mo → xC l yX7_readAtom cX7_readAtom 3 none dd 0 0 κ [.ref (κ.1 + a0), .int a1] M none mo) (hrc1 : ∀ (κ : xQ) (a0 : Nat) (a1 : Int32) (M mo : xM), rc 1 a0 a1 M = some mo → xC l yX7_readBoth cX7_readBoth 3 none dd 0 0 κ [.ref (κ.1 + a0), .int a1] M none mo) (hrc2 : ∀ (κ : xQ) (a0 : Nat) (a1 : Int32) (M mo : xM), rc 2 a0 a1 M = some mo → xC l yX7_readChoice cX7_readChoice 2 none dd 0 0 κ [.ref (κ.1 + a0), .int a1] M none mo) (hrc3 : ∀ (κ : xQ) (a0 : Nat) (a1 : Int32) (M mo : xM), rc 3 a0 a1 M = some mo → xC l yX7_readComparison cX7_readComparison 3 none dd 0 0 κ [.ref (κ.1 + a0), .int a1] M none mo) (hrc4 : ∀ (κ : xQ) (a0 : Nat) (a1 : Int32) (M mo : xM), rc 4 a0 a1 M = some mo → xC l yX7_readSum cX7_readSum 4 none dd 0 0 κ [.ref (κ.1 + a0), .int a1] M none mo) (hrc5 : ∀ (κ : xQ) (a0 : Nat) (a1 : Int32) (M mo : xM), rc 5 a0 a1 M = some mo → xC l yX7_readTerm cX7_readTerm 3 none dd 0 0 κ [.ref (κ.1 + a0), .int a1] M none mo) (hrc6 : ∀ (κ : xQ) (a0 : Nat) (a1 : Int32) (M mo : xM), rc 6 a0 a1 M = some mo → xC l yX7_readTruth cX7_readTruth 3 none dd 0 0 κ [.ref (κ.1 + a0), .int a1] M none mo) (hrc7 : ∀ (κ : xQ) (a0 : Nat) (a1 : Int32) (M mo : xM), rc 7 a0 a1 M = some mo → xC l yX7_readUnit cX7_readUnit 2 none dd 0 0 κ [.ref (κ.1 + a0), .int a1] M none mo) (X : xX p s m args c cX7_readSum 4 RX7 κ) (hr : meth.sig.returnType = none) (hlk : meth.locks = false) {mo : xM} (v0 : Nat) (v1 : Int32) (v2 : Int32) (s0 : Int32) {W7 : Int32 × xM → Prop} (hW7 : ∀ (v2 : Int32) (M : xM), W7 (v2, M) → ∀ (H : Heap) (locs : List Loc) (ls : Array Slot), xO κ s M H locs → lv_has ls 4 [(0, .ref (κ.1 + v0)), (1, .int v1), (2, .int v2)] → W p l e (xRm (dd + 1) 0 0) s m args below meth c H locs 0 0 (xQf below args s 0 0 κ none mo) (F0 m 7 ls [])) (M : xM) (x : (Int32 × xM) ⊕ (xM)) (h : F_X7_readSum_57 rc v0 v1 v2 s0 M = some x) (hK : (xKl W7 (fun o => o = mo)) x) (H : Heap) (locs : List Loc) (ls : Array Slot) (O : xO κ s M H locs) (hl : lv_has ls 4 [(0, .ref (κ.1 + v0)), (1, .int v1), (2, .int v2)]) : W p l e (xRm (dd + 1) 0 0) s m args below meth c H locs 0 0 (xQf below args s 0 0 κ none mo) (F0 m 57 ls [.int s0]) := by
  unfold F_X7_readSum_57 at h
  have hx := X.1
  have hb := X.2.1
  refine lv_istore_n (lv' := [(3, .int s0), (0, .ref (κ.1 + v0)), (1, .int v1), (2, .int v2)]) hx hb dX7_readSum_57 rfl hl (by decide) rfl (fun ls hl => ?_)
  refine lv_aload_n hx hb dX7_readSum_58 rfl (lv_at hl 1 rfl) ?_
  obtain ⟨_, hut10, h⟩ := Option.bind_eq_some_iff.mp h
  obtain ⟨t11, ht11, h⟩ := Option.bind_eq_some_iff.mp h
  refine xr_callV (rest := []) X O (T_X7_step l κ v0 M _ ht11) lk_X7_58 hut10 (by omega) rfl hl.1 rfl (Nat.le_of_ble_eq_true rfl) dX7_readSum_59 ⟨Nat.le_of_ble_eq_true rfl, Nat.le_of_ble_eq_true rfl⟩ (fun H locs O => ?_)
  refine W.eq (g2 := F0 m 62 ls []) rfl ?_
  refine lv_aload_n hx hb dX7_readSum_62 rfl (lv_at hl 1 rfl) ?_
  refine lv_iload_n hx hb dX7_readSum_63 rfl (lv_at hl 2 rfl) ?_
  obtain ⟨_, hut12, h⟩ := Option.bind_eq_some_iff.mp h
  obtain ⟨t13, ht13, h⟩ := Option.bind_eq_some_iff.mp h
  refine xr_callV (rest := []) X O (hrc5 κ v0 v1 t11 _ ht13) lk_X7_238 hut12 (Nat.le_refl _) rfl hl.1 rfl (Nat.le_of_ble_eq_true rfl) dX7_readSum_64 ⟨Nat.le_of_ble_eq_true rfl, Nat.le_of_ble_eq_true rfl⟩ (fun H locs O => ?_)
  refine W.eq (g2 := F0 m 67 ls []) rfl ?_
  refine lv_aload_n hx hb dX7_readSum_67 rfl (lv_at hl 1 rfl) ?_
  obtain ⟨t14, ht14, h⟩ := Option.bind_eq_some_iff.mp h
  refine xr_getP X O ht14 fl_X7_22 dX7_readSum_68 ?_
  refine lv_iload_n hx hb dX7_readSum_71 rfl (lv_at hl 0 rfl) ?_
  obtain ⟨_, hut15, h⟩ := Option.bind_eq_some_iff.mp h
  obtain ⟨t16, ht16, h⟩ := Option.bind_eq_some_iff.mp h
  refine xr_callV (rest := []) X O (T_X3_emit l κ t14 s0 t13 _ ht16) lk_X7_243 hut15 (by omega) rfl hl.1 rfl (Nat.le_of_ble_eq_true rfl) dX7_readSum_72 ⟨Nat.le_of_ble_eq_true rfl, Nat.le_of_ble_eq_true rfl⟩ (fun H locs O => ?_)
  refine W.eq (g2 := F0 m 75 ls []) rfl ?_
  refine lv_iinc (v := (v2 + 1)) (lv' := [(2, .int (v2 + 1)), (3, .int s0), (0, .ref (κ.1 + v0)), (1, .int v1)]) hx hb dX7_readSum_75 hl (k := 3) rfl rfl (by decide) rfl (fun ls hl => ?_)
  refine lv_goto (tgt := 7) hx hb dX7_readSum_78 (by decide) ?_
  rw [← Option.some.inj h] at hK
  exact hW7 (v2 + 1) t16 hK H locs ls O (lv_sub hl [2, 3, 0] rfl)
set_option maxRecDepth 100000 in
set_option maxHeartbeats 4000000 in
theorem F_X7_readSum_39_ok {dd : Nat} (hdd : 7 ≤ dd) {rc : Nat → Nat → Int32 → xM → Option (xM)} (hrc0 : ∀ (κ : xQ) (a0 : Nat) (a1 : Int32) (M mo : xM), rc 0 a0 a1 M = some mo → xC l yX7_readAtom cX7_readAtom 3 none dd 0 0 κ [.ref (κ.1 + a0), .int a1] M none mo) (hrc1 : ∀ (κ : xQ) (a0 : Nat) (a1 : Int32) (M mo : xM), rc 1 a0 a1 M = some mo → xC l yX7_readBoth cX7_readBoth 3 none dd 0 0 κ [.ref (κ.1 + a0), .int a1] M none mo) (hrc2 : ∀ (κ : xQ) (a0 : Nat) (a1 : Int32) (M mo : xM), rc 2 a0 a1 M = some mo → xC l yX7_readChoice cX7_readChoice 2 none dd 0 0 κ [.ref (κ.1 + a0), .int a1] M none mo) (hrc3 : ∀ (κ : xQ) (a0 : Nat) (a1 : Int32) (M mo : xM), rc 3 a0 a1 M = some mo → xC l yX7_readComparison cX7_readComparison 3 none dd 0 0 κ [.ref (κ.1 + a0), .int a1] M none mo) (hrc4 : ∀ (κ : xQ) (a0 : Nat) (a1 : Int32) (M mo : xM), rc 4 a0 a1 M = some mo → xC l yX7_readSum cX7_readSum 4 none dd 0 0 κ [.ref (κ.1 + a0), .int a1] M none mo) (hrc5 : ∀ (κ : xQ) (a0 : Nat) (a1 : Int32) (M mo : xM), rc 5 a0 a1 M = some mo → xC l yX7_readTerm cX7_readTerm 3 none dd 0 0 κ [.ref (κ.1 + a0), .int a1] M none mo) (hrc6 : ∀ (κ : xQ) (a0 : Nat) (a1 : Int32) (M mo : xM), rc 6 a0 a1 M = some mo → xC l yX7_readTruth cX7_readTruth 3 none dd 0 0 κ [.ref (κ.1 + a0), .int a1] M none mo) (hrc7 : ∀ (κ : xQ) (a0 : Nat) (a1 : Int32) (M mo : xM), rc 7 a0 a1 M = some mo → xC l yX7_readUnit cX7_readUnit 2 none dd 0 0 κ [.ref (κ.1 + a0), .int a1] M none mo) (X : xX p s m args c cX7_readSum 4 RX7 κ) (hr : meth.sig.returnType = none) (hlk : meth.locks = false) {mo : xM} (v0 : Nat) (v1 : Int32) (v2 : Int32) {W7 : Int32 × xM → Prop} (hW7 : ∀ (v2 : Int32) (M : xM), W7 (v2, M) → ∀ (H : Heap) (locs : List Loc) (ls : Array Slot), xO κ s M H locs → lv_has ls 4 [(0, .ref (κ.1 + v0)), (1, .int v1), (2, .int v2)] → W p l e (xRm (dd + 1) 0 0) s m args below meth c H locs 0 0 (xQf below args s 0 0 κ none mo) (F0 m 7 ls [])) (M : xM) (x : (Int32 × xM) ⊕ (xM)) (h : F_X7_readSum_39 rc v0 v1 v2 M = some x) (hK : (xKl W7 (fun o => o = mo)) x) (H : Heap) (locs : List Loc) (ls : Array Slot) (O : xO κ s M H locs) (hl : lv_has ls 4 [(0, .ref (κ.1 + v0)), (1, .int v1), (2, .int v2)]) : W p l e (xRm (dd + 1) 0 0) s m args below meth c H locs 0 0 (xQf below args s 0 0 κ none mo) (F0 m 39 ls []) := by
  unfold F_X7_readSum_39 at h
  have hx := X.1
  have hb := X.2.1
  refine lv_aload_n hx hb dX7_readSum_39 rfl (lv_at hl 0 rfl) ?_
  refine lv_bipush (v := (43 : Int32)) hx hb dX7_readSum_40 (by decide) ?_
  obtain ⟨_, hut8, h⟩ := Option.bind_eq_some_iff.mp h
  obtain ⟨t9, ht9, h⟩ := Option.bind_eq_some_iff.mp h
  refine xr_callV (rest := []) X O (T_X7_atSign l κ v0 (43 : Int32) M _ _ ht9) lk_X7_107 hut8 (by omega) rfl hl.1 rfl (Nat.le_of_ble_eq_true rfl) dX7_readSum_42 ⟨Nat.le_of_ble_eq_true rfl, Nat.le_of_ble_eq_true rfl⟩ (fun H locs O => ?_)
  refine W.eq (g2 := F0 m 45 ls [.int t9.1]) rfl ?_
  refine lv_if_eq (tgt := 54) hx hb dX7_readSum_45 (by decide) (fun hc45 => ?_) (fun hc45 => ?_)
  · rw [if_pos hc45] at h
    refine lv_sipush (v := (1001 : Int32)) hx hb dX7_readSum_54 (by decide) ?_
    exact F_X7_readSum_57_ok hdd hrc0 hrc1 hrc2 hrc3 hrc4 hrc5 hrc6 hrc7 X hr hlk v0 v1 v2 (1001 : Int32) hW7 t9.2 _ h hK H locs ls O (lv_sub hl [0, 1, 2] rfl)
  rw [if_neg hc45] at h
  refine lv_sipush (v := (1000 : Int32)) hx hb dX7_readSum_48 (by decide) ?_
  refine lv_goto (tgt := 57) hx hb dX7_readSum_51 (by decide) ?_
  exact F_X7_readSum_57_ok hdd hrc0 hrc1 hrc2 hrc3 hrc4 hrc5 hrc6 hrc7 X hr hlk v0 v1 v2 (1000 : Int32) hW7 t9.2 _ h hK H locs ls O (lv_sub hl [0, 1, 2] rfl)
set_option maxRecDepth 100000 in
set_option maxHeartbeats 4000000 in
theorem F_X7_readSum_81_ok {dd : Nat} (hdd : 7 ≤ dd) {rc : Nat → Nat → Int32 → xM → Option (xM)} (hrc0 : ∀ (κ : xQ) (a0 : Nat) (a1 : Int32) (M mo : xM), rc 0 a0 a1 M = some mo → xC l yX7_readAtom cX7_readAtom 3 none dd 0 0 κ [.ref (κ.1 + a0), .int a1] M none mo) (hrc1 : ∀ (κ : xQ) (a0 : Nat) (a1 : Int32) (M mo : xM), rc 1 a0 a1 M = some mo → xC l yX7_readBoth cX7_readBoth 3 none dd 0 0 κ [.ref (κ.1 + a0), .int a1] M none mo) (hrc2 : ∀ (κ : xQ) (a0 : Nat) (a1 : Int32) (M mo : xM), rc 2 a0 a1 M = some mo → xC l yX7_readChoice cX7_readChoice 2 none dd 0 0 κ [.ref (κ.1 + a0), .int a1] M none mo) (hrc3 : ∀ (κ : xQ) (a0 : Nat) (a1 : Int32) (M mo : xM), rc 3 a0 a1 M = some mo → xC l yX7_readComparison cX7_readComparison 3 none dd 0 0 κ [.ref (κ.1 + a0), .int a1] M none mo) (hrc4 : ∀ (κ : xQ) (a0 : Nat) (a1 : Int32) (M mo : xM), rc 4 a0 a1 M = some mo → xC l yX7_readSum cX7_readSum 4 none dd 0 0 κ [.ref (κ.1 + a0), .int a1] M none mo) (hrc5 : ∀ (κ : xQ) (a0 : Nat) (a1 : Int32) (M mo : xM), rc 5 a0 a1 M = some mo → xC l yX7_readTerm cX7_readTerm 3 none dd 0 0 κ [.ref (κ.1 + a0), .int a1] M none mo) (hrc6 : ∀ (κ : xQ) (a0 : Nat) (a1 : Int32) (M mo : xM), rc 6 a0 a1 M = some mo → xC l yX7_readTruth cX7_readTruth 3 none dd 0 0 κ [.ref (κ.1 + a0), .int a1] M none mo) (hrc7 : ∀ (κ : xQ) (a0 : Nat) (a1 : Int32) (M mo : xM), rc 7 a0 a1 M = some mo → xC l yX7_readUnit cX7_readUnit 2 none dd 0 0 κ [.ref (κ.1 + a0), .int a1] M none mo) (X : xX p s m args c cX7_readSum 4 RX7 κ) (hr : meth.sig.returnType = none) (hlk : meth.locks = false) {mo : xM} (M : xM) (x : xM) (h : F_X7_readSum_81 rc M = some x) (hK : (fun o => o = mo) x) (H : Heap) (locs : List Loc) (ls : Array Slot) (O : xO κ s M H locs) (hl : lv_has ls 4 []) : W p l e (xRm (dd + 1) 0 0) s m args below meth c H locs 0 0 (xQf below args s 0 0 κ none mo) (F0 m 81 ls []) := by
  unfold F_X7_readSum_81 at h
  have hx := X.1
  have hb := X.2.1
  rw [← Option.some.inj h] at hK
  have hK : M = mo := hK
  rw [hK] at O
  exact xr_vret X hr hlk O dX7_readSum_81
set_option maxRecDepth 100000 in
set_option maxHeartbeats 4000000 in
theorem F_X7_readSum_7_bok {dd : Nat} (hdd : 7 ≤ dd) {rc : Nat → Nat → Int32 → xM → Option (xM)} (hrc0 : ∀ (κ : xQ) (a0 : Nat) (a1 : Int32) (M mo : xM), rc 0 a0 a1 M = some mo → xC l yX7_readAtom cX7_readAtom 3 none dd 0 0 κ [.ref (κ.1 + a0), .int a1] M none mo) (hrc1 : ∀ (κ : xQ) (a0 : Nat) (a1 : Int32) (M mo : xM), rc 1 a0 a1 M = some mo → xC l yX7_readBoth cX7_readBoth 3 none dd 0 0 κ [.ref (κ.1 + a0), .int a1] M none mo) (hrc2 : ∀ (κ : xQ) (a0 : Nat) (a1 : Int32) (M mo : xM), rc 2 a0 a1 M = some mo → xC l yX7_readChoice cX7_readChoice 2 none dd 0 0 κ [.ref (κ.1 + a0), .int a1] M none mo) (hrc3 : ∀ (κ : xQ) (a0 : Nat) (a1 : Int32) (M mo : xM), rc 3 a0 a1 M = some mo → xC l yX7_readComparison cX7_readComparison 3 none dd 0 0 κ [.ref (κ.1 + a0), .int a1] M none mo) (hrc4 : ∀ (κ : xQ) (a0 : Nat) (a1 : Int32) (M mo : xM), rc 4 a0 a1 M = some mo → xC l yX7_readSum cX7_readSum 4 none dd 0 0 κ [.ref (κ.1 + a0), .int a1] M none mo) (hrc5 : ∀ (κ : xQ) (a0 : Nat) (a1 : Int32) (M mo : xM), rc 5 a0 a1 M = some mo → xC l yX7_readTerm cX7_readTerm 3 none dd 0 0 κ [.ref (κ.1 + a0), .int a1] M none mo) (hrc6 : ∀ (κ : xQ) (a0 : Nat) (a1 : Int32) (M mo : xM), rc 6 a0 a1 M = some mo → xC l yX7_readTruth cX7_readTruth 3 none dd 0 0 κ [.ref (κ.1 + a0), .int a1] M none mo) (hrc7 : ∀ (κ : xQ) (a0 : Nat) (a1 : Int32) (M mo : xM), rc 7 a0 a1 M = some mo → xC l yX7_readUnit cX7_readUnit 2 none dd 0 0 κ [.ref (κ.1 + a0), .int a1] M none mo) (X : xX p s m args c cX7_readSum 4 RX7 κ) (hr : meth.sig.returnType = none) (hlk : meth.locks = false) {mo : xM} (v0 : Nat) (v1 : Int32) (v2 : Int32) {W7 : Int32 × xM → Prop} (hW7 : ∀ (v2 : Int32) (M : xM), W7 (v2, M) → ∀ (H : Heap) (locs : List Loc) (ls : Array Slot), xO κ s M H locs → lv_has ls 4 [(0, .ref (κ.1 + v0)), (1, .int v1), (2, .int v2)] → W p l e (xRm (dd + 1) 0 0) s m args below meth c H locs 0 0 (xQf below args s 0 0 κ none mo) (F0 m 7 ls [])) (M : xM) (x : (Int32 × xM) ⊕ (xM)) (h : F_X7_readSum_7b rc v0 v1 (v2, M) = some x) (hK : (xKl W7 (fun o => o = mo)) x) (H : Heap) (locs : List Loc) (ls : Array Slot) (O : xO κ s M H locs) (hl : lv_has ls 4 [(0, .ref (κ.1 + v0)), (1, .int v1), (2, .int v2)]) : W p l e (xRm (dd + 1) 0 0) s m args below meth c H locs 0 0 (xQf below args s 0 0 κ none mo) (F0 m 7 ls []) := by
  unfold F_X7_readSum_7b at h
  dsimp only at h
  have hx := X.1
  have hb := X.2.1
  refine lv_iload_n hx hb dX7_readSum_7 rfl (lv_at hl 2 rfl) ?_
  refine lv_sipush (v := (900 : Int32)) hx hb dX7_readSum_8 (by decide) ?_
  refine lv_icmp_ge (tgt := 81) hx hb dX7_readSum_11 (by decide) (fun hc11 => ?_) (fun hc11 => ?_)
  · rw [if_pos hc11] at h
    obtain ⟨_, hw0, ew0⟩ := Option.map_eq_some_iff.mp h
    rw [← ew0] at hK
    have h := hw0
    exact F_X7_readSum_81_ok hdd hrc0 hrc1 hrc2 hrc3 hrc4 hrc5 hrc6 hrc7 X hr hlk  M _ h hK H locs ls O (lv_sub hl [] rfl)
  rw [if_neg hc11] at h
  refine lv_aload_n hx hb dX7_readSum_14 rfl (lv_at hl 0 rfl) ?_
  obtain ⟨t3, ht3, h⟩ := Option.bind_eq_some_iff.mp h
  refine xr_getI X O ht3 fl_X7_48 (Or.inl rfl) dX7_readSum_15 ?_
  refine lv_if_ne (tgt := 81) hx hb dX7_readSum_18 (by decide) (fun hc18 => ?_) (fun hc18 => ?_)
  · rw [if_neg hc18] at h
    obtain ⟨_, hw0, ew0⟩ := Option.map_eq_some_iff.mp h
    rw [← ew0] at hK
    have h := hw0
    exact F_X7_readSum_81_ok hdd hrc0 hrc1 hrc2 hrc3 hrc4 hrc5 hrc6 hrc7 X hr hlk  M _ h hK H locs ls O (lv_sub hl [] rfl)
  rw [if_pos hc18] at h
  refine lv_aload_n hx hb dX7_readSum_21 rfl (lv_at hl 0 rfl) ?_
  refine lv_bipush (v := (43 : Int32)) hx hb dX7_readSum_22 (by decide) ?_
  obtain ⟨_, hut4, h⟩ := Option.bind_eq_some_iff.mp h
  obtain ⟨t5, ht5, h⟩ := Option.bind_eq_some_iff.mp h
  refine xr_callV (rest := []) X O (T_X7_atSign l κ v0 (43 : Int32) M _ _ ht5) lk_X7_107 hut4 (by omega) rfl hl.1 rfl (Nat.le_of_ble_eq_true rfl) dX7_readSum_24 ⟨Nat.le_of_ble_eq_true rfl, Nat.le_of_ble_eq_true rfl⟩ (fun H locs O => ?_)
  refine W.eq (g2 := F0 m 27 ls [.int t5.1]) rfl ?_
  refine lv_if_ne (tgt := 39) hx hb dX7_readSum_27 (by decide) (fun hc27 => ?_) (fun hc27 => ?_)
  · rw [if_neg hc27] at h
    exact F_X7_readSum_39_ok hdd hrc0 hrc1 hrc2 hrc3 hrc4 hrc5 hrc6 hrc7 X hr hlk v0 v1 v2 hW7 t5.2 _ h hK H locs ls O (lv_sub hl [0, 1, 2] rfl)
  rw [if_pos hc27] at h
  refine lv_aload_n hx hb dX7_readSum_30 rfl (lv_at hl 0 rfl) ?_
  refine lv_bipush (v := (45 : Int32)) hx hb dX7_readSum_31 (by decide) ?_
  obtain ⟨_, hut6, h⟩ := Option.bind_eq_some_iff.mp h
  obtain ⟨t7, ht7, h⟩ := Option.bind_eq_some_iff.mp h
  refine xr_callV (rest := []) X O (T_X7_atSign l κ v0 (45 : Int32) t5.2 _ _ ht7) lk_X7_107 hut6 (by omega) rfl hl.1 rfl (Nat.le_of_ble_eq_true rfl) dX7_readSum_33 ⟨Nat.le_of_ble_eq_true rfl, Nat.le_of_ble_eq_true rfl⟩ (fun H locs O => ?_)
  refine W.eq (g2 := F0 m 36 ls [.int t7.1]) rfl ?_
  refine lv_if_eq (tgt := 81) hx hb dX7_readSum_36 (by decide) (fun hc36 => ?_) (fun hc36 => ?_)
  · rw [if_pos hc36] at h
    obtain ⟨_, hw0, ew0⟩ := Option.map_eq_some_iff.mp h
    rw [← ew0] at hK
    have h := hw0
    exact F_X7_readSum_81_ok hdd hrc0 hrc1 hrc2 hrc3 hrc4 hrc5 hrc6 hrc7 X hr hlk  t7.2 _ h hK H locs ls O (lv_sub hl [] rfl)
  rw [if_neg hc36] at h
  exact F_X7_readSum_39_ok hdd hrc0 hrc1 hrc2 hrc3 hrc4 hrc5 hrc6 hrc7 X hr hlk v0 v1 v2 hW7 t7.2 _ h hK H locs ls O (lv_sub hl [0, 1, 2] rfl)
set_option maxRecDepth 100000 in
set_option maxHeartbeats 4000000 in
theorem F_X7_readSum_7_ok {dd : Nat} (hdd : 7 ≤ dd) {rc : Nat → Nat → Int32 → xM → Option (xM)} (hrc0 : ∀ (κ : xQ) (a0 : Nat) (a1 : Int32) (M mo : xM), rc 0 a0 a1 M = some mo → xC l yX7_readAtom cX7_readAtom 3 none dd 0 0 κ [.ref (κ.1 + a0), .int a1] M none mo) (hrc1 : ∀ (κ : xQ) (a0 : Nat) (a1 : Int32) (M mo : xM), rc 1 a0 a1 M = some mo → xC l yX7_readBoth cX7_readBoth 3 none dd 0 0 κ [.ref (κ.1 + a0), .int a1] M none mo) (hrc2 : ∀ (κ : xQ) (a0 : Nat) (a1 : Int32) (M mo : xM), rc 2 a0 a1 M = some mo → xC l yX7_readChoice cX7_readChoice 2 none dd 0 0 κ [.ref (κ.1 + a0), .int a1] M none mo) (hrc3 : ∀ (κ : xQ) (a0 : Nat) (a1 : Int32) (M mo : xM), rc 3 a0 a1 M = some mo → xC l yX7_readComparison cX7_readComparison 3 none dd 0 0 κ [.ref (κ.1 + a0), .int a1] M none mo) (hrc4 : ∀ (κ : xQ) (a0 : Nat) (a1 : Int32) (M mo : xM), rc 4 a0 a1 M = some mo → xC l yX7_readSum cX7_readSum 4 none dd 0 0 κ [.ref (κ.1 + a0), .int a1] M none mo) (hrc5 : ∀ (κ : xQ) (a0 : Nat) (a1 : Int32) (M mo : xM), rc 5 a0 a1 M = some mo → xC l yX7_readTerm cX7_readTerm 3 none dd 0 0 κ [.ref (κ.1 + a0), .int a1] M none mo) (hrc6 : ∀ (κ : xQ) (a0 : Nat) (a1 : Int32) (M mo : xM), rc 6 a0 a1 M = some mo → xC l yX7_readTruth cX7_readTruth 3 none dd 0 0 κ [.ref (κ.1 + a0), .int a1] M none mo) (hrc7 : ∀ (κ : xQ) (a0 : Nat) (a1 : Int32) (M mo : xM), rc 7 a0 a1 M = some mo → xC l yX7_readUnit cX7_readUnit 2 none dd 0 0 κ [.ref (κ.1 + a0), .int a1] M none mo) (X : xX p s m args c cX7_readSum 4 RX7 κ) (hr : meth.sig.returnType = none) (hlk : meth.locks = false) {mo : xM} (v0 : Nat) (v1 : Int32) (v2 : Int32) (M : xM) (x : xM) (h : F_X7_readSum_7 rc v0 v1 v2 M = some x) (hK : (fun o => o = mo) x) (H : Heap) (locs : List Loc) (ls : Array Slot) (O : xO κ s M H locs) (hl : lv_has ls 4 [(0, .ref (κ.1 + v0)), (1, .int v1), (2, .int v2)]) : W p l e (xRm (dd + 1) 0 0) s m args below meth c H locs 0 0 (xQf below args s 0 0 κ none mo) (F0 m 7 ls []) := by
  refine xit_K (Wh := fun x => ∀ (H : Heap) (locs : List Loc) (ls : Array Slot), xO κ s x.2 H locs → lv_has ls 4 [(0, .ref (κ.1 + v0)), (1, .int v1), (2, .int x.1)] → W p l e (xRm (dd + 1) 0 0) s m args below meth c H locs 0 0 (xQf below args s 0 0 κ none mo) (F0 m 7 ls [])) (Kp := (fun o => o = mo)) ?_ xFU (v2, M) x h hK H locs ls O hl
  intro y x h hK H locs ls O hl
  exact F_X7_readSum_7_bok hdd hrc0 hrc1 hrc2 hrc3 hrc4 hrc5 hrc6 hrc7 X hr hlk v0 v1 y.1 (fun _ _ hw => hw) y.2 x h hK H locs ls O hl
set_option maxRecDepth 100000 in
set_option maxHeartbeats 4000000 in
theorem To_X7_readSum (l : Launch) {dd : Nat} (hdd : 7 ≤ dd) {rc : Nat → Nat → Int32 → xM → Option (xM)} (hrc0 : ∀ (κ : xQ) (a0 : Nat) (a1 : Int32) (M mo : xM), rc 0 a0 a1 M = some mo → xC l yX7_readAtom cX7_readAtom 3 none dd 0 0 κ [.ref (κ.1 + a0), .int a1] M none mo) (hrc1 : ∀ (κ : xQ) (a0 : Nat) (a1 : Int32) (M mo : xM), rc 1 a0 a1 M = some mo → xC l yX7_readBoth cX7_readBoth 3 none dd 0 0 κ [.ref (κ.1 + a0), .int a1] M none mo) (hrc2 : ∀ (κ : xQ) (a0 : Nat) (a1 : Int32) (M mo : xM), rc 2 a0 a1 M = some mo → xC l yX7_readChoice cX7_readChoice 2 none dd 0 0 κ [.ref (κ.1 + a0), .int a1] M none mo) (hrc3 : ∀ (κ : xQ) (a0 : Nat) (a1 : Int32) (M mo : xM), rc 3 a0 a1 M = some mo → xC l yX7_readComparison cX7_readComparison 3 none dd 0 0 κ [.ref (κ.1 + a0), .int a1] M none mo) (hrc4 : ∀ (κ : xQ) (a0 : Nat) (a1 : Int32) (M mo : xM), rc 4 a0 a1 M = some mo → xC l yX7_readSum cX7_readSum 4 none dd 0 0 κ [.ref (κ.1 + a0), .int a1] M none mo) (hrc5 : ∀ (κ : xQ) (a0 : Nat) (a1 : Int32) (M mo : xM), rc 5 a0 a1 M = some mo → xC l yX7_readTerm cX7_readTerm 3 none dd 0 0 κ [.ref (κ.1 + a0), .int a1] M none mo) (hrc6 : ∀ (κ : xQ) (a0 : Nat) (a1 : Int32) (M mo : xM), rc 6 a0 a1 M = some mo → xC l yX7_readTruth cX7_readTruth 3 none dd 0 0 κ [.ref (κ.1 + a0), .int a1] M none mo) (hrc7 : ∀ (κ : xQ) (a0 : Nat) (a1 : Int32) (M mo : xM), rc 7 a0 a1 M = some mo → xC l yX7_readUnit cX7_readUnit 2 none dd 0 0 κ [.ref (κ.1 + a0), .int a1] M none mo) (κ : xQ) (a0 : Nat) (a1 : Int32) (M : xM) (mo : xM) (h : F_X7_readSum rc a0 a1 M = some mo) : xC l yX7_readSum cX7_readSum 4 none (dd + 1) 0 0 κ [.ref (κ.1 + a0), .int a1] M none mo := by
  refine xC_of rfl (Nat.le_of_ble_eq_true rfl) fun p e s m args below meth c X hr hlk hnm H locs ls O hl => ?_
  have X : xX p s m args c cX7_readSum 4 RX7 κ := X
  have hl : lv_has ls 4 [(0, .ref (κ.1 + a0)), (1, .int a1)] := hl
  have hx := X.1
  have hb := X.2.1
  obtain ⟨x, hx0⟩ : ∃ x, mo = x := ⟨_, rfl⟩
  rw [hx0] at h
  have hK : x = mo := hx0.symm
  unfold F_X7_readSum at h
  refine lv_aload_n hx hb dX7_readSum_0 rfl (lv_at hl 0 rfl) ?_
  refine lv_iload_n hx hb dX7_readSum_1 rfl (lv_at hl 1 rfl) ?_
  obtain ⟨_, hut1, h⟩ := Option.bind_eq_some_iff.mp h
  obtain ⟨t2, ht2, h⟩ := Option.bind_eq_some_iff.mp h
  refine xr_callV (rest := []) X O (hrc5 κ a0 a1 M _ ht2) lk_X7_238 hut1 (Nat.le_refl _) rfl hl.1 rfl (Nat.le_of_ble_eq_true rfl) dX7_readSum_2 ⟨Nat.le_of_ble_eq_true rfl, Nat.le_of_ble_eq_true rfl⟩ (fun H locs O => ?_)
  refine W.eq (g2 := F0 m 5 ls []) rfl ?_
  refine lv_iconst (v := (0 : Int32)) hx hb dX7_readSum_5 (by decide) ?_
  refine lv_istore_n (lv' := [(2, .int (0 : Int32)), (0, .ref (κ.1 + a0)), (1, .int a1)]) hx hb dX7_readSum_6 rfl hl (by decide) rfl (fun ls hl => ?_)
  exact F_X7_readSum_7_ok hdd hrc0 hrc1 hrc2 hrc3 hrc4 hrc5 hrc6 hrc7 X hr hlk a0 a1 (0 : Int32) t2 _ h hK H locs ls O (lv_sub hl [1, 2, 0] rfl)
set_option maxRecDepth 100000 in
set_option maxHeartbeats 4000000 in
theorem F_X7_readTerm_55_ok {dd : Nat} (hdd : 7 ≤ dd) {rc : Nat → Nat → Int32 → xM → Option (xM)} (hrc0 : ∀ (κ : xQ) (a0 : Nat) (a1 : Int32) (M mo : xM), rc 0 a0 a1 M = some mo → xC l yX7_readAtom cX7_readAtom 3 none dd 0 0 κ [.ref (κ.1 + a0), .int a1] M none mo) (hrc1 : ∀ (κ : xQ) (a0 : Nat) (a1 : Int32) (M mo : xM), rc 1 a0 a1 M = some mo → xC l yX7_readBoth cX7_readBoth 3 none dd 0 0 κ [.ref (κ.1 + a0), .int a1] M none mo) (hrc2 : ∀ (κ : xQ) (a0 : Nat) (a1 : Int32) (M mo : xM), rc 2 a0 a1 M = some mo → xC l yX7_readChoice cX7_readChoice 2 none dd 0 0 κ [.ref (κ.1 + a0), .int a1] M none mo) (hrc3 : ∀ (κ : xQ) (a0 : Nat) (a1 : Int32) (M mo : xM), rc 3 a0 a1 M = some mo → xC l yX7_readComparison cX7_readComparison 3 none dd 0 0 κ [.ref (κ.1 + a0), .int a1] M none mo) (hrc4 : ∀ (κ : xQ) (a0 : Nat) (a1 : Int32) (M mo : xM), rc 4 a0 a1 M = some mo → xC l yX7_readSum cX7_readSum 4 none dd 0 0 κ [.ref (κ.1 + a0), .int a1] M none mo) (hrc5 : ∀ (κ : xQ) (a0 : Nat) (a1 : Int32) (M mo : xM), rc 5 a0 a1 M = some mo → xC l yX7_readTerm cX7_readTerm 3 none dd 0 0 κ [.ref (κ.1 + a0), .int a1] M none mo) (hrc6 : ∀ (κ : xQ) (a0 : Nat) (a1 : Int32) (M mo : xM), rc 6 a0 a1 M = some mo → xC l yX7_readTruth cX7_readTruth 3 none dd 0 0 κ [.ref (κ.1 + a0), .int a1] M none mo) (hrc7 : ∀ (κ : xQ) (a0 : Nat) (a1 : Int32) (M mo : xM), rc 7 a0 a1 M = some mo → xC l yX7_readUnit cX7_readUnit 2 none dd 0 0 κ [.ref (κ.1 + a0), .int a1] M none mo) (X : xX p s m args c cX7_readTerm 3 RX7 κ) (hr : meth.sig.returnType = none) (hlk : meth.locks = false) {mo : xM} (M : xM) (x : xM) (h : F_X7_readTerm_55 rc M = some x) (hK : (fun o => o = mo) x) (H : Heap) (locs : List Loc) (ls : Array Slot) (O : xO κ s M H locs) (hl : lv_has ls 3 []) : W p l e (xRm (dd + 1) 0 0) s m args below meth c H locs 0 0 (xQf below args s 0 0 κ none mo) (F0 m 55 ls []) := by
  unfold F_X7_readTerm_55 at h
  have hx := X.1
  have hb := X.2.1
  rw [← Option.some.inj h] at hK
  have hK : M = mo := hK
  rw [hK] at O
  exact xr_vret X hr hlk O dX7_readTerm_55
set_option maxRecDepth 100000 in
set_option maxHeartbeats 4000000 in
theorem F_X7_readTerm_7_bok {dd : Nat} (hdd : 7 ≤ dd) {rc : Nat → Nat → Int32 → xM → Option (xM)} (hrc0 : ∀ (κ : xQ) (a0 : Nat) (a1 : Int32) (M mo : xM), rc 0 a0 a1 M = some mo → xC l yX7_readAtom cX7_readAtom 3 none dd 0 0 κ [.ref (κ.1 + a0), .int a1] M none mo) (hrc1 : ∀ (κ : xQ) (a0 : Nat) (a1 : Int32) (M mo : xM), rc 1 a0 a1 M = some mo → xC l yX7_readBoth cX7_readBoth 3 none dd 0 0 κ [.ref (κ.1 + a0), .int a1] M none mo) (hrc2 : ∀ (κ : xQ) (a0 : Nat) (a1 : Int32) (M mo : xM), rc 2 a0 a1 M = some mo → xC l yX7_readChoice cX7_readChoice 2 none dd 0 0 κ [.ref (κ.1 + a0), .int a1] M none mo) (hrc3 : ∀ (κ : xQ) (a0 : Nat) (a1 : Int32) (M mo : xM), rc 3 a0 a1 M = some mo → xC l yX7_readComparison cX7_readComparison 3 none dd 0 0 κ [.ref (κ.1 + a0), .int a1] M none mo) (hrc4 : ∀ (κ : xQ) (a0 : Nat) (a1 : Int32) (M mo : xM), rc 4 a0 a1 M = some mo → xC l yX7_readSum cX7_readSum 4 none dd 0 0 κ [.ref (κ.1 + a0), .int a1] M none mo) (hrc5 : ∀ (κ : xQ) (a0 : Nat) (a1 : Int32) (M mo : xM), rc 5 a0 a1 M = some mo → xC l yX7_readTerm cX7_readTerm 3 none dd 0 0 κ [.ref (κ.1 + a0), .int a1] M none mo) (hrc6 : ∀ (κ : xQ) (a0 : Nat) (a1 : Int32) (M mo : xM), rc 6 a0 a1 M = some mo → xC l yX7_readTruth cX7_readTruth 3 none dd 0 0 κ [.ref (κ.1 + a0), .int a1] M none mo) (hrc7 : ∀ (κ : xQ) (a0 : Nat) (a1 : Int32) (M mo : xM), rc 7 a0 a1 M = some mo → xC l yX7_readUnit cX7_readUnit 2 none dd 0 0 κ [.ref (κ.1 + a0), .int a1] M none mo) (X : xX p s m args c cX7_readTerm 3 RX7 κ) (hr : meth.sig.returnType = none) (hlk : meth.locks = false) {mo : xM} (v0 : Nat) (v1 : Int32) (v2 : Int32) {W7 : Int32 × xM → Prop} (hW7 : ∀ (v2 : Int32) (M : xM), W7 (v2, M) → ∀ (H : Heap) (locs : List Loc) (ls : Array Slot), xO κ s M H locs → lv_has ls 3 [(0, .ref (κ.1 + v0)), (1, .int v1), (2, .int v2)] → W p l e (xRm (dd + 1) 0 0) s m args below meth c H locs 0 0 (xQf below args s 0 0 κ none mo) (F0 m 7 ls [])) (M : xM) (x : (Int32 × xM) ⊕ (xM)) (h : F_X7_readTerm_7b rc v0 v1 (v2, M) = some x) (hK : (xKl W7 (fun o => o = mo)) x) (H : Heap) (locs : List Loc) (ls : Array Slot) (O : xO κ s M H locs) (hl : lv_has ls 3 [(0, .ref (κ.1 + v0)), (1, .int v1), (2, .int v2)]) : W p l e (xRm (dd + 1) 0 0) s m args below meth c H locs 0 0 (xQf below args s 0 0 κ none mo) (F0 m 7 ls []) := by
  unfold F_X7_readTerm_7b at h
  dsimp only at h
  have hx := X.1
  have hb := X.2.1
  refine lv_iload_n hx hb dX7_readTerm_7 rfl (lv_at hl 2 rfl) ?_
  refine lv_sipush (v := (900 : Int32)) hx hb dX7_readTerm_8 (by decide) ?_
  refine lv_icmp_ge (tgt := 55) hx hb dX7_readTerm_11 (by decide) (fun hc11 => ?_) (fun hc11 => ?_)
  · rw [if_pos hc11] at h
    obtain ⟨_, hw0, ew0⟩ := Option.map_eq_some_iff.mp h
    rw [← ew0] at hK
    have h := hw0
    exact F_X7_readTerm_55_ok hdd hrc0 hrc1 hrc2 hrc3 hrc4 hrc5 hrc6 hrc7 X hr hlk  M _ h hK H locs ls O (lv_sub hl [] rfl)
  rw [if_neg hc11] at h
  refine lv_aload_n hx hb dX7_readTerm_14 rfl (lv_at hl 0 rfl) ?_
  obtain ⟨t3, ht3, h⟩ := Option.bind_eq_some_iff.mp h
  refine xr_getI X O ht3 fl_X7_48 (Or.inl rfl) dX7_readTerm_15 ?_
  refine lv_if_ne (tgt := 55) hx hb dX7_readTerm_18 (by decide) (fun hc18 => ?_) (fun hc18 => ?_)
  · rw [if_neg hc18] at h
    obtain ⟨_, hw0, ew0⟩ := Option.map_eq_some_iff.mp h
    rw [← ew0] at hK
    have h := hw0
    exact F_X7_readTerm_55_ok hdd hrc0 hrc1 hrc2 hrc3 hrc4 hrc5 hrc6 hrc7 X hr hlk  M _ h hK H locs ls O (lv_sub hl [] rfl)
  rw [if_pos hc18] at h
  refine lv_aload_n hx hb dX7_readTerm_21 rfl (lv_at hl 0 rfl) ?_
  refine lv_bipush (v := (42 : Int32)) hx hb dX7_readTerm_22 (by decide) ?_
  obtain ⟨_, hut4, h⟩ := Option.bind_eq_some_iff.mp h
  obtain ⟨t5, ht5, h⟩ := Option.bind_eq_some_iff.mp h
  refine xr_callV (rest := []) X O (T_X7_atSign l κ v0 (42 : Int32) M _ _ ht5) lk_X7_107 hut4 (by omega) rfl hl.1 rfl (Nat.le_of_ble_eq_true rfl) dX7_readTerm_24 ⟨Nat.le_of_ble_eq_true rfl, Nat.le_of_ble_eq_true rfl⟩ (fun H locs O => ?_)
  refine W.eq (g2 := F0 m 27 ls [.int t5.1]) rfl ?_
  refine lv_if_eq (tgt := 55) hx hb dX7_readTerm_27 (by decide) (fun hc27 => ?_) (fun hc27 => ?_)
  · rw [if_pos hc27] at h
    obtain ⟨_, hw0, ew0⟩ := Option.map_eq_some_iff.mp h
    rw [← ew0] at hK
    have h := hw0
    exact F_X7_readTerm_55_ok hdd hrc0 hrc1 hrc2 hrc3 hrc4 hrc5 hrc6 hrc7 X hr hlk  t5.2 _ h hK H locs ls O (lv_sub hl [] rfl)
  rw [if_neg hc27] at h
  refine lv_aload_n hx hb dX7_readTerm_30 rfl (lv_at hl 0 rfl) ?_
  obtain ⟨_, hut6, h⟩ := Option.bind_eq_some_iff.mp h
  obtain ⟨t7, ht7, h⟩ := Option.bind_eq_some_iff.mp h
  refine xr_callV (rest := []) X O (T_X7_step l κ v0 t5.2 _ ht7) lk_X7_58 hut6 (by omega) rfl hl.1 rfl (Nat.le_of_ble_eq_true rfl) dX7_readTerm_31 ⟨Nat.le_of_ble_eq_true rfl, Nat.le_of_ble_eq_true rfl⟩ (fun H locs O => ?_)
  refine W.eq (g2 := F0 m 34 ls []) rfl ?_
  refine lv_aload_n hx hb dX7_readTerm_34 rfl (lv_at hl 0 rfl) ?_
  refine lv_iload_n hx hb dX7_readTerm_35 rfl (lv_at hl 1 rfl) ?_
  obtain ⟨_, hut8, h⟩ := Option.bind_eq_some_iff.mp h
  obtain ⟨t9, ht9, h⟩ := Option.bind_eq_some_iff.mp h
  refine xr_callV (rest := []) X O (hrc0 κ v0 v1 t7 _ ht9) lk_X7_246 hut8 (Nat.le_refl _) rfl hl.1 rfl (Nat.le_of_ble_eq_true rfl) dX7_readTerm_36 ⟨Nat.le_of_ble_eq_true rfl, Nat.le_of_ble_eq_true rfl⟩ (fun H locs O => ?_)
  refine W.eq (g2 := F0 m 39 ls []) rfl ?_
  refine lv_aload_n hx hb dX7_readTerm_39 rfl (lv_at hl 0 rfl) ?_
  obtain ⟨t10, ht10, h⟩ := Option.bind_eq_some_iff.mp h
  refine xr_getP X O ht10 fl_X7_22 dX7_readTerm_40 ?_
  refine lv_sipush (v := (1002 : Int32)) hx hb dX7_readTerm_43 (by decide) ?_
  obtain ⟨_, hut11, h⟩ := Option.bind_eq_some_iff.mp h
  obtain ⟨t12, ht12, h⟩ := Option.bind_eq_some_iff.mp h
  refine xr_callV (rest := []) X O (T_X3_emit l κ t10 (1002 : Int32) t9 _ ht12) lk_X7_243 hut11 (by omega) rfl hl.1 rfl (Nat.le_of_ble_eq_true rfl) dX7_readTerm_46 ⟨Nat.le_of_ble_eq_true rfl, Nat.le_of_ble_eq_true rfl⟩ (fun H locs O => ?_)
  refine W.eq (g2 := F0 m 49 ls []) rfl ?_
  refine lv_iinc (v := (v2 + 1)) (lv' := [(2, .int (v2 + 1)), (0, .ref (κ.1 + v0)), (1, .int v1)]) hx hb dX7_readTerm_49 hl (k := 2) rfl rfl (by decide) rfl (fun ls hl => ?_)
  refine lv_goto (tgt := 7) hx hb dX7_readTerm_52 (by decide) ?_
  rw [← Option.some.inj h] at hK
  exact hW7 (v2 + 1) t12 hK H locs ls O (lv_sub hl [1, 2, 0] rfl)
set_option maxRecDepth 100000 in
set_option maxHeartbeats 4000000 in
theorem F_X7_readTerm_7_ok {dd : Nat} (hdd : 7 ≤ dd) {rc : Nat → Nat → Int32 → xM → Option (xM)} (hrc0 : ∀ (κ : xQ) (a0 : Nat) (a1 : Int32) (M mo : xM), rc 0 a0 a1 M = some mo → xC l yX7_readAtom cX7_readAtom 3 none dd 0 0 κ [.ref (κ.1 + a0), .int a1] M none mo) (hrc1 : ∀ (κ : xQ) (a0 : Nat) (a1 : Int32) (M mo : xM), rc 1 a0 a1 M = some mo → xC l yX7_readBoth cX7_readBoth 3 none dd 0 0 κ [.ref (κ.1 + a0), .int a1] M none mo) (hrc2 : ∀ (κ : xQ) (a0 : Nat) (a1 : Int32) (M mo : xM), rc 2 a0 a1 M = some mo → xC l yX7_readChoice cX7_readChoice 2 none dd 0 0 κ [.ref (κ.1 + a0), .int a1] M none mo) (hrc3 : ∀ (κ : xQ) (a0 : Nat) (a1 : Int32) (M mo : xM), rc 3 a0 a1 M = some mo → xC l yX7_readComparison cX7_readComparison 3 none dd 0 0 κ [.ref (κ.1 + a0), .int a1] M none mo) (hrc4 : ∀ (κ : xQ) (a0 : Nat) (a1 : Int32) (M mo : xM), rc 4 a0 a1 M = some mo → xC l yX7_readSum cX7_readSum 4 none dd 0 0 κ [.ref (κ.1 + a0), .int a1] M none mo) (hrc5 : ∀ (κ : xQ) (a0 : Nat) (a1 : Int32) (M mo : xM), rc 5 a0 a1 M = some mo → xC l yX7_readTerm cX7_readTerm 3 none dd 0 0 κ [.ref (κ.1 + a0), .int a1] M none mo) (hrc6 : ∀ (κ : xQ) (a0 : Nat) (a1 : Int32) (M mo : xM), rc 6 a0 a1 M = some mo → xC l yX7_readTruth cX7_readTruth 3 none dd 0 0 κ [.ref (κ.1 + a0), .int a1] M none mo) (hrc7 : ∀ (κ : xQ) (a0 : Nat) (a1 : Int32) (M mo : xM), rc 7 a0 a1 M = some mo → xC l yX7_readUnit cX7_readUnit 2 none dd 0 0 κ [.ref (κ.1 + a0), .int a1] M none mo) (X : xX p s m args c cX7_readTerm 3 RX7 κ) (hr : meth.sig.returnType = none) (hlk : meth.locks = false) {mo : xM} (v0 : Nat) (v1 : Int32) (v2 : Int32) (M : xM) (x : xM) (h : F_X7_readTerm_7 rc v0 v1 v2 M = some x) (hK : (fun o => o = mo) x) (H : Heap) (locs : List Loc) (ls : Array Slot) (O : xO κ s M H locs) (hl : lv_has ls 3 [(0, .ref (κ.1 + v0)), (1, .int v1), (2, .int v2)]) : W p l e (xRm (dd + 1) 0 0) s m args below meth c H locs 0 0 (xQf below args s 0 0 κ none mo) (F0 m 7 ls []) := by
  refine xit_K (Wh := fun x => ∀ (H : Heap) (locs : List Loc) (ls : Array Slot), xO κ s x.2 H locs → lv_has ls 3 [(0, .ref (κ.1 + v0)), (1, .int v1), (2, .int x.1)] → W p l e (xRm (dd + 1) 0 0) s m args below meth c H locs 0 0 (xQf below args s 0 0 κ none mo) (F0 m 7 ls [])) (Kp := (fun o => o = mo)) ?_ xFU (v2, M) x h hK H locs ls O hl
  intro y x h hK H locs ls O hl
  exact F_X7_readTerm_7_bok hdd hrc0 hrc1 hrc2 hrc3 hrc4 hrc5 hrc6 hrc7 X hr hlk v0 v1 y.1 (fun _ _ hw => hw) y.2 x h hK H locs ls O hl
set_option maxRecDepth 100000 in
set_option maxHeartbeats 4000000 in
theorem To_X7_readTerm (l : Launch) {dd : Nat} (hdd : 7 ≤ dd) {rc : Nat → Nat → Int32 → xM → Option (xM)} (hrc0 : ∀ (κ : xQ) (a0 : Nat) (a1 : Int32) (M mo : xM), rc 0 a0 a1 M = some mo → xC l yX7_readAtom cX7_readAtom 3 none dd 0 0 κ [.ref (κ.1 + a0), .int a1] M none mo) (hrc1 : ∀ (κ : xQ) (a0 : Nat) (a1 : Int32) (M mo : xM), rc 1 a0 a1 M = some mo → xC l yX7_readBoth cX7_readBoth 3 none dd 0 0 κ [.ref (κ.1 + a0), .int a1] M none mo) (hrc2 : ∀ (κ : xQ) (a0 : Nat) (a1 : Int32) (M mo : xM), rc 2 a0 a1 M = some mo → xC l yX7_readChoice cX7_readChoice 2 none dd 0 0 κ [.ref (κ.1 + a0), .int a1] M none mo) (hrc3 : ∀ (κ : xQ) (a0 : Nat) (a1 : Int32) (M mo : xM), rc 3 a0 a1 M = some mo → xC l yX7_readComparison cX7_readComparison 3 none dd 0 0 κ [.ref (κ.1 + a0), .int a1] M none mo) (hrc4 : ∀ (κ : xQ) (a0 : Nat) (a1 : Int32) (M mo : xM), rc 4 a0 a1 M = some mo → xC l yX7_readSum cX7_readSum 4 none dd 0 0 κ [.ref (κ.1 + a0), .int a1] M none mo) (hrc5 : ∀ (κ : xQ) (a0 : Nat) (a1 : Int32) (M mo : xM), rc 5 a0 a1 M = some mo → xC l yX7_readTerm cX7_readTerm 3 none dd 0 0 κ [.ref (κ.1 + a0), .int a1] M none mo) (hrc6 : ∀ (κ : xQ) (a0 : Nat) (a1 : Int32) (M mo : xM), rc 6 a0 a1 M = some mo → xC l yX7_readTruth cX7_readTruth 3 none dd 0 0 κ [.ref (κ.1 + a0), .int a1] M none mo) (hrc7 : ∀ (κ : xQ) (a0 : Nat) (a1 : Int32) (M mo : xM), rc 7 a0 a1 M = some mo → xC l yX7_readUnit cX7_readUnit 2 none dd 0 0 κ [.ref (κ.1 + a0), .int a1] M none mo) (κ : xQ) (a0 : Nat) (a1 : Int32) (M : xM) (mo : xM) (h : F_X7_readTerm rc a0 a1 M = some mo) : xC l yX7_readTerm cX7_readTerm 3 none (dd + 1) 0 0 κ [.ref (κ.1 + a0), .int a1] M none mo := by
  refine xC_of rfl (Nat.le_of_ble_eq_true rfl) fun p e s m args below meth c X hr hlk hnm H locs ls O hl => ?_
  have X : xX p s m args c cX7_readTerm 3 RX7 κ := X
  have hl : lv_has ls 3 [(0, .ref (κ.1 + a0)), (1, .int a1)] := hl
  have hx := X.1
  have hb := X.2.1
  obtain ⟨x, hx0⟩ : ∃ x, mo = x := ⟨_, rfl⟩
  rw [hx0] at h
  have hK : x = mo := hx0.symm
  unfold F_X7_readTerm at h
  refine lv_aload_n hx hb dX7_readTerm_0 rfl (lv_at hl 0 rfl) ?_
  refine lv_iload_n hx hb dX7_readTerm_1 rfl (lv_at hl 1 rfl) ?_
  obtain ⟨_, hut1, h⟩ := Option.bind_eq_some_iff.mp h
  obtain ⟨t2, ht2, h⟩ := Option.bind_eq_some_iff.mp h
  refine xr_callV (rest := []) X O (hrc0 κ a0 a1 M _ ht2) lk_X7_246 hut1 (Nat.le_refl _) rfl hl.1 rfl (Nat.le_of_ble_eq_true rfl) dX7_readTerm_2 ⟨Nat.le_of_ble_eq_true rfl, Nat.le_of_ble_eq_true rfl⟩ (fun H locs O => ?_)
  refine W.eq (g2 := F0 m 5 ls []) rfl ?_
  refine lv_iconst (v := (0 : Int32)) hx hb dX7_readTerm_5 (by decide) ?_
  refine lv_istore_n (lv' := [(2, .int (0 : Int32)), (0, .ref (κ.1 + a0)), (1, .int a1)]) hx hb dX7_readTerm_6 rfl hl (by decide) rfl (fun ls hl => ?_)
  exact F_X7_readTerm_7_ok hdd hrc0 hrc1 hrc2 hrc3 hrc4 hrc5 hrc6 hrc7 X hr hlk a0 a1 (0 : Int32) t2 _ h hK H locs ls O (lv_sub hl [1, 2, 0] rfl)
set_option maxRecDepth 100000 in
set_option maxHeartbeats 4000000 in
theorem F_X7_readTruth_56_ok {dd : Nat} (hdd : 7 ≤ dd) {rc : Nat → Nat → Int32 → xM → Option (xM)} (hrc0 : ∀ (κ : xQ) (a0 : Nat) (a1 : Int32) (M mo : xM), rc 0 a0 a1 M = some mo → xC l yX7_readAtom cX7_readAtom 3 none dd 0 0 κ [.ref (κ.1 + a0), .int a1] M none mo) (hrc1 : ∀ (κ : xQ) (a0 : Nat) (a1 : Int32) (M mo : xM), rc 1 a0 a1 M = some mo → xC l yX7_readBoth cX7_readBoth 3 none dd 0 0 κ [.ref (κ.1 + a0), .int a1] M none mo) (hrc2 : ∀ (κ : xQ) (a0 : Nat) (a1 : Int32) (M mo : xM), rc 2 a0 a1 M = some mo → xC l yX7_readChoice cX7_readChoice 2 none dd 0 0 κ [.ref (κ.1 + a0), .int a1] M none mo) (hrc3 : ∀ (κ : xQ) (a0 : Nat) (a1 : Int32) (M mo : xM), rc 3 a0 a1 M = some mo → xC l yX7_readComparison cX7_readComparison 3 none dd 0 0 κ [.ref (κ.1 + a0), .int a1] M none mo) (hrc4 : ∀ (κ : xQ) (a0 : Nat) (a1 : Int32) (M mo : xM), rc 4 a0 a1 M = some mo → xC l yX7_readSum cX7_readSum 4 none dd 0 0 κ [.ref (κ.1 + a0), .int a1] M none mo) (hrc5 : ∀ (κ : xQ) (a0 : Nat) (a1 : Int32) (M mo : xM), rc 5 a0 a1 M = some mo → xC l yX7_readTerm cX7_readTerm 3 none dd 0 0 κ [.ref (κ.1 + a0), .int a1] M none mo) (hrc6 : ∀ (κ : xQ) (a0 : Nat) (a1 : Int32) (M mo : xM), rc 6 a0 a1 M = some mo → xC l yX7_readTruth cX7_readTruth 3 none dd 0 0 κ [.ref (κ.1 + a0), .int a1] M none mo) (hrc7 : ∀ (κ : xQ) (a0 : Nat) (a1 : Int32) (M mo : xM), rc 7 a0 a1 M = some mo → xC l yX7_readUnit cX7_readUnit 2 none dd 0 0 κ [.ref (κ.1 + a0), .int a1] M none mo) (X : xX p s m args c cX7_readTruth 3 RX7 κ) (hr : meth.sig.returnType = none) (hlk : meth.locks = false) {mo : xM} (M : xM) (x : xM) (h : F_X7_readTruth_56 rc M = some x) (hK : (fun o => o = mo) x) (H : Heap) (locs : List Loc) (ls : Array Slot) (O : xO κ s M H locs) (hl : lv_has ls 3 []) : W p l e (xRm (dd + 1) 0 0) s m args below meth c H locs 0 0 (xQf below args s 0 0 κ none mo) (F0 m 56 ls []) := by
  unfold F_X7_readTruth_56 at h
  have hx := X.1
  have hb := X.2.1
  rw [← Option.some.inj h] at hK
  have hK : M = mo := hK
  rw [hK] at O
  exact xr_vret X hr hlk O dX7_readTruth_56
set_option maxRecDepth 100000 in
set_option maxHeartbeats 4000000 in
theorem F_X7_readTruth_7_bok {dd : Nat} (hdd : 7 ≤ dd) {rc : Nat → Nat → Int32 → xM → Option (xM)} (hrc0 : ∀ (κ : xQ) (a0 : Nat) (a1 : Int32) (M mo : xM), rc 0 a0 a1 M = some mo → xC l yX7_readAtom cX7_readAtom 3 none dd 0 0 κ [.ref (κ.1 + a0), .int a1] M none mo) (hrc1 : ∀ (κ : xQ) (a0 : Nat) (a1 : Int32) (M mo : xM), rc 1 a0 a1 M = some mo → xC l yX7_readBoth cX7_readBoth 3 none dd 0 0 κ [.ref (κ.1 + a0), .int a1] M none mo) (hrc2 : ∀ (κ : xQ) (a0 : Nat) (a1 : Int32) (M mo : xM), rc 2 a0 a1 M = some mo → xC l yX7_readChoice cX7_readChoice 2 none dd 0 0 κ [.ref (κ.1 + a0), .int a1] M none mo) (hrc3 : ∀ (κ : xQ) (a0 : Nat) (a1 : Int32) (M mo : xM), rc 3 a0 a1 M = some mo → xC l yX7_readComparison cX7_readComparison 3 none dd 0 0 κ [.ref (κ.1 + a0), .int a1] M none mo) (hrc4 : ∀ (κ : xQ) (a0 : Nat) (a1 : Int32) (M mo : xM), rc 4 a0 a1 M = some mo → xC l yX7_readSum cX7_readSum 4 none dd 0 0 κ [.ref (κ.1 + a0), .int a1] M none mo) (hrc5 : ∀ (κ : xQ) (a0 : Nat) (a1 : Int32) (M mo : xM), rc 5 a0 a1 M = some mo → xC l yX7_readTerm cX7_readTerm 3 none dd 0 0 κ [.ref (κ.1 + a0), .int a1] M none mo) (hrc6 : ∀ (κ : xQ) (a0 : Nat) (a1 : Int32) (M mo : xM), rc 6 a0 a1 M = some mo → xC l yX7_readTruth cX7_readTruth 3 none dd 0 0 κ [.ref (κ.1 + a0), .int a1] M none mo) (hrc7 : ∀ (κ : xQ) (a0 : Nat) (a1 : Int32) (M mo : xM), rc 7 a0 a1 M = some mo → xC l yX7_readUnit cX7_readUnit 2 none dd 0 0 κ [.ref (κ.1 + a0), .int a1] M none mo) (X : xX p s m args c cX7_readTruth 3 RX7 κ) (hr : meth.sig.returnType = none) (hlk : meth.locks = false) {mo : xM} (v0 : Nat) (v1 : Int32) (v2 : Int32) {W7 : Int32 × xM → Prop} (hW7 : ∀ (v2 : Int32) (M : xM), W7 (v2, M) → ∀ (H : Heap) (locs : List Loc) (ls : Array Slot), xO κ s M H locs → lv_has ls 3 [(0, .ref (κ.1 + v0)), (1, .int v1), (2, .int v2)] → W p l e (xRm (dd + 1) 0 0) s m args below meth c H locs 0 0 (xQf below args s 0 0 κ none mo) (F0 m 7 ls [])) (M : xM) (x : (Int32 × xM) ⊕ (xM)) (h : F_X7_readTruth_7b rc v0 v1 (v2, M) = some x) (hK : (xKl W7 (fun o => o = mo)) x) (H : Heap) (locs : List Loc) (ls : Array Slot) (O : xO κ s M H locs) (hl : lv_has ls 3 [(0, .ref (κ.1 + v0)), (1, .int v1), (2, .int v2)]) : W p l e (xRm (dd + 1) 0 0) s m args below meth c H locs 0 0 (xQf below args s 0 0 κ none mo) (F0 m 7 ls []) := by
  unfold F_X7_readTruth_7b at h
  dsimp only at h
  have hx := X.1
  have hb := X.2.1
  refine lv_iload_n hx hb dX7_readTruth_7 rfl (lv_at hl 2 rfl) ?_
  refine lv_sipush (v := (900 : Int32)) hx hb dX7_readTruth_8 (by decide) ?_
  refine lv_icmp_ge (tgt := 56) hx hb dX7_readTruth_11 (by decide) (fun hc11 => ?_) (fun hc11 => ?_)
  · rw [if_pos hc11] at h
    obtain ⟨_, hw0, ew0⟩ := Option.map_eq_some_iff.mp h
    rw [← ew0] at hK
    have h := hw0
    exact F_X7_readTruth_56_ok hdd hrc0 hrc1 hrc2 hrc3 hrc4 hrc5 hrc6 hrc7 X hr hlk  M _ h hK H locs ls O (lv_sub hl [] rfl)
  rw [if_neg hc11] at h
  refine lv_aload_n hx hb dX7_readTruth_14 rfl (lv_at hl 0 rfl) ?_
  obtain ⟨t3, ht3, h⟩ := Option.bind_eq_some_iff.mp h
  refine xr_getI X O ht3 fl_X7_48 (Or.inl rfl) dX7_readTruth_15 ?_
  refine lv_if_ne (tgt := 56) hx hb dX7_readTruth_18 (by decide) (fun hc18 => ?_) (fun hc18 => ?_)
  · rw [if_neg hc18] at h
    obtain ⟨_, hw0, ew0⟩ := Option.map_eq_some_iff.mp h
    rw [← ew0] at hK
    have h := hw0
    exact F_X7_readTruth_56_ok hdd hrc0 hrc1 hrc2 hrc3 hrc4 hrc5 hrc6 hrc7 X hr hlk  M _ h hK H locs ls O (lv_sub hl [] rfl)
  rw [if_pos hc18] at h
  refine lv_aload_n hx hb dX7_readTruth_21 rfl (lv_at hl 0 rfl) ?_
  refine xr_ldcwS hx hb X.2.2.2.1 (X.2.2.2.2.2.2.1 23 _ rfl).1 dX7_readTruth_22 ?_
  obtain ⟨_, hut4, h⟩ := Option.bind_eq_some_iff.mp h
  obtain ⟨t5, ht5, h⟩ := Option.bind_eq_some_iff.mp h
  refine xr_callV (rest := []) X O (T_X7_atWord l κ v0 23 M _ _ ht5) lk_X7_99 hut4 (by omega) rfl hl.1 rfl (Nat.le_of_ble_eq_true rfl) dX7_readTruth_25 ⟨Nat.le_of_ble_eq_true rfl, Nat.le_of_ble_eq_true rfl⟩ (fun H locs O => ?_)
  refine W.eq (g2 := F0 m 28 ls [.int t5.1]) rfl ?_
  refine lv_if_eq (tgt := 56) hx hb dX7_readTruth_28 (by decide) (fun hc28 => ?_) (fun hc28 => ?_)
  · rw [if_pos hc28] at h
    obtain ⟨_, hw0, ew0⟩ := Option.map_eq_some_iff.mp h
    rw [← ew0] at hK
    have h := hw0
    exact F_X7_readTruth_56_ok hdd hrc0 hrc1 hrc2 hrc3 hrc4 hrc5 hrc6 hrc7 X hr hlk  t5.2 _ h hK H locs ls O (lv_sub hl [] rfl)
  rw [if_neg hc28] at h
  refine lv_aload_n hx hb dX7_readTruth_31 rfl (lv_at hl 0 rfl) ?_
  obtain ⟨_, hut6, h⟩ := Option.bind_eq_some_iff.mp h
  obtain ⟨t7, ht7, h⟩ := Option.bind_eq_some_iff.mp h
  refine xr_callV (rest := []) X O (T_X7_step l κ v0 t5.2 _ ht7) lk_X7_58 hut6 (by omega) rfl hl.1 rfl (Nat.le_of_ble_eq_true rfl) dX7_readTruth_32 ⟨Nat.le_of_ble_eq_true rfl, Nat.le_of_ble_eq_true rfl⟩ (fun H locs O => ?_)
  refine W.eq (g2 := F0 m 35 ls []) rfl ?_
  refine lv_aload_n hx hb dX7_readTruth_35 rfl (lv_at hl 0 rfl) ?_
  refine lv_iload_n hx hb dX7_readTruth_36 rfl (lv_at hl 1 rfl) ?_
  obtain ⟨_, hut8, h⟩ := Option.bind_eq_some_iff.mp h
  obtain ⟨t9, ht9, h⟩ := Option.bind_eq_some_iff.mp h
  refine xr_callV (rest := []) X O (hrc1 κ v0 v1 t7 _ ht9) lk_X7_280 hut8 (Nat.le_refl _) rfl hl.1 rfl (Nat.le_of_ble_eq_true rfl) dX7_readTruth_37 ⟨Nat.le_of_ble_eq_true rfl, Nat.le_of_ble_eq_true rfl⟩ (fun H locs O => ?_)
  refine W.eq (g2 := F0 m 40 ls []) rfl ?_
  refine lv_aload_n hx hb dX7_readTruth_40 rfl (lv_at hl 0 rfl) ?_
  obtain ⟨t10, ht10, h⟩ := Option.bind_eq_some_iff.mp h
  refine xr_getP X O ht10 fl_X7_22 dX7_readTruth_41 ?_
  refine lv_sipush (v := (1007 : Int32)) hx hb dX7_readTruth_44 (by decide) ?_
  obtain ⟨_, hut11, h⟩ := Option.bind_eq_some_iff.mp h
  obtain ⟨t12, ht12, h⟩ := Option.bind_eq_some_iff.mp h
  refine xr_callV (rest := []) X O (T_X3_emit l κ t10 (1007 : Int32) t9 _ ht12) lk_X7_243 hut11 (by omega) rfl hl.1 rfl (Nat.le_of_ble_eq_true rfl) dX7_readTruth_47 ⟨Nat.le_of_ble_eq_true rfl, Nat.le_of_ble_eq_true rfl⟩ (fun H locs O => ?_)
  refine W.eq (g2 := F0 m 50 ls []) rfl ?_
  refine lv_iinc (v := (v2 + 1)) (lv' := [(2, .int (v2 + 1)), (0, .ref (κ.1 + v0)), (1, .int v1)]) hx hb dX7_readTruth_50 hl (k := 2) rfl rfl (by decide) rfl (fun ls hl => ?_)
  refine lv_goto (tgt := 7) hx hb dX7_readTruth_53 (by decide) ?_
  rw [← Option.some.inj h] at hK
  exact hW7 (v2 + 1) t12 hK H locs ls O (lv_sub hl [1, 2, 0] rfl)
set_option maxRecDepth 100000 in
set_option maxHeartbeats 4000000 in
theorem F_X7_readTruth_7_ok {dd : Nat} (hdd : 7 ≤ dd) {rc : Nat → Nat → Int32 → xM → Option (xM)} (hrc0 : ∀ (κ : xQ) (a0 : Nat) (a1 : Int32) (M mo : xM), rc 0 a0 a1 M = some mo → xC l yX7_readAtom cX7_readAtom 3 none dd 0 0 κ [.ref (κ.1 + a0), .int a1] M none mo) (hrc1 : ∀ (κ : xQ) (a0 : Nat) (a1 : Int32) (M mo : xM), rc 1 a0 a1 M = some mo → xC l yX7_readBoth cX7_readBoth 3 none dd 0 0 κ [.ref (κ.1 + a0), .int a1] M none mo) (hrc2 : ∀ (κ : xQ) (a0 : Nat) (a1 : Int32) (M mo : xM), rc 2 a0 a1 M = some mo → xC l yX7_readChoice cX7_readChoice 2 none dd 0 0 κ [.ref (κ.1 + a0), .int a1] M none mo) (hrc3 : ∀ (κ : xQ) (a0 : Nat) (a1 : Int32) (M mo : xM), rc 3 a0 a1 M = some mo → xC l yX7_readComparison cX7_readComparison 3 none dd 0 0 κ [.ref (κ.1 + a0), .int a1] M none mo) (hrc4 : ∀ (κ : xQ) (a0 : Nat) (a1 : Int32) (M mo : xM), rc 4 a0 a1 M = some mo → xC l yX7_readSum cX7_readSum 4 none dd 0 0 κ [.ref (κ.1 + a0), .int a1] M none mo) (hrc5 : ∀ (κ : xQ) (a0 : Nat) (a1 : Int32) (M mo : xM), rc 5 a0 a1 M = some mo → xC l yX7_readTerm cX7_readTerm 3 none dd 0 0 κ [.ref (κ.1 + a0), .int a1] M none mo) (hrc6 : ∀ (κ : xQ) (a0 : Nat) (a1 : Int32) (M mo : xM), rc 6 a0 a1 M = some mo → xC l yX7_readTruth cX7_readTruth 3 none dd 0 0 κ [.ref (κ.1 + a0), .int a1] M none mo) (hrc7 : ∀ (κ : xQ) (a0 : Nat) (a1 : Int32) (M mo : xM), rc 7 a0 a1 M = some mo → xC l yX7_readUnit cX7_readUnit 2 none dd 0 0 κ [.ref (κ.1 + a0), .int a1] M none mo) (X : xX p s m args c cX7_readTruth 3 RX7 κ) (hr : meth.sig.returnType = none) (hlk : meth.locks = false) {mo : xM} (v0 : Nat) (v1 : Int32) (v2 : Int32) (M : xM) (x : xM) (h : F_X7_readTruth_7 rc v0 v1 v2 M = some x) (hK : (fun o => o = mo) x) (H : Heap) (locs : List Loc) (ls : Array Slot) (O : xO κ s M H locs) (hl : lv_has ls 3 [(0, .ref (κ.1 + v0)), (1, .int v1), (2, .int v2)]) : W p l e (xRm (dd + 1) 0 0) s m args below meth c H locs 0 0 (xQf below args s 0 0 κ none mo) (F0 m 7 ls []) := by
  refine xit_K (Wh := fun x => ∀ (H : Heap) (locs : List Loc) (ls : Array Slot), xO κ s x.2 H locs → lv_has ls 3 [(0, .ref (κ.1 + v0)), (1, .int v1), (2, .int x.1)] → W p l e (xRm (dd + 1) 0 0) s m args below meth c H locs 0 0 (xQf below args s 0 0 κ none mo) (F0 m 7 ls [])) (Kp := (fun o => o = mo)) ?_ xFU (v2, M) x h hK H locs ls O hl
  intro y x h hK H locs ls O hl
  exact F_X7_readTruth_7_bok hdd hrc0 hrc1 hrc2 hrc3 hrc4 hrc5 hrc6 hrc7 X hr hlk v0 v1 y.1 (fun _ _ hw => hw) y.2 x h hK H locs ls O hl
set_option maxRecDepth 100000 in
set_option maxHeartbeats 4000000 in
theorem To_X7_readTruth (l : Launch) {dd : Nat} (hdd : 7 ≤ dd) {rc : Nat → Nat → Int32 → xM → Option (xM)} (hrc0 : ∀ (κ : xQ) (a0 : Nat) (a1 : Int32) (M mo : xM), rc 0 a0 a1 M = some mo → xC l yX7_readAtom cX7_readAtom 3 none dd 0 0 κ [.ref (κ.1 + a0), .int a1] M none mo) (hrc1 : ∀ (κ : xQ) (a0 : Nat) (a1 : Int32) (M mo : xM), rc 1 a0 a1 M = some mo → xC l yX7_readBoth cX7_readBoth 3 none dd 0 0 κ [.ref (κ.1 + a0), .int a1] M none mo) (hrc2 : ∀ (κ : xQ) (a0 : Nat) (a1 : Int32) (M mo : xM), rc 2 a0 a1 M = some mo → xC l yX7_readChoice cX7_readChoice 2 none dd 0 0 κ [.ref (κ.1 + a0), .int a1] M none mo) (hrc3 : ∀ (κ : xQ) (a0 : Nat) (a1 : Int32) (M mo : xM), rc 3 a0 a1 M = some mo → xC l yX7_readComparison cX7_readComparison 3 none dd 0 0 κ [.ref (κ.1 + a0), .int a1] M none mo) (hrc4 : ∀ (κ : xQ) (a0 : Nat) (a1 : Int32) (M mo : xM), rc 4 a0 a1 M = some mo → xC l yX7_readSum cX7_readSum 4 none dd 0 0 κ [.ref (κ.1 + a0), .int a1] M none mo) (hrc5 : ∀ (κ : xQ) (a0 : Nat) (a1 : Int32) (M mo : xM), rc 5 a0 a1 M = some mo → xC l yX7_readTerm cX7_readTerm 3 none dd 0 0 κ [.ref (κ.1 + a0), .int a1] M none mo) (hrc6 : ∀ (κ : xQ) (a0 : Nat) (a1 : Int32) (M mo : xM), rc 6 a0 a1 M = some mo → xC l yX7_readTruth cX7_readTruth 3 none dd 0 0 κ [.ref (κ.1 + a0), .int a1] M none mo) (hrc7 : ∀ (κ : xQ) (a0 : Nat) (a1 : Int32) (M mo : xM), rc 7 a0 a1 M = some mo → xC l yX7_readUnit cX7_readUnit 2 none dd 0 0 κ [.ref (κ.1 + a0), .int a1] M none mo) (κ : xQ) (a0 : Nat) (a1 : Int32) (M : xM) (mo : xM) (h : F_X7_readTruth rc a0 a1 M = some mo) : xC l yX7_readTruth cX7_readTruth 3 none (dd + 1) 0 0 κ [.ref (κ.1 + a0), .int a1] M none mo := by
  refine xC_of rfl (Nat.le_of_ble_eq_true rfl) fun p e s m args below meth c X hr hlk hnm H locs ls O hl => ?_
  have X : xX p s m args c cX7_readTruth 3 RX7 κ := X
  have hl : lv_has ls 3 [(0, .ref (κ.1 + a0)), (1, .int a1)] := hl
  have hx := X.1
  have hb := X.2.1
  obtain ⟨x, hx0⟩ : ∃ x, mo = x := ⟨_, rfl⟩
  rw [hx0] at h
  have hK : x = mo := hx0.symm
  unfold F_X7_readTruth at h
  refine lv_aload_n hx hb dX7_readTruth_0 rfl (lv_at hl 0 rfl) ?_
  refine lv_iload_n hx hb dX7_readTruth_1 rfl (lv_at hl 1 rfl) ?_
  obtain ⟨_, hut1, h⟩ := Option.bind_eq_some_iff.mp h
  obtain ⟨t2, ht2, h⟩ := Option.bind_eq_some_iff.mp h
  refine xr_callV (rest := []) X O (hrc1 κ a0 a1 M _ ht2) lk_X7_280 hut1 (Nat.le_refl _) rfl hl.1 rfl (Nat.le_of_ble_eq_true rfl) dX7_readTruth_2 ⟨Nat.le_of_ble_eq_true rfl, Nat.le_of_ble_eq_true rfl⟩ (fun H locs O => ?_)
  refine W.eq (g2 := F0 m 5 ls []) rfl ?_
  refine lv_iconst (v := (0 : Int32)) hx hb dX7_readTruth_5 (by decide) ?_
  refine lv_istore_n (lv' := [(2, .int (0 : Int32)), (0, .ref (κ.1 + a0)), (1, .int a1)]) hx hb dX7_readTruth_6 rfl hl (by decide) rfl (fun ls hl => ?_)
  exact F_X7_readTruth_7_ok hdd hrc0 hrc1 hrc2 hrc3 hrc4 hrc5 hrc6 hrc7 X hr hlk a0 a1 (0 : Int32) t2 _ h hK H locs ls O (lv_sub hl [1, 2, 0] rfl)
set_option maxRecDepth 100000 in
set_option maxHeartbeats 4000000 in
theorem To_X7_readUnit (l : Launch) {dd : Nat} (hdd : 7 ≤ dd) {rc : Nat → Nat → Int32 → xM → Option (xM)} (hrc0 : ∀ (κ : xQ) (a0 : Nat) (a1 : Int32) (M mo : xM), rc 0 a0 a1 M = some mo → xC l yX7_readAtom cX7_readAtom 3 none dd 0 0 κ [.ref (κ.1 + a0), .int a1] M none mo) (hrc1 : ∀ (κ : xQ) (a0 : Nat) (a1 : Int32) (M mo : xM), rc 1 a0 a1 M = some mo → xC l yX7_readBoth cX7_readBoth 3 none dd 0 0 κ [.ref (κ.1 + a0), .int a1] M none mo) (hrc2 : ∀ (κ : xQ) (a0 : Nat) (a1 : Int32) (M mo : xM), rc 2 a0 a1 M = some mo → xC l yX7_readChoice cX7_readChoice 2 none dd 0 0 κ [.ref (κ.1 + a0), .int a1] M none mo) (hrc3 : ∀ (κ : xQ) (a0 : Nat) (a1 : Int32) (M mo : xM), rc 3 a0 a1 M = some mo → xC l yX7_readComparison cX7_readComparison 3 none dd 0 0 κ [.ref (κ.1 + a0), .int a1] M none mo) (hrc4 : ∀ (κ : xQ) (a0 : Nat) (a1 : Int32) (M mo : xM), rc 4 a0 a1 M = some mo → xC l yX7_readSum cX7_readSum 4 none dd 0 0 κ [.ref (κ.1 + a0), .int a1] M none mo) (hrc5 : ∀ (κ : xQ) (a0 : Nat) (a1 : Int32) (M mo : xM), rc 5 a0 a1 M = some mo → xC l yX7_readTerm cX7_readTerm 3 none dd 0 0 κ [.ref (κ.1 + a0), .int a1] M none mo) (hrc6 : ∀ (κ : xQ) (a0 : Nat) (a1 : Int32) (M mo : xM), rc 6 a0 a1 M = some mo → xC l yX7_readTruth cX7_readTruth 3 none dd 0 0 κ [.ref (κ.1 + a0), .int a1] M none mo) (hrc7 : ∀ (κ : xQ) (a0 : Nat) (a1 : Int32) (M mo : xM), rc 7 a0 a1 M = some mo → xC l yX7_readUnit cX7_readUnit 2 none dd 0 0 κ [.ref (κ.1 + a0), .int a1] M none mo) (κ : xQ) (a0 : Nat) (a1 : Int32) (M : xM) (mo : xM) (h : F_X7_readUnit rc a0 a1 M = some mo) : xC l yX7_readUnit cX7_readUnit 2 none (dd + 1) 0 0 κ [.ref (κ.1 + a0), .int a1] M none mo := by
  refine xC_of rfl (Nat.le_of_ble_eq_true rfl) fun p e s m args below meth c X hr hlk hnm H locs ls O hl => ?_
  have X : xX p s m args c cX7_readUnit 2 RX7 κ := X
  have hl : lv_has ls 2 [(0, .ref (κ.1 + a0)), (1, .int a1)] := hl
  have hx := X.1
  have hb := X.2.1
  obtain ⟨x, hx0⟩ : ∃ x, mo = x := ⟨_, rfl⟩
  rw [hx0] at h
  have hK : x = mo := hx0.symm
  unfold F_X7_readUnit at h
  refine lv_aload_n hx hb dX7_readUnit_0 rfl (lv_at hl 0 rfl) ?_
  obtain ⟨t1, ht1, h⟩ := Option.bind_eq_some_iff.mp h
  refine xr_getI X O ht1 fl_X7_48 (Or.inl rfl) dX7_readUnit_1 ?_
  refine lv_if_eq (tgt := 8) hx hb dX7_readUnit_4 (by decide) (fun hc4 => ?_) (fun hc4 => ?_)
  · rw [if_pos hc4] at h
    refine lv_aload_n hx hb dX7_readUnit_8 rfl (lv_at hl 0 rfl) ?_
    refine xr_ldcwS hx hb X.2.2.2.1 (X.2.2.2.2.2.2.1 21 _ rfl).1 dX7_readUnit_9 ?_
    obtain ⟨_, hut2, h⟩ := Option.bind_eq_some_iff.mp h
    obtain ⟨t3, ht3, h⟩ := Option.bind_eq_some_iff.mp h
    refine xr_callV (rest := []) X O (T_X7_atWord l κ a0 21 M _ _ ht3) lk_X7_99 hut2 (by omega) rfl hl.1 rfl (Nat.le_of_ble_eq_true rfl) dX7_readUnit_12 ⟨Nat.le_of_ble_eq_true rfl, Nat.le_of_ble_eq_true rfl⟩ (fun H locs O => ?_)
    refine W.eq (g2 := F0 m 15 ls [.int t3.1]) rfl ?_
    refine lv_if_eq (tgt := 46) hx hb dX7_readUnit_15 (by decide) (fun hc15 => ?_) (fun hc15 => ?_)
    · rw [if_pos hc15] at h
      refine lv_aload_n hx hb dX7_readUnit_46 rfl (lv_at hl 0 rfl) ?_
      refine lv_bipush (v := (91 : Int32)) hx hb dX7_readUnit_47 (by decide) ?_
      obtain ⟨_, hut4, h⟩ := Option.bind_eq_some_iff.mp h
      obtain ⟨t5, ht5, h⟩ := Option.bind_eq_some_iff.mp h
      refine xr_callV (rest := []) X O (T_X7_atSign l κ a0 (91 : Int32) t3.2 _ _ ht5) lk_X7_107 hut4 (by omega) rfl hl.1 rfl (Nat.le_of_ble_eq_true rfl) dX7_readUnit_49 ⟨Nat.le_of_ble_eq_true rfl, Nat.le_of_ble_eq_true rfl⟩ (fun H locs O => ?_)
      refine W.eq (g2 := F0 m 52 ls [.int t5.1]) rfl ?_
      refine lv_if_eq (tgt := 79) hx hb dX7_readUnit_52 (by decide) (fun hc52 => ?_) (fun hc52 => ?_)
      · rw [if_pos hc52] at h
        refine lv_aload_n hx hb dX7_readUnit_79 rfl (lv_at hl 0 rfl) ?_
        refine lv_iload_n hx hb dX7_readUnit_80 rfl (lv_at hl 1 rfl) ?_
        obtain ⟨_, hut6, h⟩ := Option.bind_eq_some_iff.mp h
        obtain ⟨t7, ht7, h⟩ := Option.bind_eq_some_iff.mp h
        refine xr_callV (rest := []) X O (hrc3 κ a0 a1 t5.2 _ ht7) lk_X7_292 hut6 (Nat.le_refl _) rfl hl.1 rfl (Nat.le_of_ble_eq_true rfl) dX7_readUnit_81 ⟨Nat.le_of_ble_eq_true rfl, Nat.le_of_ble_eq_true rfl⟩ (fun H locs O => ?_)
        refine W.eq (g2 := F0 m 84 ls []) rfl ?_
        rw [← Option.some.inj h] at hK
        have hK : t7 = mo := hK
        rw [hK] at O
        exact xr_vret X hr hlk O dX7_readUnit_84
      rw [if_neg hc52] at h
      refine lv_aload_n hx hb dX7_readUnit_55 rfl (lv_at hl 0 rfl) ?_
      refine lv_iload_n hx hb dX7_readUnit_56 rfl (lv_at hl 1 rfl) ?_
      obtain ⟨_, hut8, h⟩ := Option.bind_eq_some_iff.mp h
      obtain ⟨t9, ht9, h⟩ := Option.bind_eq_some_iff.mp h
      refine xr_callV (rest := []) X O (T_X7_goesDeeper l κ a0 a1 t5.2 _ _ ht9) lk_X7_252 hut8 (by omega) rfl hl.1 rfl (Nat.le_of_ble_eq_true rfl) dX7_readUnit_57 ⟨Nat.le_of_ble_eq_true rfl, Nat.le_of_ble_eq_true rfl⟩ (fun H locs O => ?_)
      refine W.eq (g2 := F0 m 60 ls [.int t9.1]) rfl ?_
      refine lv_if_eq (tgt := 84) hx hb dX7_readUnit_60 (by decide) (fun hc60 => ?_) (fun hc60 => ?_)
      · rw [if_pos hc60] at h
        rw [← Option.some.inj h] at hK
        have hK : t9.2 = mo := hK
        rw [hK] at O
        exact xr_vret X hr hlk O dX7_readUnit_84
      rw [if_neg hc60] at h
      refine lv_aload_n hx hb dX7_readUnit_63 rfl (lv_at hl 0 rfl) ?_
      refine lv_iload_n hx hb dX7_readUnit_64 rfl (lv_at hl 1 rfl) ?_
      refine lv_iconst (v := (1 : Int32)) hx hb dX7_readUnit_65 (by decide) ?_
      refine lv_iadd hx hb dX7_readUnit_66 ?_
      obtain ⟨_, hut10, h⟩ := Option.bind_eq_some_iff.mp h
      obtain ⟨t11, ht11, h⟩ := Option.bind_eq_some_iff.mp h
      refine xr_callV (rest := []) X O (hrc6 κ a0 (a1 + (1 : Int32)) t9.2 _ ht11) lk_X7_271 hut10 (Nat.le_refl _) rfl hl.1 rfl (Nat.le_of_ble_eq_true rfl) dX7_readUnit_67 ⟨Nat.le_of_ble_eq_true rfl, Nat.le_of_ble_eq_true rfl⟩ (fun H locs O => ?_)
      refine W.eq (g2 := F0 m 70 ls []) rfl ?_
      refine lv_aload_n hx hb dX7_readUnit_70 rfl (lv_at hl 0 rfl) ?_
      refine lv_bipush (v := (93 : Int32)) hx hb dX7_readUnit_71 (by decide) ?_
      obtain ⟨_, hut12, h⟩ := Option.bind_eq_some_iff.mp h
      obtain ⟨t13, ht13, h⟩ := Option.bind_eq_some_iff.mp h
      refine xr_callV (rest := []) X O (T_X7_expectSign l κ a0 (93 : Int32) t11 _ ht13) lk_X7_70 hut12 (by omega) rfl hl.1 rfl (Nat.le_of_ble_eq_true rfl) dX7_readUnit_73 ⟨Nat.le_of_ble_eq_true rfl, Nat.le_of_ble_eq_true rfl⟩ (fun H locs O => ?_)
      refine W.eq (g2 := F0 m 76 ls []) rfl ?_
      refine lv_goto (tgt := 84) hx hb dX7_readUnit_76 (by decide) ?_
      rw [← Option.some.inj h] at hK
      have hK : t13 = mo := hK
      rw [hK] at O
      exact xr_vret X hr hlk O dX7_readUnit_84
    rw [if_neg hc15] at h
    refine lv_aload_n hx hb dX7_readUnit_18 rfl (lv_at hl 0 rfl) ?_
    refine lv_iload_n hx hb dX7_readUnit_19 rfl (lv_at hl 1 rfl) ?_
    obtain ⟨_, hut14, h⟩ := Option.bind_eq_some_iff.mp h
    obtain ⟨t15, ht15, h⟩ := Option.bind_eq_some_iff.mp h
    refine xr_callV (rest := []) X O (T_X7_goesDeeper l κ a0 a1 t3.2 _ _ ht15) lk_X7_252 hut14 (by omega) rfl hl.1 rfl (Nat.le_of_ble_eq_true rfl) dX7_readUnit_20 ⟨Nat.le_of_ble_eq_true rfl, Nat.le_of_ble_eq_true rfl⟩ (fun H locs O => ?_)
    refine W.eq (g2 := F0 m 23 ls [.int t15.1]) rfl ?_
    refine lv_if_eq (tgt := 84) hx hb dX7_readUnit_23 (by decide) (fun hc23 => ?_) (fun hc23 => ?_)
    · rw [if_pos hc23] at h
      rw [← Option.some.inj h] at hK
      have hK : t15.2 = mo := hK
      rw [hK] at O
      exact xr_vret X hr hlk O dX7_readUnit_84
    rw [if_neg hc23] at h
    refine lv_aload_n hx hb dX7_readUnit_26 rfl (lv_at hl 0 rfl) ?_
    refine lv_iload_n hx hb dX7_readUnit_27 rfl (lv_at hl 1 rfl) ?_
    refine lv_iconst (v := (1 : Int32)) hx hb dX7_readUnit_28 (by decide) ?_
    refine lv_iadd hx hb dX7_readUnit_29 ?_
    obtain ⟨_, hut16, h⟩ := Option.bind_eq_some_iff.mp h
    obtain ⟨t17, ht17, h⟩ := Option.bind_eq_some_iff.mp h
    refine xr_callV (rest := []) X O (hrc7 κ a0 (a1 + (1 : Int32)) t15.2 _ ht17) lk_X7_285 hut16 (Nat.le_refl _) rfl hl.1 rfl (Nat.le_of_ble_eq_true rfl) dX7_readUnit_30 ⟨Nat.le_of_ble_eq_true rfl, Nat.le_of_ble_eq_true rfl⟩ (fun H locs O => ?_)
    refine W.eq (g2 := F0 m 33 ls []) rfl ?_
    refine lv_aload_n hx hb dX7_readUnit_33 rfl (lv_at hl 0 rfl) ?_
    obtain ⟨t18, ht18, h⟩ := Option.bind_eq_some_iff.mp h
    refine xr_getP X O ht18 fl_X7_22 dX7_readUnit_34 ?_
    refine lv_sipush (v := (1008 : Int32)) hx hb dX7_readUnit_37 (by decide) ?_
    obtain ⟨_, hut19, h⟩ := Option.bind_eq_some_iff.mp h
    obtain ⟨t20, ht20, h⟩ := Option.bind_eq_some_iff.mp h
    refine xr_callV (rest := []) X O (T_X3_emit l κ t18 (1008 : Int32) t17 _ ht20) lk_X7_243 hut19 (by omega) rfl hl.1 rfl (Nat.le_of_ble_eq_true rfl) dX7_readUnit_40 ⟨Nat.le_of_ble_eq_true rfl, Nat.le_of_ble_eq_true rfl⟩ (fun H locs O => ?_)
    refine W.eq (g2 := F0 m 43 ls []) rfl ?_
    refine lv_goto (tgt := 84) hx hb dX7_readUnit_43 (by decide) ?_
    rw [← Option.some.inj h] at hK
    have hK : t20 = mo := hK
    rw [hK] at O
    exact xr_vret X hr hlk O dX7_readUnit_84
  rw [if_neg hc4] at h
  rw [← Option.some.inj h] at hK
  have hK : M = mo := hK
  rw [hK] at O
  exact xr_vret X hr hlk O dX7_readUnit_7
set_option maxRecDepth 100000 in
set_option maxHeartbeats 4000000 in
theorem K_X7_readAtom (l : Launch) : ∀ n : Nat, (∀ (κ : xQ) (a0 : Nat) (a1 : Int32) (M : xM) (mo : xM), R_X7_readAtom n 0 a0 a1 M = some mo → xC l yX7_readAtom cX7_readAtom 3 none (7 + n) 0 0 κ [.ref (κ.1 + a0), .int a1] M none mo) ∧ (∀ (κ : xQ) (a0 : Nat) (a1 : Int32) (M : xM) (mo : xM), R_X7_readAtom n 1 a0 a1 M = some mo → xC l yX7_readBoth cX7_readBoth 3 none (7 + n) 0 0 κ [.ref (κ.1 + a0), .int a1] M none mo) ∧ (∀ (κ : xQ) (a0 : Nat) (a1 : Int32) (M : xM) (mo : xM), R_X7_readAtom n 2 a0 a1 M = some mo → xC l yX7_readChoice cX7_readChoice 2 none (7 + n) 0 0 κ [.ref (κ.1 + a0), .int a1] M none mo) ∧ (∀ (κ : xQ) (a0 : Nat) (a1 : Int32) (M : xM) (mo : xM), R_X7_readAtom n 3 a0 a1 M = some mo → xC l yX7_readComparison cX7_readComparison 3 none (7 + n) 0 0 κ [.ref (κ.1 + a0), .int a1] M none mo) ∧ (∀ (κ : xQ) (a0 : Nat) (a1 : Int32) (M : xM) (mo : xM), R_X7_readAtom n 4 a0 a1 M = some mo → xC l yX7_readSum cX7_readSum 4 none (7 + n) 0 0 κ [.ref (κ.1 + a0), .int a1] M none mo) ∧ (∀ (κ : xQ) (a0 : Nat) (a1 : Int32) (M : xM) (mo : xM), R_X7_readAtom n 5 a0 a1 M = some mo → xC l yX7_readTerm cX7_readTerm 3 none (7 + n) 0 0 κ [.ref (κ.1 + a0), .int a1] M none mo) ∧ (∀ (κ : xQ) (a0 : Nat) (a1 : Int32) (M : xM) (mo : xM), R_X7_readAtom n 6 a0 a1 M = some mo → xC l yX7_readTruth cX7_readTruth 3 none (7 + n) 0 0 κ [.ref (κ.1 + a0), .int a1] M none mo) ∧ (∀ (κ : xQ) (a0 : Nat) (a1 : Int32) (M : xM) (mo : xM), R_X7_readAtom n 7 a0 a1 M = some mo → xC l yX7_readUnit cX7_readUnit 2 none (7 + n) 0 0 κ [.ref (κ.1 + a0), .int a1] M none mo) := by
  intro n
  induction n with
  | zero => exact ⟨fun κ a0 a1 M mo h => (by cases h), fun κ a0 a1 M mo h => (by cases h), fun κ a0 a1 M mo h => (by cases h), fun κ a0 a1 M mo h => (by cases h), fun κ a0 a1 M mo h => (by cases h), fun κ a0 a1 M mo h => (by cases h), fun κ a0 a1 M mo h => (by cases h), fun κ a0 a1 M mo h => (by cases h)⟩
  | succ n ih =>
    obtain ⟨h0, h1, h2, h3, h4, h5, h6, h7⟩ := ih
    exact ⟨fun κ a0 a1 M mo h => To_X7_readAtom l (dd := 7 + n) (Nat.le_add_right _ _) h0 h1 h2 h3 h4 h5 h6 h7 κ a0 a1 M mo h, fun κ a0 a1 M mo h => To_X7_readBoth l (dd := 7 + n) (Nat.le_add_right _ _) h0 h1 h2 h3 h4 h5 h6 h7 κ a0 a1 M mo h, fun κ a0 a1 M mo h => To_X7_readChoice l (dd := 7 + n) (Nat.le_add_right _ _) h0 h1 h2 h3 h4 h5 h6 h7 κ a0 a1 M mo h, fun κ a0 a1 M mo h => To_X7_readComparison l (dd := 7 + n) (Nat.le_add_right _ _) h0 h1 h2 h3 h4 h5 h6 h7 κ a0 a1 M mo h, fun κ a0 a1 M mo h => To_X7_readSum l (dd := 7 + n) (Nat.le_add_right _ _) h0 h1 h2 h3 h4 h5 h6 h7 κ a0 a1 M mo h, fun κ a0 a1 M mo h => To_X7_readTerm l (dd := 7 + n) (Nat.le_add_right _ _) h0 h1 h2 h3 h4 h5 h6 h7 κ a0 a1 M mo h, fun κ a0 a1 M mo h => To_X7_readTruth l (dd := 7 + n) (Nat.le_add_right _ _) h0 h1 h2 h3 h4 h5 h6 h7 κ a0 a1 M mo h, fun κ a0 a1 M mo h => To_X7_readUnit l (dd := 7 + n) (Nat.le_add_right _ _) h0 h1 h2 h3 h4 h5 h6 h7 κ a0 a1 M mo h⟩
set_option maxRecDepth 100000 in
set_option maxHeartbeats 4000000 in
theorem Tx_X7_readAtom (l : Launch) (κ : xQ) (a0 : Nat) (a1 : Int32) (M : xM) (mo : xM) (h : Fx_X7_readAtom a0 a1 M = some mo) : xC l yX7_readAtom cX7_readAtom 3 none 67 0 0 κ [.ref (κ.1 + a0), .int a1] M none mo := (K_X7_readAtom l 60).1 κ a0 a1 M mo h
set_option maxRecDepth 100000 in
set_option maxHeartbeats 4000000 in
theorem Tx_X7_readBoth (l : Launch) (κ : xQ) (a0 : Nat) (a1 : Int32) (M : xM) (mo : xM) (h : Fx_X7_readBoth a0 a1 M = some mo) : xC l yX7_readBoth cX7_readBoth 3 none 67 0 0 κ [.ref (κ.1 + a0), .int a1] M none mo := (K_X7_readAtom l 60).2.1 κ a0 a1 M mo h
set_option maxRecDepth 100000 in
set_option maxHeartbeats 4000000 in
theorem Tx_X7_readChoice (l : Launch) (κ : xQ) (a0 : Nat) (a1 : Int32) (M : xM) (mo : xM) (h : Fx_X7_readChoice a0 a1 M = some mo) : xC l yX7_readChoice cX7_readChoice 2 none 67 0 0 κ [.ref (κ.1 + a0), .int a1] M none mo := (K_X7_readAtom l 60).2.2.1 κ a0 a1 M mo h
set_option maxRecDepth 100000 in
set_option maxHeartbeats 4000000 in
theorem Tx_X7_readComparison (l : Launch) (κ : xQ) (a0 : Nat) (a1 : Int32) (M : xM) (mo : xM) (h : Fx_X7_readComparison a0 a1 M = some mo) : xC l yX7_readComparison cX7_readComparison 3 none 67 0 0 κ [.ref (κ.1 + a0), .int a1] M none mo := (K_X7_readAtom l 60).2.2.2.1 κ a0 a1 M mo h
set_option maxRecDepth 100000 in
set_option maxHeartbeats 4000000 in
theorem Tx_X7_readSum (l : Launch) (κ : xQ) (a0 : Nat) (a1 : Int32) (M : xM) (mo : xM) (h : Fx_X7_readSum a0 a1 M = some mo) : xC l yX7_readSum cX7_readSum 4 none 67 0 0 κ [.ref (κ.1 + a0), .int a1] M none mo := (K_X7_readAtom l 60).2.2.2.2.1 κ a0 a1 M mo h
set_option maxRecDepth 100000 in
set_option maxHeartbeats 4000000 in
theorem Tx_X7_readTerm (l : Launch) (κ : xQ) (a0 : Nat) (a1 : Int32) (M : xM) (mo : xM) (h : Fx_X7_readTerm a0 a1 M = some mo) : xC l yX7_readTerm cX7_readTerm 3 none 67 0 0 κ [.ref (κ.1 + a0), .int a1] M none mo := (K_X7_readAtom l 60).2.2.2.2.2.1 κ a0 a1 M mo h
set_option maxRecDepth 100000 in
set_option maxHeartbeats 4000000 in
theorem Tx_X7_readTruth (l : Launch) (κ : xQ) (a0 : Nat) (a1 : Int32) (M : xM) (mo : xM) (h : Fx_X7_readTruth a0 a1 M = some mo) : xC l yX7_readTruth cX7_readTruth 3 none 67 0 0 κ [.ref (κ.1 + a0), .int a1] M none mo := (K_X7_readAtom l 60).2.2.2.2.2.2.1 κ a0 a1 M mo h
set_option maxRecDepth 100000 in
set_option maxHeartbeats 4000000 in
theorem Tx_X7_readUnit (l : Launch) (κ : xQ) (a0 : Nat) (a1 : Int32) (M : xM) (mo : xM) (h : Fx_X7_readUnit a0 a1 M = some mo) : xC l yX7_readUnit cX7_readUnit 2 none 67 0 0 κ [.ref (κ.1 + a0), .int a1] M none mo := (K_X7_readAtom l 60).2.2.2.2.2.2.2 κ a0 a1 M mo h
def F_X7_readLaw (a0 : Nat) (a1 : Int32) (M : xM) : Option (xM) :=
(xgP M a0 7 0).bind fun t1 =>
(xgI M t1 3 7).bind fun t2 =>
(xpZ M a0 7 10 a1).bind fun t3 =>
(xck t3 a0 7).bind fun _ =>
(F_X7_step a0 t3).bind fun t5 =>
(xck t5 a0 7).bind fun _ =>
(F_X7_expectSign a0 (58 : Int32) t5).bind fun t7 =>
(xck t7 a0 7).bind fun _ =>
(Fx_X7_readSum a0 (0 : Int32) t7).bind fun t9 =>
if a1 = 0 then (
(xgP t9 a0 7 0).bind fun t10 =>
(xpI t9 t10 3 8 t2).bind fun t11 =>
(xgP t11 a0 7 0).bind fun t12 =>
(xgP t11 a0 7 0).bind fun t13 =>
(xgI t11 t13 3 7).bind fun t14 =>
(xpI t11 t12 3 9 t14).bind fun t15 =>
some t15)
else (
(xgP t9 a0 7 0).bind fun t16 =>
(xpI t9 t16 3 10 t2).bind fun t17 =>
(xgP t17 a0 7 0).bind fun t18 =>
(xgP t17 a0 7 0).bind fun t19 =>
(xgI t17 t19 3 7).bind fun t20 =>
(xpI t17 t18 3 11 t20).bind fun t21 =>
some t21)
set_option maxRecDepth 100000 in
set_option maxHeartbeats 4000000 in
theorem T_X7_readLaw (l : Launch) (κ : xQ) (a0 : Nat) (a1 : Int32) (M : xM) (mo : xM) (h : F_X7_readLaw a0 a1 M = some mo) : xC l yX7_readLaw cX7_readLaw 3 none 68 0 0 κ [.ref (κ.1 + a0), .int a1] M none mo := by
  refine xC_of rfl (Nat.le_of_ble_eq_true rfl) fun p e s m args below meth c X hr hlk hnm H locs ls O hl => ?_
  have X : xX p s m args c cX7_readLaw 3 RX7 κ := X
  have hl : lv_has ls 3 [(0, .ref (κ.1 + a0)), (1, .int a1)] := hl
  have hx := X.1
  have hb := X.2.1
  obtain ⟨x, hx0⟩ : ∃ x, mo = x := ⟨_, rfl⟩
  rw [hx0] at h
  have hK : x = mo := hx0.symm
  unfold F_X7_readLaw at h
  refine lv_aload_n hx hb dX7_readLaw_0 rfl (lv_at hl 0 rfl) ?_
  obtain ⟨t1, ht1, h⟩ := Option.bind_eq_some_iff.mp h
  refine xr_getP X O ht1 fl_X7_22 dX7_readLaw_1 ?_
  obtain ⟨t2, ht2, h⟩ := Option.bind_eq_some_iff.mp h
  refine xr_getI X O ht2 fl_X7_216 (Or.inl rfl) dX7_readLaw_4 ?_
  refine lv_istore_n (lv' := [(2, .int t2), (0, .ref (κ.1 + a0)), (1, .int a1)]) hx hb dX7_readLaw_7 rfl hl (by decide) rfl (fun ls hl => ?_)
  refine lv_aload_n hx hb dX7_readLaw_8 rfl (lv_at hl 1 rfl) ?_
  refine lv_iload_n hx hb dX7_readLaw_9 rfl (lv_at hl 2 rfl) ?_
  obtain ⟨t3, ht3, h⟩ := Option.bind_eq_some_iff.mp h
  refine xr_putZ X O ht3 fl_X7_219 dX7_readLaw_10 (fun H locs O => ?_)
  refine lv_aload_n hx hb dX7_readLaw_13 rfl (lv_at hl 1 rfl) ?_
  obtain ⟨_, hut4, h⟩ := Option.bind_eq_some_iff.mp h
  obtain ⟨t5, ht5, h⟩ := Option.bind_eq_some_iff.mp h
  refine xr_callV (rest := []) X O (T_X7_step l κ a0 t3 _ ht5) lk_X7_58 hut4 (Nat.le_of_ble_eq_true rfl) rfl hl.1 rfl (Nat.le_of_ble_eq_true rfl) dX7_readLaw_14 ⟨Nat.le_of_ble_eq_true rfl, Nat.le_of_ble_eq_true rfl⟩ (fun H locs O => ?_)
  refine W.eq (g2 := F0 m 17 ls []) rfl ?_
  refine lv_aload_n hx hb dX7_readLaw_17 rfl (lv_at hl 1 rfl) ?_
  refine lv_bipush (v := (58 : Int32)) hx hb dX7_readLaw_18 (by decide) ?_
  obtain ⟨_, hut6, h⟩ := Option.bind_eq_some_iff.mp h
  obtain ⟨t7, ht7, h⟩ := Option.bind_eq_some_iff.mp h
  refine xr_callV (rest := []) X O (T_X7_expectSign l κ a0 (58 : Int32) t5 _ ht7) lk_X7_70 hut6 (Nat.le_of_ble_eq_true rfl) rfl hl.1 rfl (Nat.le_of_ble_eq_true rfl) dX7_readLaw_20 ⟨Nat.le_of_ble_eq_true rfl, Nat.le_of_ble_eq_true rfl⟩ (fun H locs O => ?_)
  refine W.eq (g2 := F0 m 23 ls []) rfl ?_
  refine lv_aload_n hx hb dX7_readLaw_23 rfl (lv_at hl 1 rfl) ?_
  refine lv_iconst (v := (0 : Int32)) hx hb dX7_readLaw_24 (by decide) ?_
  obtain ⟨_, hut8, h⟩ := Option.bind_eq_some_iff.mp h
  obtain ⟨t9, ht9, h⟩ := Option.bind_eq_some_iff.mp h
  refine xr_callV (rest := []) X O (Tx_X7_readSum l κ a0 (0 : Int32) t7 _ ht9) lk_X7_223 hut8 (Nat.le_of_ble_eq_true rfl) rfl hl.1 rfl (Nat.le_of_ble_eq_true rfl) dX7_readLaw_25 ⟨Nat.le_of_ble_eq_true rfl, Nat.le_of_ble_eq_true rfl⟩ (fun H locs O => ?_)
  refine W.eq (g2 := F0 m 28 ls []) rfl ?_
  refine lv_iload_n hx hb dX7_readLaw_28 rfl (lv_at hl 2 rfl) ?_
  refine lv_if_eq (tgt := 57) hx hb dX7_readLaw_29 (by decide) (fun hc29 => ?_) (fun hc29 => ?_)
  · rw [if_pos hc29] at h
    refine lv_aload_n hx hb dX7_readLaw_57 rfl (lv_at hl 1 rfl) ?_
    obtain ⟨t10, ht10, h⟩ := Option.bind_eq_some_iff.mp h
    refine xr_getP X O ht10 fl_X7_22 dX7_readLaw_58 ?_
    refine lv_iload_n hx hb dX7_readLaw_61 rfl (lv_at hl 0 rfl) ?_
    obtain ⟨t11, ht11, h⟩ := Option.bind_eq_some_iff.mp h
    refine xr_putI X O ht11 fl_X7_232 dX7_readLaw_62 (fun H locs O => ?_)
    refine lv_aload_n hx hb dX7_readLaw_65 rfl (lv_at hl 1 rfl) ?_
    obtain ⟨t12, ht12, h⟩ := Option.bind_eq_some_iff.mp h
    refine xr_getP X O ht12 fl_X7_22 dX7_readLaw_66 ?_
    refine lv_aload_n hx hb dX7_readLaw_69 rfl (lv_at hl 1 rfl) ?_
    obtain ⟨t13, ht13, h⟩ := Option.bind_eq_some_iff.mp h
    refine xr_getP X O ht13 fl_X7_22 dX7_readLaw_70 ?_
    obtain ⟨t14, ht14, h⟩ := Option.bind_eq_some_iff.mp h
    refine xr_getI X O ht14 fl_X7_216 (Or.inl rfl) dX7_readLaw_73 ?_
    obtain ⟨t15, ht15, h⟩ := Option.bind_eq_some_iff.mp h
    refine xr_putI X O ht15 fl_X7_235 dX7_readLaw_76 (fun H locs O => ?_)
    rw [← Option.some.inj h] at hK
    have hK : t15 = mo := hK
    rw [hK] at O
    exact xr_vret X hr hlk O dX7_readLaw_79
  rw [if_neg hc29] at h
  refine lv_aload_n hx hb dX7_readLaw_32 rfl (lv_at hl 1 rfl) ?_
  obtain ⟨t16, ht16, h⟩ := Option.bind_eq_some_iff.mp h
  refine xr_getP X O ht16 fl_X7_22 dX7_readLaw_33 ?_
  refine lv_iload_n hx hb dX7_readLaw_36 rfl (lv_at hl 0 rfl) ?_
  obtain ⟨t17, ht17, h⟩ := Option.bind_eq_some_iff.mp h
  refine xr_putI X O ht17 fl_X7_226 dX7_readLaw_37 (fun H locs O => ?_)
  refine lv_aload_n hx hb dX7_readLaw_40 rfl (lv_at hl 1 rfl) ?_
  obtain ⟨t18, ht18, h⟩ := Option.bind_eq_some_iff.mp h
  refine xr_getP X O ht18 fl_X7_22 dX7_readLaw_41 ?_
  refine lv_aload_n hx hb dX7_readLaw_44 rfl (lv_at hl 1 rfl) ?_
  obtain ⟨t19, ht19, h⟩ := Option.bind_eq_some_iff.mp h
  refine xr_getP X O ht19 fl_X7_22 dX7_readLaw_45 ?_
  obtain ⟨t20, ht20, h⟩ := Option.bind_eq_some_iff.mp h
  refine xr_getI X O ht20 fl_X7_216 (Or.inl rfl) dX7_readLaw_48 ?_
  obtain ⟨t21, ht21, h⟩ := Option.bind_eq_some_iff.mp h
  refine xr_putI X O ht21 fl_X7_229 dX7_readLaw_51 (fun H locs O => ?_)
  refine lv_goto (tgt := 79) hx hb dX7_readLaw_54 (by decide) ?_
  rw [← Option.some.inj h] at hK
  have hK : t21 = mo := hK
  rw [hK] at O
  exact xr_vret X hr hlk O dX7_readLaw_79
def F_X7_readLine (a0 : Nat) (M : xM) : Option (xM) :=
(xck M a0 7).bind fun _ =>
(F_X7_atWord a0 4 M).bind fun t2 =>
if t2.1 = 0 then (
(xck t2.2 a0 7).bind fun _ =>
(F_X7_atWord a0 5 t2.2).bind fun t4 =>
if t4.1 = 0 then (
(xck t4.2 a0 7).bind fun _ =>
(F_X7_atWord a0 7 t4.2).bind fun t6 =>
if t6.1 = 0 then (
(xck t6.2 a0 7).bind fun _ =>
(F_X7_atWord a0 10 t6.2).bind fun t8 =>
if t8.1 = 0 then (
(xck t8.2 a0 7).bind fun _ =>
(F_X7_atWord a0 11 t8.2).bind fun t10 =>
if t10.1 = 0 then (
(xck t10.2 a0 7).bind fun _ =>
(F_X7_atWord a0 12 t10.2).bind fun t12 =>
if t12.1 = 0 then (
(xck t12.2 a0 7).bind fun _ =>
(F_X7_atWord a0 13 t12.2).bind fun t14 =>
if t14.1 = 0 then (
(xck t14.2 a0 7).bind fun _ =>
(F_X7_atWord a0 14 t14.2).bind fun t16 =>
if t16.1 = 0 then (
(xck t16.2 a0 7).bind fun _ =>
(F_X7_atWord a0 27 t16.2).bind fun t18 =>
if t18.1 = 0 then (
(xck t18.2 a0 7).bind fun _ =>
(F_X7_fail a0 (2 : Int32) t18.2).bind fun t20 =>
some t20)
else (
(xck t18.2 a0 7).bind fun _ =>
(F_X7_readLaw a0 (1 : Int32) t18.2).bind fun t22 =>
some t22))
else (
(xck t16.2 a0 7).bind fun _ =>
(F_X7_readLaw a0 (0 : Int32) t16.2).bind fun t24 =>
some t24))
else (
(xck t14.2 a0 7).bind fun _ =>
(F_X7_step a0 t14.2).bind fun t26 =>
(xgP t26 a0 7 0).bind fun t27 =>
(xck t26 a0 7).bind fun _ =>
(F_X7_expectNumber a0 (0 : Int32) (10 : Int32) (0 : Int32) t26).bind fun t29 =>
(xpI t29.2 t27 3 4 t29.1).bind fun t30 =>
some t30))
else (
(xck t12.2 a0 7).bind fun _ =>
(F_X7_step a0 t12.2).bind fun t32 =>
(xgP t32 a0 7 1).bind fun t33 =>
(xck t32 a0 7).bind fun _ =>
(F_X7_expectNumber a0 (0 : Int32) (9 : Int32) (0 : Int32) t32).bind fun t35 =>
(xpI t35.2 t33 0 5 t35.1).bind fun t36 =>
some t36))
else (
(xck t10.2 a0 7).bind fun _ =>
(F_X7_readOwes a0 t10.2).bind fun t38 =>
some t38))
else (
(xck t8.2 a0 7).bind fun _ =>
(F_X7_readPaper a0 t8.2).bind fun t40 =>
some t40))
else (
(xck t6.2 a0 7).bind fun _ =>
(F_X7_readPlot a0 t6.2).bind fun t42 =>
some t42))
else (
(xck t4.2 a0 7).bind fun _ =>
(F_X7_readHouse a0 t4.2).bind fun t44 =>
some t44))
else (
(xck t2.2 a0 7).bind fun _ =>
(F_X7_readSand a0 t2.2).bind fun t46 =>
some t46)
set_option maxRecDepth 100000 in
set_option maxHeartbeats 4000000 in
theorem T_X7_readLine (l : Launch) (κ : xQ) (a0 : Nat) (M : xM) (mo : xM) (h : F_X7_readLine a0 M = some mo) : xC l yX7_readLine cX7_readLine 1 none 69 0 0 κ [.ref (κ.1 + a0)] M none mo := by
  refine xC_of rfl (Nat.le_of_ble_eq_true rfl) fun p e s m args below meth c X hr hlk hnm H locs ls O hl => ?_
  have X : xX p s m args c cX7_readLine 1 RX7 κ := X
  have hl : lv_has ls 1 [(0, .ref (κ.1 + a0))] := hl
  have hx := X.1
  have hb := X.2.1
  obtain ⟨x, hx0⟩ : ∃ x, mo = x := ⟨_, rfl⟩
  rw [hx0] at h
  have hK : x = mo := hx0.symm
  unfold F_X7_readLine at h
  refine lv_aload_n hx hb dX7_readLine_0 rfl (lv_at hl 0 rfl) ?_
  refine va_ldcS hx hb X.2.2.2.1 (X.2.2.2.2.2.2.1 4 _ rfl).1 dX7_readLine_1 ?_
  obtain ⟨_, hut1, h⟩ := Option.bind_eq_some_iff.mp h
  obtain ⟨t2, ht2, h⟩ := Option.bind_eq_some_iff.mp h
  refine xr_callV (rest := []) X O (T_X7_atWord l κ a0 4 M _ _ ht2) lk_X7_99 hut1 (Nat.le_of_ble_eq_true rfl) rfl hl.1 rfl (Nat.le_of_ble_eq_true rfl) dX7_readLine_3 ⟨Nat.le_of_ble_eq_true rfl, Nat.le_of_ble_eq_true rfl⟩ (fun H locs O => ?_)
  refine W.eq (g2 := F0 m 6 ls [.int t2.1]) rfl ?_
  refine lv_if_eq (tgt := 16) hx hb dX7_readLine_6 (by decide) (fun hc6 => ?_) (fun hc6 => ?_)
  · rw [if_pos hc6] at h
    refine lv_aload_n hx hb dX7_readLine_16 rfl (lv_at hl 0 rfl) ?_
    refine va_ldcS hx hb X.2.2.2.1 (X.2.2.2.2.2.2.1 5 _ rfl).1 dX7_readLine_17 ?_
    obtain ⟨_, hut3, h⟩ := Option.bind_eq_some_iff.mp h
    obtain ⟨t4, ht4, h⟩ := Option.bind_eq_some_iff.mp h
    refine xr_callV (rest := []) X O (T_X7_atWord l κ a0 5 t2.2 _ _ ht4) lk_X7_99 hut3 (Nat.le_of_ble_eq_true rfl) rfl hl.1 rfl (Nat.le_of_ble_eq_true rfl) dX7_readLine_19 ⟨Nat.le_of_ble_eq_true rfl, Nat.le_of_ble_eq_true rfl⟩ (fun H locs O => ?_)
    refine W.eq (g2 := F0 m 22 ls [.int t4.1]) rfl ?_
    refine lv_if_eq (tgt := 32) hx hb dX7_readLine_22 (by decide) (fun hc22 => ?_) (fun hc22 => ?_)
    · rw [if_pos hc22] at h
      refine lv_aload_n hx hb dX7_readLine_32 rfl (lv_at hl 0 rfl) ?_
      refine va_ldcS hx hb X.2.2.2.1 (X.2.2.2.2.2.2.1 7 _ rfl).1 dX7_readLine_33 ?_
      obtain ⟨_, hut5, h⟩ := Option.bind_eq_some_iff.mp h
      obtain ⟨t6, ht6, h⟩ := Option.bind_eq_some_iff.mp h
      refine xr_callV (rest := []) X O (T_X7_atWord l κ a0 7 t4.2 _ _ ht6) lk_X7_99 hut5 (Nat.le_of_ble_eq_true rfl) rfl hl.1 rfl (Nat.le_of_ble_eq_true rfl) dX7_readLine_35 ⟨Nat.le_of_ble_eq_true rfl, Nat.le_of_ble_eq_true rfl⟩ (fun H locs O => ?_)
      refine W.eq (g2 := F0 m 38 ls [.int t6.1]) rfl ?_
      refine lv_if_eq (tgt := 48) hx hb dX7_readLine_38 (by decide) (fun hc38 => ?_) (fun hc38 => ?_)
      · rw [if_pos hc38] at h
        refine lv_aload_n hx hb dX7_readLine_48 rfl (lv_at hl 0 rfl) ?_
        refine va_ldcS hx hb X.2.2.2.1 (X.2.2.2.2.2.2.1 10 _ rfl).1 dX7_readLine_49 ?_
        obtain ⟨_, hut7, h⟩ := Option.bind_eq_some_iff.mp h
        obtain ⟨t8, ht8, h⟩ := Option.bind_eq_some_iff.mp h
        refine xr_callV (rest := []) X O (T_X7_atWord l κ a0 10 t6.2 _ _ ht8) lk_X7_99 hut7 (Nat.le_of_ble_eq_true rfl) rfl hl.1 rfl (Nat.le_of_ble_eq_true rfl) dX7_readLine_51 ⟨Nat.le_of_ble_eq_true rfl, Nat.le_of_ble_eq_true rfl⟩ (fun H locs O => ?_)
        refine W.eq (g2 := F0 m 54 ls [.int t8.1]) rfl ?_
        refine lv_if_eq (tgt := 64) hx hb dX7_readLine_54 (by decide) (fun hc54 => ?_) (fun hc54 => ?_)
        · rw [if_pos hc54] at h
          refine lv_aload_n hx hb dX7_readLine_64 rfl (lv_at hl 0 rfl) ?_
          refine va_ldcS hx hb X.2.2.2.1 (X.2.2.2.2.2.2.1 11 _ rfl).1 dX7_readLine_65 ?_
          obtain ⟨_, hut9, h⟩ := Option.bind_eq_some_iff.mp h
          obtain ⟨t10, ht10, h⟩ := Option.bind_eq_some_iff.mp h
          refine xr_callV (rest := []) X O (T_X7_atWord l κ a0 11 t8.2 _ _ ht10) lk_X7_99 hut9 (Nat.le_of_ble_eq_true rfl) rfl hl.1 rfl (Nat.le_of_ble_eq_true rfl) dX7_readLine_67 ⟨Nat.le_of_ble_eq_true rfl, Nat.le_of_ble_eq_true rfl⟩ (fun H locs O => ?_)
          refine W.eq (g2 := F0 m 70 ls [.int t10.1]) rfl ?_
          refine lv_if_eq (tgt := 80) hx hb dX7_readLine_70 (by decide) (fun hc70 => ?_) (fun hc70 => ?_)
          · rw [if_pos hc70] at h
            refine lv_aload_n hx hb dX7_readLine_80 rfl (lv_at hl 0 rfl) ?_
            refine va_ldcS hx hb X.2.2.2.1 (X.2.2.2.2.2.2.1 12 _ rfl).1 dX7_readLine_81 ?_
            obtain ⟨_, hut11, h⟩ := Option.bind_eq_some_iff.mp h
            obtain ⟨t12, ht12, h⟩ := Option.bind_eq_some_iff.mp h
            refine xr_callV (rest := []) X O (T_X7_atWord l κ a0 12 t10.2 _ _ ht12) lk_X7_99 hut11 (Nat.le_of_ble_eq_true rfl) rfl hl.1 rfl (Nat.le_of_ble_eq_true rfl) dX7_readLine_83 ⟨Nat.le_of_ble_eq_true rfl, Nat.le_of_ble_eq_true rfl⟩ (fun H locs O => ?_)
            refine W.eq (g2 := F0 m 86 ls [.int t12.1]) rfl ?_
            refine lv_if_eq (tgt := 111) hx hb dX7_readLine_86 (by decide) (fun hc86 => ?_) (fun hc86 => ?_)
            · rw [if_pos hc86] at h
              refine lv_aload_n hx hb dX7_readLine_111 rfl (lv_at hl 0 rfl) ?_
              refine va_ldcS hx hb X.2.2.2.1 (X.2.2.2.2.2.2.1 13 _ rfl).1 dX7_readLine_112 ?_
              obtain ⟨_, hut13, h⟩ := Option.bind_eq_some_iff.mp h
              obtain ⟨t14, ht14, h⟩ := Option.bind_eq_some_iff.mp h
              refine xr_callV (rest := []) X O (T_X7_atWord l κ a0 13 t12.2 _ _ ht14) lk_X7_99 hut13 (Nat.le_of_ble_eq_true rfl) rfl hl.1 rfl (Nat.le_of_ble_eq_true rfl) dX7_readLine_114 ⟨Nat.le_of_ble_eq_true rfl, Nat.le_of_ble_eq_true rfl⟩ (fun H locs O => ?_)
              refine W.eq (g2 := F0 m 117 ls [.int t14.1]) rfl ?_
              refine lv_if_eq (tgt := 142) hx hb dX7_readLine_117 (by decide) (fun hc117 => ?_) (fun hc117 => ?_)
              · rw [if_pos hc117] at h
                refine lv_aload_n hx hb dX7_readLine_142 rfl (lv_at hl 0 rfl) ?_
                refine va_ldcS hx hb X.2.2.2.1 (X.2.2.2.2.2.2.1 14 _ rfl).1 dX7_readLine_143 ?_
                obtain ⟨_, hut15, h⟩ := Option.bind_eq_some_iff.mp h
                obtain ⟨t16, ht16, h⟩ := Option.bind_eq_some_iff.mp h
                refine xr_callV (rest := []) X O (T_X7_atWord l κ a0 14 t14.2 _ _ ht16) lk_X7_99 hut15 (Nat.le_of_ble_eq_true rfl) rfl hl.1 rfl (Nat.le_of_ble_eq_true rfl) dX7_readLine_145 ⟨Nat.le_of_ble_eq_true rfl, Nat.le_of_ble_eq_true rfl⟩ (fun H locs O => ?_)
                refine W.eq (g2 := F0 m 148 ls [.int t16.1]) rfl ?_
                refine lv_if_eq (tgt := 159) hx hb dX7_readLine_148 (by decide) (fun hc148 => ?_) (fun hc148 => ?_)
                · rw [if_pos hc148] at h
                  refine lv_aload_n hx hb dX7_readLine_159 rfl (lv_at hl 0 rfl) ?_
                  refine va_ldcS hx hb X.2.2.2.1 (X.2.2.2.2.2.2.1 27 _ rfl).1 dX7_readLine_160 ?_
                  obtain ⟨_, hut17, h⟩ := Option.bind_eq_some_iff.mp h
                  obtain ⟨t18, ht18, h⟩ := Option.bind_eq_some_iff.mp h
                  refine xr_callV (rest := []) X O (T_X7_atWord l κ a0 27 t16.2 _ _ ht18) lk_X7_99 hut17 (Nat.le_of_ble_eq_true rfl) rfl hl.1 rfl (Nat.le_of_ble_eq_true rfl) dX7_readLine_162 ⟨Nat.le_of_ble_eq_true rfl, Nat.le_of_ble_eq_true rfl⟩ (fun H locs O => ?_)
                  refine W.eq (g2 := F0 m 165 ls [.int t18.1]) rfl ?_
                  refine lv_if_eq (tgt := 176) hx hb dX7_readLine_165 (by decide) (fun hc165 => ?_) (fun hc165 => ?_)
                  · rw [if_pos hc165] at h
                    refine lv_aload_n hx hb dX7_readLine_176 rfl (lv_at hl 0 rfl) ?_
                    refine lv_iconst (v := (2 : Int32)) hx hb dX7_readLine_177 (by decide) ?_
                    obtain ⟨_, hut19, h⟩ := Option.bind_eq_some_iff.mp h
                    obtain ⟨t20, ht20, h⟩ := Option.bind_eq_some_iff.mp h
                    refine xr_callV (rest := []) X O (T_X7_fail l κ a0 (2 : Int32) t18.2 _ ht20) lk_X7_103 hut19 (Nat.le_of_ble_eq_true rfl) rfl hl.1 rfl (Nat.le_of_ble_eq_true rfl) dX7_readLine_178 ⟨Nat.le_of_ble_eq_true rfl, Nat.le_of_ble_eq_true rfl⟩ (fun H locs O => ?_)
                    refine W.eq (g2 := F0 m 181 ls []) rfl ?_
                    rw [← Option.some.inj h] at hK
                    have hK : t20 = mo := hK
                    rw [hK] at O
                    exact xr_vret X hr hlk O dX7_readLine_181
                  rw [if_neg hc165] at h
                  refine lv_aload_n hx hb dX7_readLine_168 rfl (lv_at hl 0 rfl) ?_
                  refine lv_iconst (v := (1 : Int32)) hx hb dX7_readLine_169 (by decide) ?_
                  obtain ⟨_, hut21, h⟩ := Option.bind_eq_some_iff.mp h
                  obtain ⟨t22, ht22, h⟩ := Option.bind_eq_some_iff.mp h
                  refine xr_callV (rest := []) X O (T_X7_readLaw l κ a0 (1 : Int32) t18.2 _ ht22) lk_X7_173 hut21 (Nat.le_of_ble_eq_true rfl) rfl hl.1 rfl (Nat.le_of_ble_eq_true rfl) dX7_readLine_170 ⟨Nat.le_of_ble_eq_true rfl, Nat.le_of_ble_eq_true rfl⟩ (fun H locs O => ?_)
                  refine W.eq (g2 := F0 m 173 ls []) rfl ?_
                  refine lv_goto (tgt := 181) hx hb dX7_readLine_173 (by decide) ?_
                  rw [← Option.some.inj h] at hK
                  have hK : t22 = mo := hK
                  rw [hK] at O
                  exact xr_vret X hr hlk O dX7_readLine_181
                rw [if_neg hc148] at h
                refine lv_aload_n hx hb dX7_readLine_151 rfl (lv_at hl 0 rfl) ?_
                refine lv_iconst (v := (0 : Int32)) hx hb dX7_readLine_152 (by decide) ?_
                obtain ⟨_, hut23, h⟩ := Option.bind_eq_some_iff.mp h
                obtain ⟨t24, ht24, h⟩ := Option.bind_eq_some_iff.mp h
                refine xr_callV (rest := []) X O (T_X7_readLaw l κ a0 (0 : Int32) t16.2 _ ht24) lk_X7_173 hut23 (Nat.le_of_ble_eq_true rfl) rfl hl.1 rfl (Nat.le_of_ble_eq_true rfl) dX7_readLine_153 ⟨Nat.le_of_ble_eq_true rfl, Nat.le_of_ble_eq_true rfl⟩ (fun H locs O => ?_)
                refine W.eq (g2 := F0 m 156 ls []) rfl ?_
                refine lv_goto (tgt := 181) hx hb dX7_readLine_156 (by decide) ?_
                rw [← Option.some.inj h] at hK
                have hK : t24 = mo := hK
                rw [hK] at O
                exact xr_vret X hr hlk O dX7_readLine_181
              rw [if_neg hc117] at h
              refine lv_aload_n hx hb dX7_readLine_120 rfl (lv_at hl 0 rfl) ?_
              obtain ⟨_, hut25, h⟩ := Option.bind_eq_some_iff.mp h
              obtain ⟨t26, ht26, h⟩ := Option.bind_eq_some_iff.mp h
              refine xr_callV (rest := []) X O (T_X7_step l κ a0 t14.2 _ ht26) lk_X7_58 hut25 (Nat.le_of_ble_eq_true rfl) rfl hl.1 rfl (Nat.le_of_ble_eq_true rfl) dX7_readLine_121 ⟨Nat.le_of_ble_eq_true rfl, Nat.le_of_ble_eq_true rfl⟩ (fun H locs O => ?_)
              refine W.eq (g2 := F0 m 124 ls []) rfl ?_
              refine lv_aload_n hx hb dX7_readLine_124 rfl (lv_at hl 0 rfl) ?_
              obtain ⟨t27, ht27, h⟩ := Option.bind_eq_some_iff.mp h
              refine xr_getP X O ht27 fl_X7_22 dX7_readLine_125 ?_
              refine lv_aload_n hx hb dX7_readLine_128 rfl (lv_at hl 0 rfl) ?_
              refine lv_iconst (v := (0 : Int32)) hx hb dX7_readLine_129 (by decide) ?_
              refine lv_bipush (v := (10 : Int32)) hx hb dX7_readLine_130 (by decide) ?_
              refine lv_iconst (v := (0 : Int32)) hx hb dX7_readLine_132 (by decide) ?_
              obtain ⟨_, hut28, h⟩ := Option.bind_eq_some_iff.mp h
              obtain ⟨t29, ht29, h⟩ := Option.bind_eq_some_iff.mp h
              refine xr_callV (rest := [.ref (κ.1 + t27)]) X O (T_X7_expectNumber l κ a0 (0 : Int32) (10 : Int32) (0 : Int32) t26 _ _ ht29) lk_X7_117 hut28 (Nat.le_of_ble_eq_true rfl) rfl hl.1 rfl (Nat.le_of_ble_eq_true rfl) dX7_readLine_133 ⟨Nat.le_of_ble_eq_true rfl, Nat.le_of_ble_eq_true rfl⟩ (fun H locs O => ?_)
              refine W.eq (g2 := F0 m 136 ls [.int t29.1, .ref (κ.1 + t27)]) rfl ?_
              obtain ⟨t30, ht30, h⟩ := Option.bind_eq_some_iff.mp h
              refine xr_putI X O ht30 fl_X7_169 dX7_readLine_136 (fun H locs O => ?_)
              refine lv_goto (tgt := 181) hx hb dX7_readLine_139 (by decide) ?_
              rw [← Option.some.inj h] at hK
              have hK : t30 = mo := hK
              rw [hK] at O
              exact xr_vret X hr hlk O dX7_readLine_181
            rw [if_neg hc86] at h
            refine lv_aload_n hx hb dX7_readLine_89 rfl (lv_at hl 0 rfl) ?_
            obtain ⟨_, hut31, h⟩ := Option.bind_eq_some_iff.mp h
            obtain ⟨t32, ht32, h⟩ := Option.bind_eq_some_iff.mp h
            refine xr_callV (rest := []) X O (T_X7_step l κ a0 t12.2 _ ht32) lk_X7_58 hut31 (Nat.le_of_ble_eq_true rfl) rfl hl.1 rfl (Nat.le_of_ble_eq_true rfl) dX7_readLine_90 ⟨Nat.le_of_ble_eq_true rfl, Nat.le_of_ble_eq_true rfl⟩ (fun H locs O => ?_)
            refine W.eq (g2 := F0 m 93 ls []) rfl ?_
            refine lv_aload_n hx hb dX7_readLine_93 rfl (lv_at hl 0 rfl) ?_
            obtain ⟨t33, ht33, h⟩ := Option.bind_eq_some_iff.mp h
            refine xr_getP X O ht33 fl_X7_29 dX7_readLine_94 ?_
            refine lv_aload_n hx hb dX7_readLine_97 rfl (lv_at hl 0 rfl) ?_
            refine lv_iconst (v := (0 : Int32)) hx hb dX7_readLine_98 (by decide) ?_
            refine lv_bipush (v := (9 : Int32)) hx hb dX7_readLine_99 (by decide) ?_
            refine lv_iconst (v := (0 : Int32)) hx hb dX7_readLine_101 (by decide) ?_
            obtain ⟨_, hut34, h⟩ := Option.bind_eq_some_iff.mp h
            obtain ⟨t35, ht35, h⟩ := Option.bind_eq_some_iff.mp h
            refine xr_callV (rest := [.ref (κ.1 + t33)]) X O (T_X7_expectNumber l κ a0 (0 : Int32) (9 : Int32) (0 : Int32) t32 _ _ ht35) lk_X7_117 hut34 (Nat.le_of_ble_eq_true rfl) rfl hl.1 rfl (Nat.le_of_ble_eq_true rfl) dX7_readLine_102 ⟨Nat.le_of_ble_eq_true rfl, Nat.le_of_ble_eq_true rfl⟩ (fun H locs O => ?_)
            refine W.eq (g2 := F0 m 105 ls [.int t35.1, .ref (κ.1 + t33)]) rfl ?_
            obtain ⟨t36, ht36, h⟩ := Option.bind_eq_some_iff.mp h
            refine xr_putI X O ht36 fl_X7_165 dX7_readLine_105 (fun H locs O => ?_)
            refine lv_goto (tgt := 181) hx hb dX7_readLine_108 (by decide) ?_
            rw [← Option.some.inj h] at hK
            have hK : t36 = mo := hK
            rw [hK] at O
            exact xr_vret X hr hlk O dX7_readLine_181
          rw [if_neg hc70] at h
          refine lv_aload_n hx hb dX7_readLine_73 rfl (lv_at hl 0 rfl) ?_
          obtain ⟨_, hut37, h⟩ := Option.bind_eq_some_iff.mp h
          obtain ⟨t38, ht38, h⟩ := Option.bind_eq_some_iff.mp h
          refine xr_callV (rest := []) X O (T_X7_readOwes l κ a0 t10.2 _ ht38) lk_X7_160 hut37 (Nat.le_of_ble_eq_true rfl) rfl hl.1 rfl (Nat.le_of_ble_eq_true rfl) dX7_readLine_74 ⟨Nat.le_of_ble_eq_true rfl, Nat.le_of_ble_eq_true rfl⟩ (fun H locs O => ?_)
          refine W.eq (g2 := F0 m 77 ls []) rfl ?_
          refine lv_goto (tgt := 181) hx hb dX7_readLine_77 (by decide) ?_
          rw [← Option.some.inj h] at hK
          have hK : t38 = mo := hK
          rw [hK] at O
          exact xr_vret X hr hlk O dX7_readLine_181
        rw [if_neg hc54] at h
        refine lv_aload_n hx hb dX7_readLine_57 rfl (lv_at hl 0 rfl) ?_
        obtain ⟨_, hut39, h⟩ := Option.bind_eq_some_iff.mp h
        obtain ⟨t40, ht40, h⟩ := Option.bind_eq_some_iff.mp h
        refine xr_callV (rest := []) X O (T_X7_readPaper l κ a0 t8.2 _ ht40) lk_X7_155 hut39 (Nat.le_of_ble_eq_true rfl) rfl hl.1 rfl (Nat.le_of_ble_eq_true rfl) dX7_readLine_58 ⟨Nat.le_of_ble_eq_true rfl, Nat.le_of_ble_eq_true rfl⟩ (fun H locs O => ?_)
        refine W.eq (g2 := F0 m 61 ls []) rfl ?_
        refine lv_goto (tgt := 181) hx hb dX7_readLine_61 (by decide) ?_
        rw [← Option.some.inj h] at hK
        have hK : t40 = mo := hK
        rw [hK] at O
        exact xr_vret X hr hlk O dX7_readLine_181
      rw [if_neg hc38] at h
      refine lv_aload_n hx hb dX7_readLine_41 rfl (lv_at hl 0 rfl) ?_
      obtain ⟨_, hut41, h⟩ := Option.bind_eq_some_iff.mp h
      obtain ⟨t42, ht42, h⟩ := Option.bind_eq_some_iff.mp h
      refine xr_callV (rest := []) X O (T_X7_readPlot l κ a0 t6.2 _ ht42) lk_X7_150 hut41 (Nat.le_of_ble_eq_true rfl) rfl hl.1 rfl (Nat.le_of_ble_eq_true rfl) dX7_readLine_42 ⟨Nat.le_of_ble_eq_true rfl, Nat.le_of_ble_eq_true rfl⟩ (fun H locs O => ?_)
      refine W.eq (g2 := F0 m 45 ls []) rfl ?_
      refine lv_goto (tgt := 181) hx hb dX7_readLine_45 (by decide) ?_
      rw [← Option.some.inj h] at hK
      have hK : t42 = mo := hK
      rw [hK] at O
      exact xr_vret X hr hlk O dX7_readLine_181
    rw [if_neg hc22] at h
    refine lv_aload_n hx hb dX7_readLine_25 rfl (lv_at hl 0 rfl) ?_
    obtain ⟨_, hut43, h⟩ := Option.bind_eq_some_iff.mp h
    obtain ⟨t44, ht44, h⟩ := Option.bind_eq_some_iff.mp h
    refine xr_callV (rest := []) X O (T_X7_readHouse l κ a0 t4.2 _ ht44) lk_X7_145 hut43 (Nat.le_of_ble_eq_true rfl) rfl hl.1 rfl (Nat.le_of_ble_eq_true rfl) dX7_readLine_26 ⟨Nat.le_of_ble_eq_true rfl, Nat.le_of_ble_eq_true rfl⟩ (fun H locs O => ?_)
    refine W.eq (g2 := F0 m 29 ls []) rfl ?_
    refine lv_goto (tgt := 181) hx hb dX7_readLine_29 (by decide) ?_
    rw [← Option.some.inj h] at hK
    have hK : t44 = mo := hK
    rw [hK] at O
    exact xr_vret X hr hlk O dX7_readLine_181
  rw [if_neg hc6] at h
  refine lv_aload_n hx hb dX7_readLine_9 rfl (lv_at hl 0 rfl) ?_
  obtain ⟨_, hut45, h⟩ := Option.bind_eq_some_iff.mp h
  obtain ⟨t46, ht46, h⟩ := Option.bind_eq_some_iff.mp h
  refine xr_callV (rest := []) X O (T_X7_readSand l κ a0 t2.2 _ ht46) lk_X7_140 hut45 (Nat.le_of_ble_eq_true rfl) rfl hl.1 rfl (Nat.le_of_ble_eq_true rfl) dX7_readLine_10 ⟨Nat.le_of_ble_eq_true rfl, Nat.le_of_ble_eq_true rfl⟩ (fun H locs O => ?_)
  refine W.eq (g2 := F0 m 13 ls []) rfl ?_
  refine lv_goto (tgt := 181) hx hb dX7_readLine_13 (by decide) ?_
  rw [← Option.some.inj h] at hK
  have hK : t46 = mo := hK
  rw [hK] at O
  exact xr_vret X hr hlk O dX7_readLine_181
def F_X7_reads_111 (v0 : Nat) (M : xM) : Option (Int32 × xM) :=
(xgI M v0 7 2).bind fun t29 =>
if t29 = 0 then (
(xz (1 : Int32)).bind fun t31 =>
some (t31, M))
else (
(xz (0 : Int32)).bind fun t30 =>
some (t30, M))
def F_X7_reads_61b (v0 : Nat) : (Int32 × xM) → Option ((Int32 × xM) ⊕ (Int32 × xM)) := fun ⟨v2, M⟩ =>
if (900 : Int32) ≤ v2 then (
(F_X7_reads_111 v0 M).map Sum.inr)
else (
(xgI M v0 7 2).bind fun t20 =>
if t20 = 0 then (
(xgI M v0 7 8).bind fun t21 =>
if t21 = 0 then (
(F_X7_reads_111 v0 M).map Sum.inr)
else (
(xck M v0 7).bind fun _ =>
(F_X7_readLine v0 M).bind fun t23 =>
(xck t23 v0 7).bind fun _ =>
(F_X7_expectSign v0 (59 : Int32) t23).bind fun t25 =>
(xgP t25 v0 7 0).bind fun t26 =>
(xgI t25 t26 3 3).bind fun t27 =>
(xpI t25 t26 3 3 (t27 + (1 : Int32))).bind fun t28 =>
some (.inl ((v2 + 1), t28))))
else (
(F_X7_reads_111 v0 M).map Sum.inr))
def F_X7_reads_61 (v0 : Nat) (v2 : Int32) (M : xM) : Option (Int32 × xM) := xit (F_X7_reads_61b v0) xFU (v2, M)
def F_X7_reads (a0 : Nat) (a1 : Int32) (M : xM) : Option (Int32 × xM) :=
(xgP M a0 7 4).bind fun t1 =>
(xal M 21 t1).bind fun t2 =>
(F_J9_min_7cf53 a1 t2 M).bind fun t3 =>
(F_J9_max_7cf53 (0 : Int32) t3.1 t3.2).bind fun t4 =>
(xpI t4.2 a0 7 5 t4.1).bind fun t5 =>
(xpI t5 a0 7 7 (0 : Int32)).bind fun t6 =>
(xpI t6 a0 7 2 (0 : Int32)).bind fun t7 =>
(xpI t7 a0 7 3 (-1 : Int32)).bind fun t8 =>
(xpI t8 a0 7 9 (0 : Int32)).bind fun t9 =>
(xgP t9 a0 7 0).bind fun t10 =>
(xck t9 t10 3).bind fun _ =>
(F_X3_clear t10 t9).bind fun t12 =>
(xgP t12 a0 7 1).bind fun t13 =>
(xck t12 t13 0).bind fun _ =>
(F_X0_clear t13 t12).bind fun t15 =>
(xck t15 a0 7).bind fun _ =>
(F_X7_step a0 t15).bind fun t17 =>
(xck t17 a0 7).bind fun _ =>
(F_X7_readHead a0 t17).bind fun t19 =>
F_X7_reads_61 a0 (0 : Int32) t19
set_option maxRecDepth 100000 in
set_option maxHeartbeats 4000000 in
theorem F_X7_reads_111_ok (X : xX p s m args c cX7_reads 3 RX7 κ) (hr : meth.sig.returnType = (some .boolean)) (hlk : meth.locks = false) {ro : Int32} {mo : xM} (v0 : Nat) (M : xM) (x : Int32 × xM) (h : F_X7_reads_111 v0 M = some x) (hK : (fun o => o = (ro, mo)) x) (H : Heap) (locs : List Loc) (ls : Array Slot) (O : xO κ s M H locs) (hl : lv_has ls 3 [(0, .ref (κ.1 + v0))]) : W p l e (xRm 70 0 0) s m args below meth c H locs 0 0 (xQf below args s 0 0 κ (some (.int ro)) mo) (F0 m 111 ls []) := by
  unfold F_X7_reads_111 at h
  have hx := X.1
  have hb := X.2.1
  refine lv_aload_n hx hb dX7_reads_111 rfl (lv_at hl 0 rfl) ?_
  obtain ⟨t29, ht29, h⟩ := Option.bind_eq_some_iff.mp h
  refine xr_getI X O ht29 fl_X7_48 (Or.inl rfl) dX7_reads_112 ?_
  refine lv_if_ne (tgt := 122) hx hb dX7_reads_115 (by decide) (fun hc115 => ?_) (fun hc115 => ?_)
  · rw [if_neg hc115] at h
    refine lv_iconst (v := (0 : Int32)) hx hb dX7_reads_122 (by decide) ?_
    obtain ⟨t30, ht30, h⟩ := Option.bind_eq_some_iff.mp h
    rw [← Option.some.inj h] at hK
    have hK : (t30, M) = (ro, mo) := hK
    obtain ⟨hK1, hK2⟩ := Prod.mk.inj hK
    rw [hK1] at ht30
    rw [hK2] at O
    exact xr_zret X hr hlk O ht30 dX7_reads_123
  rw [if_pos hc115] at h
  refine lv_iconst (v := (1 : Int32)) hx hb dX7_reads_118 (by decide) ?_
  refine lv_goto (tgt := 123) hx hb dX7_reads_119 (by decide) ?_
  obtain ⟨t31, ht31, h⟩ := Option.bind_eq_some_iff.mp h
  rw [← Option.some.inj h] at hK
  have hK : (t31, M) = (ro, mo) := hK
  obtain ⟨hK1, hK2⟩ := Prod.mk.inj hK
  rw [hK1] at ht31
  rw [hK2] at O
  exact xr_zret X hr hlk O ht31 dX7_reads_123
set_option maxRecDepth 100000 in
set_option maxHeartbeats 4000000 in
theorem F_X7_reads_61_bok (X : xX p s m args c cX7_reads 3 RX7 κ) (hr : meth.sig.returnType = (some .boolean)) (hlk : meth.locks = false) {ro : Int32} {mo : xM} (v0 : Nat) (v2 : Int32) {W61 : Int32 × xM → Prop} (hW61 : ∀ (v2 : Int32) (M : xM), W61 (v2, M) → ∀ (H : Heap) (locs : List Loc) (ls : Array Slot), xO κ s M H locs → lv_has ls 3 [(0, .ref (κ.1 + v0)), (2, .int v2)] → W p l e (xRm 70 0 0) s m args below meth c H locs 0 0 (xQf below args s 0 0 κ (some (.int ro)) mo) (F0 m 61 ls [])) (M : xM) (x : (Int32 × xM) ⊕ (Int32 × xM)) (h : F_X7_reads_61b v0 (v2, M) = some x) (hK : (xKl W61 (fun o => o = (ro, mo))) x) (H : Heap) (locs : List Loc) (ls : Array Slot) (O : xO κ s M H locs) (hl : lv_has ls 3 [(0, .ref (κ.1 + v0)), (2, .int v2)]) : W p l e (xRm 70 0 0) s m args below meth c H locs 0 0 (xQf below args s 0 0 κ (some (.int ro)) mo) (F0 m 61 ls []) := by
  unfold F_X7_reads_61b at h
  dsimp only at h
  have hx := X.1
  have hb := X.2.1
  refine lv_iload_n hx hb dX7_reads_61 rfl (lv_at hl 1 rfl) ?_
  refine lv_sipush (v := (900 : Int32)) hx hb dX7_reads_62 (by decide) ?_
  refine lv_icmp_ge (tgt := 111) hx hb dX7_reads_65 (by decide) (fun hc65 => ?_) (fun hc65 => ?_)
  · rw [if_pos hc65] at h
    obtain ⟨_, hw0, ew0⟩ := Option.map_eq_some_iff.mp h
    rw [← ew0] at hK
    have h := hw0
    exact F_X7_reads_111_ok X hr hlk v0 M _ h hK H locs ls O (lv_sub hl [0] rfl)
  rw [if_neg hc65] at h
  refine lv_aload_n hx hb dX7_reads_68 rfl (lv_at hl 0 rfl) ?_
  obtain ⟨t20, ht20, h⟩ := Option.bind_eq_some_iff.mp h
  refine xr_getI X O ht20 fl_X7_48 (Or.inl rfl) dX7_reads_69 ?_
  refine lv_if_ne (tgt := 111) hx hb dX7_reads_72 (by decide) (fun hc72 => ?_) (fun hc72 => ?_)
  · rw [if_neg hc72] at h
    obtain ⟨_, hw0, ew0⟩ := Option.map_eq_some_iff.mp h
    rw [← ew0] at hK
    have h := hw0
    exact F_X7_reads_111_ok X hr hlk v0 M _ h hK H locs ls O (lv_sub hl [0] rfl)
  rw [if_pos hc72] at h
  refine lv_aload_n hx hb dX7_reads_75 rfl (lv_at hl 0 rfl) ?_
  obtain ⟨t21, ht21, h⟩ := Option.bind_eq_some_iff.mp h
  refine xr_getI X O ht21 fl_X7_64 (Or.inl rfl) dX7_reads_76 ?_
  refine lv_if_eq (tgt := 111) hx hb dX7_reads_79 (by decide) (fun hc79 => ?_) (fun hc79 => ?_)
  · rw [if_pos hc79] at h
    obtain ⟨_, hw0, ew0⟩ := Option.map_eq_some_iff.mp h
    rw [← ew0] at hK
    have h := hw0
    exact F_X7_reads_111_ok X hr hlk v0 M _ h hK H locs ls O (lv_sub hl [0] rfl)
  rw [if_neg hc79] at h
  refine lv_aload_n hx hb dX7_reads_82 rfl (lv_at hl 0 rfl) ?_
  obtain ⟨_, hut22, h⟩ := Option.bind_eq_some_iff.mp h
  obtain ⟨t23, ht23, h⟩ := Option.bind_eq_some_iff.mp h
  refine xr_callV (rest := []) X O (T_X7_readLine l κ v0 M _ ht23) lk_X7_67 hut22 (Nat.le_of_ble_eq_true rfl) rfl hl.1 rfl (Nat.le_of_ble_eq_true rfl) dX7_reads_83 ⟨Nat.le_of_ble_eq_true rfl, Nat.le_of_ble_eq_true rfl⟩ (fun H locs O => ?_)
  refine W.eq (g2 := F0 m 86 ls []) rfl ?_
  refine lv_aload_n hx hb dX7_reads_86 rfl (lv_at hl 0 rfl) ?_
  refine lv_bipush (v := (59 : Int32)) hx hb dX7_reads_87 (by decide) ?_
  obtain ⟨_, hut24, h⟩ := Option.bind_eq_some_iff.mp h
  obtain ⟨t25, ht25, h⟩ := Option.bind_eq_some_iff.mp h
  refine xr_callV (rest := []) X O (T_X7_expectSign l κ v0 (59 : Int32) t23 _ ht25) lk_X7_70 hut24 (Nat.le_of_ble_eq_true rfl) rfl hl.1 rfl (Nat.le_of_ble_eq_true rfl) dX7_reads_89 ⟨Nat.le_of_ble_eq_true rfl, Nat.le_of_ble_eq_true rfl⟩ (fun H locs O => ?_)
  refine W.eq (g2 := F0 m 92 ls []) rfl ?_
  refine lv_aload_n hx hb dX7_reads_92 rfl (lv_at hl 0 rfl) ?_
  obtain ⟨t26, ht26, h⟩ := Option.bind_eq_some_iff.mp h
  refine xr_getP X O ht26 fl_X7_22 dX7_reads_93 ?_
  refine lv_dup hx hb dX7_reads_96 rfl ?_
  obtain ⟨t27, ht27, h⟩ := Option.bind_eq_some_iff.mp h
  refine xr_getI X O ht27 fl_X7_74 (Or.inl rfl) dX7_reads_97 ?_
  refine lv_iconst (v := (1 : Int32)) hx hb dX7_reads_100 (by decide) ?_
  refine lv_iadd hx hb dX7_reads_101 ?_
  obtain ⟨t28, ht28, h⟩ := Option.bind_eq_some_iff.mp h
  refine xr_putI X O ht28 fl_X7_74 dX7_reads_102 (fun H locs O => ?_)
  refine lv_iinc (v := (v2 + 1)) (lv' := [(2, .int (v2 + 1)), (0, .ref (κ.1 + v0))]) hx hb dX7_reads_105 hl (k := 1) rfl rfl (by decide) rfl (fun ls hl => ?_)
  refine lv_goto (tgt := 61) hx hb dX7_reads_108 (by decide) ?_
  rw [← Option.some.inj h] at hK
  exact hW61 (v2 + 1) t28 hK H locs ls O (lv_sub hl [1, 0] rfl)
set_option maxRecDepth 100000 in
set_option maxHeartbeats 4000000 in
theorem F_X7_reads_61_ok (X : xX p s m args c cX7_reads 3 RX7 κ) (hr : meth.sig.returnType = (some .boolean)) (hlk : meth.locks = false) {ro : Int32} {mo : xM} (v0 : Nat) (v2 : Int32) (M : xM) (x : Int32 × xM) (h : F_X7_reads_61 v0 v2 M = some x) (hK : (fun o => o = (ro, mo)) x) (H : Heap) (locs : List Loc) (ls : Array Slot) (O : xO κ s M H locs) (hl : lv_has ls 3 [(0, .ref (κ.1 + v0)), (2, .int v2)]) : W p l e (xRm 70 0 0) s m args below meth c H locs 0 0 (xQf below args s 0 0 κ (some (.int ro)) mo) (F0 m 61 ls []) := by
  refine xit_K (Wh := fun x => ∀ (H : Heap) (locs : List Loc) (ls : Array Slot), xO κ s x.2 H locs → lv_has ls 3 [(0, .ref (κ.1 + v0)), (2, .int x.1)] → W p l e (xRm 70 0 0) s m args below meth c H locs 0 0 (xQf below args s 0 0 κ (some (.int ro)) mo) (F0 m 61 ls [])) (Kp := (fun o => o = (ro, mo))) ?_ xFU (v2, M) x h hK H locs ls O hl
  intro y x h hK H locs ls O hl
  exact F_X7_reads_61_bok X hr hlk v0 y.1 (fun _ _ hw => hw) y.2 x h hK H locs ls O hl
set_option maxRecDepth 100000 in
set_option maxHeartbeats 4000000 in
theorem T_X7_reads (l : Launch) (κ : xQ) (a0 : Nat) (a1 : Int32) (M : xM) (ro : Int32) (mo : xM) (h : F_X7_reads a0 a1 M = some (ro, mo)) : xC l yX7_reads cX7_reads 3 (some .boolean) 70 0 0 κ [.ref (κ.1 + a0), .int a1] M (some (.int ro)) mo := by
  refine xC_of rfl (Nat.le_of_ble_eq_true rfl) fun p e s m args below meth c X hr hlk hnm H locs ls O hl => ?_
  have X : xX p s m args c cX7_reads 3 RX7 κ := X
  have hl : lv_has ls 3 [(0, .ref (κ.1 + a0)), (1, .int a1)] := hl
  have hx := X.1
  have hb := X.2.1
  obtain ⟨x, hx0⟩ : ∃ x, (ro, mo) = x := ⟨_, rfl⟩
  rw [hx0] at h
  have hK : x = (ro, mo) := hx0.symm
  unfold F_X7_reads at h
  refine lv_aload_n hx hb dX7_reads_0 rfl (lv_at hl 0 rfl) ?_
  refine lv_iconst (v := (0 : Int32)) hx hb dX7_reads_1 (by decide) ?_
  refine lv_iload_n hx hb dX7_reads_2 rfl (lv_at hl 1 rfl) ?_
  refine lv_aload_n hx hb dX7_reads_3 rfl (lv_at hl 0 rfl) ?_
  obtain ⟨t1, ht1, h⟩ := Option.bind_eq_some_iff.mp h
  refine xr_getP X O ht1 fl_X7_9 dX7_reads_4 ?_
  obtain ⟨t2, ht2, h⟩ := Option.bind_eq_some_iff.mp h
  refine xr_aldLen X O ht2 (by decide) dX7_reads_7 ?_
  obtain ⟨t3, ht3, h⟩ := Option.bind_eq_some_iff.mp h
  refine xr_callS (rest := [.int (0 : Int32), .ref (κ.1 + a0)]) X O (T_J9_min_7cf53 l κ a1 t2 M _ _ ht3) lk_X7_33 (Nat.le_of_ble_eq_true rfl) rfl hl.1 rfl (Nat.le_of_ble_eq_true rfl) dX7_reads_8 ⟨Nat.le_of_ble_eq_true rfl, Nat.le_of_ble_eq_true rfl⟩ (fun H locs O => ?_)
  refine W.eq (g2 := F0 m 11 ls [.int t3.1, .int (0 : Int32), .ref (κ.1 + a0)]) rfl ?_
  obtain ⟨t4, ht4, h⟩ := Option.bind_eq_some_iff.mp h
  refine xr_callS (rest := [.ref (κ.1 + a0)]) X O (T_J9_max_7cf53 l κ (0 : Int32) t3.1 t3.2 _ _ ht4) lk_X7_39 (Nat.le_of_ble_eq_true rfl) rfl hl.1 rfl (Nat.le_of_ble_eq_true rfl) dX7_reads_11 ⟨Nat.le_of_ble_eq_true rfl, Nat.le_of_ble_eq_true rfl⟩ (fun H locs O => ?_)
  refine W.eq (g2 := F0 m 14 ls [.int t4.1, .ref (κ.1 + a0)]) rfl ?_
  obtain ⟨t5, ht5, h⟩ := Option.bind_eq_some_iff.mp h
  refine xr_putI X O ht5 fl_X7_42 dX7_reads_14 (fun H locs O => ?_)
  refine lv_aload_n hx hb dX7_reads_17 rfl (lv_at hl 0 rfl) ?_
  refine lv_iconst (v := (0 : Int32)) hx hb dX7_reads_18 (by decide) ?_
  obtain ⟨t6, ht6, h⟩ := Option.bind_eq_some_iff.mp h
  refine xr_putI X O ht6 fl_X7_45 dX7_reads_19 (fun H locs O => ?_)
  refine lv_aload_n hx hb dX7_reads_22 rfl (lv_at hl 0 rfl) ?_
  refine lv_iconst (v := (0 : Int32)) hx hb dX7_reads_23 (by decide) ?_
  obtain ⟨t7, ht7, h⟩ := Option.bind_eq_some_iff.mp h
  refine xr_putI X O ht7 fl_X7_48 dX7_reads_24 (fun H locs O => ?_)
  refine lv_aload_n hx hb dX7_reads_27 rfl (lv_at hl 0 rfl) ?_
  refine lv_iconst (v := (-1 : Int32)) hx hb dX7_reads_28 (by decide) ?_
  obtain ⟨t8, ht8, h⟩ := Option.bind_eq_some_iff.mp h
  refine xr_putI X O ht8 fl_X7_15 dX7_reads_29 (fun H locs O => ?_)
  refine lv_aload_n hx hb dX7_reads_32 rfl (lv_at hl 0 rfl) ?_
  refine lv_iconst (v := (0 : Int32)) hx hb dX7_reads_33 (by decide) ?_
  obtain ⟨t9, ht9, h⟩ := Option.bind_eq_some_iff.mp h
  refine xr_putI X O ht9 fl_X7_51 dX7_reads_34 (fun H locs O => ?_)
  refine lv_aload_n hx hb dX7_reads_37 rfl (lv_at hl 0 rfl) ?_
  obtain ⟨t10, ht10, h⟩ := Option.bind_eq_some_iff.mp h
  refine xr_getP X O ht10 fl_X7_22 dX7_reads_38 ?_
  obtain ⟨_, hut11, h⟩ := Option.bind_eq_some_iff.mp h
  obtain ⟨t12, ht12, h⟩ := Option.bind_eq_some_iff.mp h
  refine xr_callV (rest := []) X O (T_X3_clear l κ t10 t9 _ ht12) lk_X7_54 hut11 (Nat.le_of_ble_eq_true rfl) rfl hl.1 rfl (Nat.le_of_ble_eq_true rfl) dX7_reads_41 ⟨Nat.le_of_ble_eq_true rfl, Nat.le_of_ble_eq_true rfl⟩ (fun H locs O => ?_)
  refine W.eq (g2 := F0 m 44 ls []) rfl ?_
  refine lv_aload_n hx hb dX7_reads_44 rfl (lv_at hl 0 rfl) ?_
  obtain ⟨t13, ht13, h⟩ := Option.bind_eq_some_iff.mp h
  refine xr_getP X O ht13 fl_X7_29 dX7_reads_45 ?_
  obtain ⟨_, hut14, h⟩ := Option.bind_eq_some_iff.mp h
  obtain ⟨t15, ht15, h⟩ := Option.bind_eq_some_iff.mp h
  refine xr_callV (rest := []) X O (T_X0_clear l κ t13 t12 _ ht15) lk_X7_57 hut14 (Nat.le_of_ble_eq_true rfl) rfl hl.1 rfl (Nat.le_of_ble_eq_true rfl) dX7_reads_48 ⟨Nat.le_of_ble_eq_true rfl, Nat.le_of_ble_eq_true rfl⟩ (fun H locs O => ?_)
  refine W.eq (g2 := F0 m 51 ls []) rfl ?_
  refine lv_aload_n hx hb dX7_reads_51 rfl (lv_at hl 0 rfl) ?_
  obtain ⟨_, hut16, h⟩ := Option.bind_eq_some_iff.mp h
  obtain ⟨t17, ht17, h⟩ := Option.bind_eq_some_iff.mp h
  refine xr_callV (rest := []) X O (T_X7_step l κ a0 t15 _ ht17) lk_X7_58 hut16 (Nat.le_of_ble_eq_true rfl) rfl hl.1 rfl (Nat.le_of_ble_eq_true rfl) dX7_reads_52 ⟨Nat.le_of_ble_eq_true rfl, Nat.le_of_ble_eq_true rfl⟩ (fun H locs O => ?_)
  refine W.eq (g2 := F0 m 55 ls []) rfl ?_
  refine lv_aload_n hx hb dX7_reads_55 rfl (lv_at hl 0 rfl) ?_
  obtain ⟨_, hut18, h⟩ := Option.bind_eq_some_iff.mp h
  obtain ⟨t19, ht19, h⟩ := Option.bind_eq_some_iff.mp h
  refine xr_callV (rest := []) X O (T_X7_readHead l κ a0 t17 _ ht19) lk_X7_61 hut18 (Nat.le_of_ble_eq_true rfl) rfl hl.1 rfl (Nat.le_of_ble_eq_true rfl) dX7_reads_56 ⟨Nat.le_of_ble_eq_true rfl, Nat.le_of_ble_eq_true rfl⟩ (fun H locs O => ?_)
  refine W.eq (g2 := F0 m 59 ls []) rfl ?_
  refine lv_iconst (v := (0 : Int32)) hx hb dX7_reads_59 (by decide) ?_
  refine lv_istore_n (lv' := [(2, .int (0 : Int32)), (0, .ref (κ.1 + a0)), (1, .int a1)]) hx hb dX7_reads_60 rfl hl (by decide) rfl (fun ls hl => ?_)
  exact F_X7_reads_61_ok X hr hlk a0 (0 : Int32) t19 _ h hK H locs ls O (lv_sub hl [1, 0] rfl)
def F_X8_init (a0 : Nat) (M : xM) : Option (xM) :=
(some (xnw M (4, 0))).bind fun t1 =>
(F_X4_init M.1.length t1).bind fun t2 =>
(xpP t2 a0 8 0 M.1.length).bind fun t3 =>
(some (xnw t3 (20, 25))).bind fun t4 =>
(xpP t4 a0 8 1 t3.1.length).bind fun t5 =>
(some (xnw t5 (20, 11))).bind fun t6 =>
(xpP t6 a0 8 2 t5.1.length).bind fun t7 =>
some t7
set_option maxRecDepth 100000 in
set_option maxHeartbeats 4000000 in
theorem T_X8_init (l : Launch) (κ : xQ) (a0 : Nat) (M : xM) (mo : xM) (h : F_X8_init a0 M = some mo) : xC l yX8_init cX8_init 1 none 3 5 144 κ [.ref (κ.1 + a0)] M none mo := by
  refine xC_of rfl (Nat.le_of_ble_eq_true rfl) fun p e s m args below meth c X hr hlk hnm H locs ls O hl => ?_
  have X : xX p s m args c cX8_init 1 RX8 κ := X
  have hl : lv_has ls 1 [(0, .ref (κ.1 + a0))] := hl
  have hx := X.1
  have hb := X.2.1
  obtain ⟨x, hx0⟩ : ∃ x, mo = x := ⟨_, rfl⟩
  rw [hx0] at h
  have hK : x = mo := hx0.symm
  unfold F_X8_init at h
  refine lv_aload_n hx hb dX8_init_0 rfl (lv_at hl 0 rfl) ?_
  refine xr_objI X lo_X8_3.1 lo_X8_3.2.1 lo_X8_3.2.2 hl.1 (by decide) dX8_init_1 ?_
  refine W.eq (g2 := F0 m 4 ls []) rfl ?_
  refine lv_aload_n hx hb dX8_init_4 rfl (lv_at hl 0 rfl) ?_
  obtain ⟨t1, ht1, h⟩ := Option.bind_eq_some_iff.mp h
  refine xr_new X O cl_X4 (by decide) (xw_t1 227 (by decide +kernel) rfl) (xw_t1 228 (by decide +kernel) rfl) (xw_t1 6 (by decide +kernel) rfl) (by decide) (Nat.le_of_ble_eq_true rfl) (Nat.le_of_ble_eq_true rfl) dX8_init_5 (fun H locs O => ?_)
  rw [Option.some.inj ht1] at O
  refine W.eq (g2 := F0 m 8 ls [.ref (κ.1 + M.1.length), .ref (κ.1 + a0)]) rfl ?_
  refine lv_dup hx hb dX8_init_8 rfl ?_
  obtain ⟨t2, ht2, h⟩ := Option.bind_eq_some_iff.mp h
  refine xr_callI (rest := [.ref (κ.1 + M.1.length), .ref (κ.1 + a0)]) X O (T_X4_init l κ M.1.length t1 _ ht2) lk_X8_11 (Nat.le_of_ble_eq_true rfl) rfl hl.1 rfl (Nat.le_of_ble_eq_true rfl) dX8_init_9 ⟨Nat.le_of_ble_eq_true rfl, Nat.le_of_ble_eq_true rfl⟩ (fun H locs O => ?_)
  refine W.eq (g2 := F0 m 12 ls [.ref (κ.1 + M.1.length), .ref (κ.1 + a0)]) rfl ?_
  obtain ⟨t3, ht3, h⟩ := Option.bind_eq_some_iff.mp h
  refine xr_putP X O ht3 fl_X8_12 (fun _ => ⟨hnm, rfl⟩) dX8_init_12 (fun H locs O => ?_)
  refine lv_aload_n hx hb dX8_init_15 rfl (lv_at hl 0 rfl) ?_
  refine lv_bipush (v := (25 : Int32)) hx hb dX8_init_16 (by decide) ?_
  obtain ⟨t4, ht4, h⟩ := Option.bind_eq_some_iff.mp h
  refine xr_newI (N := 25) X O (xw_t1 133 (by decide +kernel) rfl) (by decide) (by decide) (by decide) (Nat.le_of_ble_eq_true rfl) (Nat.le_of_ble_eq_true rfl) dX8_init_18 (fun H locs O => ?_)
  rw [Option.some.inj ht4] at O
  refine W.eq (g2 := F0 m 20 ls [.ref (κ.1 + t3.1.length), .ref (κ.1 + a0)]) rfl ?_
  obtain ⟨t5, ht5, h⟩ := Option.bind_eq_some_iff.mp h
  refine xr_putP X O ht5 fl_X8_18 (fun _ => ⟨hnm, rfl⟩) dX8_init_20 (fun H locs O => ?_)
  refine lv_aload_n hx hb dX8_init_23 rfl (lv_at hl 0 rfl) ?_
  refine lv_bipush (v := (11 : Int32)) hx hb dX8_init_24 (by decide) ?_
  obtain ⟨t6, ht6, h⟩ := Option.bind_eq_some_iff.mp h
  refine xr_newI (N := 11) X O (xw_t1 133 (by decide +kernel) rfl) (by decide) (by decide) (by decide) (Nat.le_of_ble_eq_true rfl) (Nat.le_of_ble_eq_true rfl) dX8_init_26 (fun H locs O => ?_)
  rw [Option.some.inj ht6] at O
  refine W.eq (g2 := F0 m 28 ls [.ref (κ.1 + t5.1.length), .ref (κ.1 + a0)]) rfl ?_
  obtain ⟨t7, ht7, h⟩ := Option.bind_eq_some_iff.mp h
  refine xr_putP X O ht7 fl_X8_22 (fun _ => ⟨hnm, rfl⟩) dX8_init_28 (fun H locs O => ?_)
  rw [← Option.some.inj h] at hK
  have hK : t7 = mo := hK
  rw [hK] at O
  exact xr_vret X hr hlk O dX8_init_31
def F_X8_tick (a0 : Nat) (a1 : Nat) (a2 : Nat) (M : xM) : Option (Int32 × xM) :=
(xgI M a2 0 6).bind fun t1 =>
(xgI M a2 0 5).bind fun t2 =>
(xck M a0 8).bind fun _ =>
(F_X8_tideAt a0 a1 (t1 + (1 : Int32)) t2 M).bind fun t4 =>
(xck t4.2 a0 8).bind fun _ =>
(F_X8_tickAt a0 a1 a2 t4.1 t4.2).bind fun t6 =>
some (t6.1, t6.2)
set_option maxRecDepth 100000 in
set_option maxHeartbeats 4000000 in
theorem T_X8_tick (l : Launch) (κ : xQ) (a0 : Nat) (a1 : Nat) (a2 : Nat) (M : xM) (ro : Int32) (mo : xM) (h : F_X8_tick a0 a1 a2 M = some (ro, mo)) : xC l yX8_tick cX8_tick 3 (some .int) 6 0 0 κ [.ref (κ.1 + a0), .ref (κ.1 + a1), .ref (κ.1 + a2)] M (some (.int ro)) mo := by
  refine xC_of rfl (Nat.le_of_ble_eq_true rfl) fun p e s m args below meth c X hr hlk hnm H locs ls O hl => ?_
  have X : xX p s m args c cX8_tick 3 RX8 κ := X
  have hl : lv_has ls 3 [(0, .ref (κ.1 + a0)), (1, .ref (κ.1 + a1)), (2, .ref (κ.1 + a2))] := hl
  have hx := X.1
  have hb := X.2.1
  obtain ⟨x, hx0⟩ : ∃ x, (ro, mo) = x := ⟨_, rfl⟩
  rw [hx0] at h
  have hK : x = (ro, mo) := hx0.symm
  unfold F_X8_tick at h
  refine lv_aload_n hx hb dX8_tick_0 rfl (lv_at hl 0 rfl) ?_
  refine lv_aload_n hx hb dX8_tick_1 rfl (lv_at hl 1 rfl) ?_
  refine lv_aload_n hx hb dX8_tick_2 rfl (lv_at hl 2 rfl) ?_
  refine lv_aload_n hx hb dX8_tick_3 rfl (lv_at hl 0 rfl) ?_
  refine lv_aload_n hx hb dX8_tick_4 rfl (lv_at hl 1 rfl) ?_
  refine lv_aload_n hx hb dX8_tick_5 rfl (lv_at hl 2 rfl) ?_
  obtain ⟨t1, ht1, h⟩ := Option.bind_eq_some_iff.mp h
  refine xr_getI X O ht1 fl_X8_70 (Or.inl rfl) dX8_tick_6 ?_
  refine lv_iconst (v := (1 : Int32)) hx hb dX8_tick_9 (by decide) ?_
  refine lv_iadd hx hb dX8_tick_10 ?_
  refine lv_aload_n hx hb dX8_tick_11 rfl (lv_at hl 2 rfl) ?_
  obtain ⟨t2, ht2, h⟩ := Option.bind_eq_some_iff.mp h
  refine xr_getI X O ht2 fl_X8_75 (Or.inl rfl) dX8_tick_12 ?_
  obtain ⟨_, hut3, h⟩ := Option.bind_eq_some_iff.mp h
  obtain ⟨t4, ht4, h⟩ := Option.bind_eq_some_iff.mp h
  refine xr_callV (rest := [.ref (κ.1 + a2), .ref (κ.1 + a1), .ref (κ.1 + a0)]) X O (T_X8_tideAt l κ a0 a1 (t1 + (1 : Int32)) t2 M _ _ ht4) lk_X8_78 hut3 (Nat.le_of_ble_eq_true rfl) rfl hl.1 rfl (Nat.le_of_ble_eq_true rfl) dX8_tick_15 ⟨Nat.le_of_ble_eq_true rfl, Nat.le_of_ble_eq_true rfl⟩ (fun H locs O => ?_)
  refine W.eq (g2 := F0 m 18 ls [.int t4.1, .ref (κ.1 + a2), .ref (κ.1 + a1), .ref (κ.1 + a0)]) rfl ?_
  obtain ⟨_, hut5, h⟩ := Option.bind_eq_some_iff.mp h
  obtain ⟨t6, ht6, h⟩ := Option.bind_eq_some_iff.mp h
  refine xr_callV (rest := []) X O (T_X8_tickAt l κ a0 a1 a2 t4.1 t4.2 _ _ ht6) lk_X8_82 hut5 (Nat.le_of_ble_eq_true rfl) rfl hl.1 rfl (Nat.le_of_ble_eq_true rfl) dX8_tick_18 ⟨Nat.le_of_ble_eq_true rfl, Nat.le_of_ble_eq_true rfl⟩ (fun H locs O => ?_)
  refine W.eq (g2 := F0 m 21 ls [.int t6.1]) rfl ?_
  rw [← Option.some.inj h] at hK
  have hK : (t6.1, t6.2) = (ro, mo) := hK
  obtain ⟨hK1, hK2⟩ := Prod.mk.inj hK
  rw [hK2] at O
  refine xr_top (w := .int ro) (by rw [hK1]) ?_
  exact xr_iret X hr hlk O dX8_tick_21
def F_X8_attempt_147 (M : xM) : Option (Int32 × xM) :=
some ((1 : Int32), M)
def F_X8_attempt_114 (v1 : Nat) (v2 : Nat) (v5 : Int32) (M : xM) : Option (Int32 × xM) :=
if v5 < (200 : Int32) then (
F_X8_attempt_147 M)
else (
if (300 : Int32) ≤ v5 then (
F_X8_attempt_147 M)
else (
(xck M v1 3).bind fun _ =>
(F_X3_cells v1 M).bind fun t14 =>
(xck t14.2 v2 0).bind fun _ =>
(F_X0_scoop v2 (v5 - (200 : Int32)) t14.1 t14.2).bind fun t16 =>
some (t16.1, t16.2)))
def F_X8_attempt (a0 : Nat) (a1 : Nat) (a2 : Nat) (a3 : Int64) (M : xM) : Option (Int32 × xM) :=
if (lg_cmp a3 (0 : Int64)) = 0 then (
(xck M a0 8).bind fun _ =>
(F_X8_tick a0 a1 a2 M).bind fun t12 =>
some ((0 : Int32), t12.2))
else (
if (lg_cmp a3 (10 : Int64)) < 0 then (
some ((1 : Int32), M))
else (
if (lg_cmp a3 (2000 : Int64)) < 0 then (
if (20 : Int32) ≤ a3.toInt32 then (
if a3.toInt32 < (1000 : Int32) then (
if a3.toInt32 < (100 : Int32) then (
F_X8_attempt_114 a1 a2 a3.toInt32 M)
else (
if (200 : Int32) ≤ a3.toInt32 then (
F_X8_attempt_114 a1 a2 a3.toInt32 M)
else (
(xck M a1 3).bind fun _ =>
(F_X3_cells a1 M).bind fun t2 =>
(xck t2.2 a2 0).bind fun _ =>
(F_X0_heap a2 (a3.toInt32 - (100 : Int32)) t2.1 t2.2).bind fun t4 =>
some (t4.1, t4.2))))
else (
(xck M a1 3).bind fun _ =>
(F_X3_cells a1 M).bind fun t6 =>
(xck t6.2 a2 0).bind fun _ =>
(F_X0_settle a2 ((a3.toInt32 - (1000 : Int32)) / (10 : Int32)) (a3.toInt32 - a3.toInt32 / (10 : Int32) * (10 : Int32)) t6.1 t6.2).bind fun t8 =>
some (t8.1, t8.2)))
else (
(xck M a2 0).bind fun _ =>
(F_X0_changeMoon a2 (a3.toInt32 - (10 : Int32)) M).bind fun t10 =>
some (t10.1, t10.2)))
else (
some ((1 : Int32), M))))
set_option maxRecDepth 100000 in
set_option maxHeartbeats 4000000 in
theorem F_X8_attempt_147_ok (X : xX p s m args c cX8_attempt 6 RX8 κ) (hr : meth.sig.returnType = (some .int)) (hlk : meth.locks = false) {ro : Int32} {mo : xM} (M : xM) (x : Int32 × xM) (h : F_X8_attempt_147 M = some x) (hK : (fun o => o = (ro, mo)) x) (H : Heap) (locs : List Loc) (ls : Array Slot) (O : xO κ s M H locs) (hl : lv_has ls 6 []) : W p l e (xRm 7 0 0) s m args below meth c H locs 0 0 (xQf below args s 0 0 κ (some (.int ro)) mo) (F0 m 147 ls []) := by
  unfold F_X8_attempt_147 at h
  have hx := X.1
  have hb := X.2.1
  refine lv_iconst (v := (1 : Int32)) hx hb dX8_attempt_147 (by decide) ?_
  rw [← Option.some.inj h] at hK
  have hK : ((1 : Int32), M) = (ro, mo) := hK
  obtain ⟨hK1, hK2⟩ := Prod.mk.inj hK
  rw [hK2] at O
  refine xr_top (w := .int ro) (by rw [hK1]) ?_
  exact xr_iret X hr hlk O dX8_attempt_148
set_option maxRecDepth 100000 in
set_option maxHeartbeats 4000000 in
theorem F_X8_attempt_114_ok (X : xX p s m args c cX8_attempt 6 RX8 κ) (hr : meth.sig.returnType = (some .int)) (hlk : meth.locks = false) {ro : Int32} {mo : xM} (v1 : Nat) (v2 : Nat) (v5 : Int32) (M : xM) (x : Int32 × xM) (h : F_X8_attempt_114 v1 v2 v5 M = some x) (hK : (fun o => o = (ro, mo)) x) (H : Heap) (locs : List Loc) (ls : Array Slot) (O : xO κ s M H locs) (hl : lv_has ls 6 [(1, .ref (κ.1 + v1)), (2, .ref (κ.1 + v2)), (5, .int v5)]) : W p l e (xRm 7 0 0) s m args below meth c H locs 0 0 (xQf below args s 0 0 κ (some (.int ro)) mo) (F0 m 114 ls []) := by
  unfold F_X8_attempt_114 at h
  have hx := X.1
  have hb := X.2.1
  refine lv_iload hx hb dX8_attempt_114 (lv_at hl 2 rfl) ?_
  refine lv_sipush (v := (200 : Int32)) hx hb dX8_attempt_116 (by decide) ?_
  refine lv_icmp_lt (tgt := 147) hx hb dX8_attempt_119 (by decide) (fun hc119 => ?_) (fun hc119 => ?_)
  · rw [if_pos hc119] at h
    exact F_X8_attempt_147_ok X hr hlk  M _ h hK H locs ls O (lv_sub hl [] rfl)
  rw [if_neg hc119] at h
  refine lv_iload hx hb dX8_attempt_122 (lv_at hl 2 rfl) ?_
  refine lv_sipush (v := (300 : Int32)) hx hb dX8_attempt_124 (by decide) ?_
  refine lv_icmp_ge (tgt := 147) hx hb dX8_attempt_127 (by decide) (fun hc127 => ?_) (fun hc127 => ?_)
  · rw [if_pos hc127] at h
    exact F_X8_attempt_147_ok X hr hlk  M _ h hK H locs ls O (lv_sub hl [] rfl)
  rw [if_neg hc127] at h
  refine lv_aload_n hx hb dX8_attempt_130 rfl (lv_at hl 1 rfl) ?_
  refine lv_iload hx hb dX8_attempt_131 (lv_at hl 2 rfl) ?_
  refine lv_sipush (v := (200 : Int32)) hx hb dX8_attempt_133 (by decide) ?_
  refine lv_isub hx hb dX8_attempt_136 ?_
  refine lv_aload_n hx hb dX8_attempt_137 rfl (lv_at hl 0 rfl) ?_
  obtain ⟨_, hut13, h⟩ := Option.bind_eq_some_iff.mp h
  obtain ⟨t14, ht14, h⟩ := Option.bind_eq_some_iff.mp h
  refine xr_callV (rest := [.int (v5 - (200 : Int32)), .ref (κ.1 + v2)]) X O (T_X3_cells l κ v1 M _ _ ht14) lk_X8_56 hut13 (Nat.le_of_ble_eq_true rfl) rfl hl.1 rfl (Nat.le_of_ble_eq_true rfl) dX8_attempt_138 ⟨Nat.le_of_ble_eq_true rfl, Nat.le_of_ble_eq_true rfl⟩ (fun H locs O => ?_)
  refine W.eq (g2 := F0 m 141 ls [.int t14.1, .int (v5 - (200 : Int32)), .ref (κ.1 + v2)]) rfl ?_
  obtain ⟨_, hut15, h⟩ := Option.bind_eq_some_iff.mp h
  obtain ⟨t16, ht16, h⟩ := Option.bind_eq_some_iff.mp h
  refine xr_callV (rest := []) X O (T_X0_scoop l κ v2 (v5 - (200 : Int32)) t14.1 t14.2 _ _ ht16) lk_X8_137 hut15 (Nat.le_of_ble_eq_true rfl) rfl hl.1 rfl (Nat.le_of_ble_eq_true rfl) dX8_attempt_141 ⟨Nat.le_of_ble_eq_true rfl, Nat.le_of_ble_eq_true rfl⟩ (fun H locs O => ?_)
  refine W.eq (g2 := F0 m 144 ls [.int t16.1]) rfl ?_
  refine lv_goto (tgt := 148) hx hb dX8_attempt_144 (by decide) ?_
  rw [← Option.some.inj h] at hK
  have hK : (t16.1, t16.2) = (ro, mo) := hK
  obtain ⟨hK1, hK2⟩ := Prod.mk.inj hK
  rw [hK2] at O
  refine xr_top (w := .int ro) (by rw [hK1]) ?_
  exact xr_iret X hr hlk O dX8_attempt_148
set_option maxRecDepth 100000 in
set_option maxHeartbeats 4000000 in
theorem T_X8_attempt (l : Launch) (κ : xQ) (a0 : Nat) (a1 : Nat) (a2 : Nat) (a3 : Int64) (M : xM) (ro : Int32) (mo : xM) (h : F_X8_attempt a0 a1 a2 a3 M = some (ro, mo)) : xC l yX8_attempt cX8_attempt 6 (some .int) 7 0 0 κ [.ref (κ.1 + a0), .ref (κ.1 + a1), .ref (κ.1 + a2), .long a3] M (some (.int ro)) mo := by
  refine xC_of rfl (Nat.le_of_ble_eq_true rfl) fun p e s m args below meth c X hr hlk hnm H locs ls O hl => ?_
  have X : xX p s m args c cX8_attempt 6 RX8 κ := X
  have hl : lv_has ls 6 [(0, .ref (κ.1 + a0)), (1, .ref (κ.1 + a1)), (2, .ref (κ.1 + a2)), (3, .long a3)] := hl
  have hx := X.1
  have hb := X.2.1
  obtain ⟨x, hx0⟩ : ∃ x, (ro, mo) = x := ⟨_, rfl⟩
  rw [hx0] at h
  have hK : x = (ro, mo) := hx0.symm
  unfold F_X8_attempt at h
  refine lv_lload_n hx hb dX8_attempt_0 rfl (lv_at hl 3 rfl) ?_
  refine lv_lconst (v := (0 : Int64)) hx hb dX8_attempt_1 (by decide) ?_
  refine W.lcmp hx hb dX8_attempt_2 ?_
  refine lv_if_ne (tgt := 15) hx hb dX8_attempt_3 (by decide) (fun hc3 => ?_) (fun hc3 => ?_)
  · rw [if_neg hc3] at h
    refine lv_lload_n hx hb dX8_attempt_15 rfl (lv_at hl 3 rfl) ?_
    refine lv_ldc2 (v := (10 : Int64)) hx hb X.2.2.2.1 (X.2.2.2.2.1 _ ct_X8_123) dX8_attempt_16 ?_
    refine W.lcmp hx hb dX8_attempt_19 ?_
    refine lv_if_lt (tgt := 31) hx hb dX8_attempt_20 (by decide) (fun hc20 => ?_) (fun hc20 => ?_)
    · rw [if_pos hc20] at h
      refine lv_iconst (v := (1 : Int32)) hx hb dX8_attempt_31 (by decide) ?_
      rw [← Option.some.inj h] at hK
      have hK : ((1 : Int32), M) = (ro, mo) := hK
      obtain ⟨hK1, hK2⟩ := Prod.mk.inj hK
      rw [hK2] at O
      refine xr_top (w := .int ro) (by rw [hK1]) ?_
      exact xr_iret X hr hlk O dX8_attempt_32
    rw [if_neg hc20] at h
    refine lv_lload_n hx hb dX8_attempt_23 rfl (lv_at hl 3 rfl) ?_
    refine lv_ldc2 (v := (2000 : Int64)) hx hb X.2.2.2.1 (X.2.2.2.2.1 _ ct_X8_125) dX8_attempt_24 ?_
    refine W.lcmp hx hb dX8_attempt_27 ?_
    refine lv_if_lt (tgt := 33) hx hb dX8_attempt_28 (by decide) (fun hc28 => ?_) (fun hc28 => ?_)
    · rw [if_pos hc28] at h
      refine lv_lload_n hx hb dX8_attempt_33 rfl (lv_at hl 3 rfl) ?_
      refine lv_l2i (v := a3.toInt32) hx hb dX8_attempt_34 rfl ?_
      refine lv_istore (lv' := [(5, .int a3.toInt32), (0, .ref (κ.1 + a0)), (1, .ref (κ.1 + a1)), (2, .ref (κ.1 + a2)), (3, .long a3)]) hx hb dX8_attempt_35 hl (by decide) rfl (fun ls hl => ?_)
      refine lv_iload hx hb dX8_attempt_37 (lv_at hl 0 rfl) ?_
      refine lv_bipush (v := (20 : Int32)) hx hb dX8_attempt_39 (by decide) ?_
      refine lv_icmp_ge (tgt := 54) hx hb dX8_attempt_41 (by decide) (fun hc41 => ?_) (fun hc41 => ?_)
      · rw [if_pos hc41] at h
        refine lv_iload hx hb dX8_attempt_54 (lv_at hl 0 rfl) ?_
        refine lv_sipush (v := (1000 : Int32)) hx hb dX8_attempt_56 (by decide) ?_
        refine lv_icmp_lt (tgt := 85) hx hb dX8_attempt_59 (by decide) (fun hc59 => ?_) (fun hc59 => ?_)
        · rw [if_pos hc59] at h
          refine lv_iload hx hb dX8_attempt_85 (lv_at hl 0 rfl) ?_
          refine lv_bipush (v := (100 : Int32)) hx hb dX8_attempt_87 (by decide) ?_
          refine lv_icmp_lt (tgt := 114) hx hb dX8_attempt_89 (by decide) (fun hc89 => ?_) (fun hc89 => ?_)
          · rw [if_pos hc89] at h
            exact F_X8_attempt_114_ok X hr hlk a1 a2 a3.toInt32 M _ h hK H locs ls O (lv_sub hl [2, 3, 0] rfl)
          rw [if_neg hc89] at h
          refine lv_iload hx hb dX8_attempt_92 (lv_at hl 0 rfl) ?_
          refine lv_sipush (v := (200 : Int32)) hx hb dX8_attempt_94 (by decide) ?_
          refine lv_icmp_ge (tgt := 114) hx hb dX8_attempt_97 (by decide) (fun hc97 => ?_) (fun hc97 => ?_)
          · rw [if_pos hc97] at h
            exact F_X8_attempt_114_ok X hr hlk a1 a2 a3.toInt32 M _ h hK H locs ls O (lv_sub hl [2, 3, 0] rfl)
          rw [if_neg hc97] at h
          refine lv_aload_n hx hb dX8_attempt_100 rfl (lv_at hl 3 rfl) ?_
          refine lv_iload hx hb dX8_attempt_101 (lv_at hl 0 rfl) ?_
          refine lv_bipush (v := (100 : Int32)) hx hb dX8_attempt_103 (by decide) ?_
          refine lv_isub hx hb dX8_attempt_105 ?_
          refine lv_aload_n hx hb dX8_attempt_106 rfl (lv_at hl 2 rfl) ?_
          obtain ⟨_, hut1, h⟩ := Option.bind_eq_some_iff.mp h
          obtain ⟨t2, ht2, h⟩ := Option.bind_eq_some_iff.mp h
          refine xr_callV (rest := [.int (a3.toInt32 - (100 : Int32)), .ref (κ.1 + a2)]) X O (T_X3_cells l κ a1 M _ _ ht2) lk_X8_56 hut1 (Nat.le_of_ble_eq_true rfl) rfl hl.1 rfl (Nat.le_of_ble_eq_true rfl) dX8_attempt_107 ⟨Nat.le_of_ble_eq_true rfl, Nat.le_of_ble_eq_true rfl⟩ (fun H locs O => ?_)
          refine W.eq (g2 := F0 m 110 ls [.int t2.1, .int (a3.toInt32 - (100 : Int32)), .ref (κ.1 + a2)]) rfl ?_
          obtain ⟨_, hut3, h⟩ := Option.bind_eq_some_iff.mp h
          obtain ⟨t4, ht4, h⟩ := Option.bind_eq_some_iff.mp h
          refine xr_callV (rest := []) X O (T_X0_heap l κ a2 (a3.toInt32 - (100 : Int32)) t2.1 t2.2 _ _ ht4) lk_X8_134 hut3 (Nat.le_of_ble_eq_true rfl) rfl hl.1 rfl (Nat.le_of_ble_eq_true rfl) dX8_attempt_110 ⟨Nat.le_of_ble_eq_true rfl, Nat.le_of_ble_eq_true rfl⟩ (fun H locs O => ?_)
          refine W.eq (g2 := F0 m 113 ls [.int t4.1]) rfl ?_
          rw [← Option.some.inj h] at hK
          have hK : (t4.1, t4.2) = (ro, mo) := hK
          obtain ⟨hK1, hK2⟩ := Prod.mk.inj hK
          rw [hK2] at O
          refine xr_top (w := .int ro) (by rw [hK1]) ?_
          exact xr_iret X hr hlk O dX8_attempt_113
        rw [if_neg hc59] at h
        refine lv_aload_n hx hb dX8_attempt_62 rfl (lv_at hl 3 rfl) ?_
        refine lv_iload hx hb dX8_attempt_63 (lv_at hl 0 rfl) ?_
        refine lv_sipush (v := (1000 : Int32)) hx hb dX8_attempt_65 (by decide) ?_
        refine lv_isub hx hb dX8_attempt_68 ?_
        refine lv_bipush (v := (10 : Int32)) hx hb dX8_attempt_69 (by decide) ?_
        refine lv_idiv hx hb dX8_attempt_71 (by decide) ?_
        refine lv_iload hx hb dX8_attempt_72 (lv_at hl 0 rfl) ?_
        refine lv_bipush (v := (10 : Int32)) hx hb dX8_attempt_74 (by decide) ?_
        refine lv_irem hx hb dX8_attempt_76 (by decide) ?_
        refine lv_aload_n hx hb dX8_attempt_77 rfl (lv_at hl 2 rfl) ?_
        obtain ⟨_, hut5, h⟩ := Option.bind_eq_some_iff.mp h
        obtain ⟨t6, ht6, h⟩ := Option.bind_eq_some_iff.mp h
        refine xr_callV (rest := [.int (a3.toInt32 - a3.toInt32 / (10 : Int32) * (10 : Int32)), .int ((a3.toInt32 - (1000 : Int32)) / (10 : Int32)), .ref (κ.1 + a2)]) X O (T_X3_cells l κ a1 M _ _ ht6) lk_X8_56 hut5 (Nat.le_of_ble_eq_true rfl) rfl hl.1 rfl (Nat.le_of_ble_eq_true rfl) dX8_attempt_78 ⟨Nat.le_of_ble_eq_true rfl, Nat.le_of_ble_eq_true rfl⟩ (fun H locs O => ?_)
        refine W.eq (g2 := F0 m 81 ls [.int t6.1, .int (a3.toInt32 - a3.toInt32 / (10 : Int32) * (10 : Int32)), .int ((a3.toInt32 - (1000 : Int32)) / (10 : Int32)), .ref (κ.1 + a2)]) rfl ?_
        obtain ⟨_, hut7, h⟩ := Option.bind_eq_some_iff.mp h
        obtain ⟨t8, ht8, h⟩ := Option.bind_eq_some_iff.mp h
        refine xr_callV (rest := []) X O (T_X0_settle l κ a2 ((a3.toInt32 - (1000 : Int32)) / (10 : Int32)) (a3.toInt32 - a3.toInt32 / (10 : Int32) * (10 : Int32)) t6.1 t6.2 _ _ ht8) lk_X8_130 hut7 (Nat.le_of_ble_eq_true rfl) rfl hl.1 rfl (Nat.le_of_ble_eq_true rfl) dX8_attempt_81 ⟨Nat.le_of_ble_eq_true rfl, Nat.le_of_ble_eq_true rfl⟩ (fun H locs O => ?_)
        refine W.eq (g2 := F0 m 84 ls [.int t8.1]) rfl ?_
        rw [← Option.some.inj h] at hK
        have hK : (t8.1, t8.2) = (ro, mo) := hK
        obtain ⟨hK1, hK2⟩ := Prod.mk.inj hK
        rw [hK2] at O
        refine xr_top (w := .int ro) (by rw [hK1]) ?_
        exact xr_iret X hr hlk O dX8_attempt_84
      rw [if_neg hc41] at h
      refine lv_aload_n hx hb dX8_attempt_44 rfl (lv_at hl 3 rfl) ?_
      refine lv_iload hx hb dX8_attempt_45 (lv_at hl 0 rfl) ?_
      refine lv_bipush (v := (10 : Int32)) hx hb dX8_attempt_47 (by decide) ?_
      refine lv_isub hx hb dX8_attempt_49 ?_
      obtain ⟨_, hut9, h⟩ := Option.bind_eq_some_iff.mp h
      obtain ⟨t10, ht10, h⟩ := Option.bind_eq_some_iff.mp h
      refine xr_callV (rest := []) X O (T_X0_changeMoon l κ a2 (a3.toInt32 - (10 : Int32)) M _ _ ht10) lk_X8_127 hut9 (Nat.le_of_ble_eq_true rfl) rfl hl.1 rfl (Nat.le_of_ble_eq_true rfl) dX8_attempt_50 ⟨Nat.le_of_ble_eq_true rfl, Nat.le_of_ble_eq_true rfl⟩ (fun H locs O => ?_)
      refine W.eq (g2 := F0 m 53 ls [.int t10.1]) rfl ?_
      rw [← Option.some.inj h] at hK
      have hK : (t10.1, t10.2) = (ro, mo) := hK
      obtain ⟨hK1, hK2⟩ := Prod.mk.inj hK
      rw [hK2] at O
      refine xr_top (w := .int ro) (by rw [hK1]) ?_
      exact xr_iret X hr hlk O dX8_attempt_53
    rw [if_neg hc28] at h
    refine lv_iconst (v := (1 : Int32)) hx hb dX8_attempt_31 (by decide) ?_
    rw [← Option.some.inj h] at hK
    have hK : ((1 : Int32), M) = (ro, mo) := hK
    obtain ⟨hK1, hK2⟩ := Prod.mk.inj hK
    rw [hK2] at O
    refine xr_top (w := .int ro) (by rw [hK1]) ?_
    exact xr_iret X hr hlk O dX8_attempt_32
  rw [if_pos hc3] at h
  refine lv_aload_n hx hb dX8_attempt_6 rfl (lv_at hl 0 rfl) ?_
  refine lv_aload_n hx hb dX8_attempt_7 rfl (lv_at hl 1 rfl) ?_
  refine lv_aload_n hx hb dX8_attempt_8 rfl (lv_at hl 2 rfl) ?_
  obtain ⟨_, hut11, h⟩ := Option.bind_eq_some_iff.mp h
  obtain ⟨t12, ht12, h⟩ := Option.bind_eq_some_iff.mp h
  refine xr_callV (rest := []) X O (T_X8_tick l κ a0 a1 a2 M _ _ ht12) lk_X8_119 hut11 (Nat.le_of_ble_eq_true rfl) rfl hl.1 rfl (Nat.le_of_ble_eq_true rfl) dX8_attempt_9 ⟨Nat.le_of_ble_eq_true rfl, Nat.le_of_ble_eq_true rfl⟩ (fun H locs O => ?_)
  refine W.eq (g2 := F0 m 12 ls [.int t12.1]) rfl ?_
  refine lv_pop hx hb dX8_attempt_12 rfl ?_
  refine lv_iconst (v := (0 : Int32)) hx hb dX8_attempt_13 (by decide) ?_
  rw [← Option.some.inj h] at hK
  have hK : ((0 : Int32), t12.2) = (ro, mo) := hK
  obtain ⟨hK1, hK2⟩ := Prod.mk.inj hK
  rw [hK2] at O
  refine xr_top (w := .int ro) (by rw [hK1]) ?_
  exact xr_iret X hr hlk O dX8_attempt_14
def F_X8_mostAlike_65 (v0 : Nat) (v1 : Nat) (v2 : Int32) (v3 : Int32) (v4 : Int32) (v5 : Int32) (M : xM) : Option ((Int32 × Int32 × xM) ⊕ (Int32 × xM)) :=
some (.inl (v4, (v5 + 1), M))
def F_X8_mostAlike_71 (v4 : Int32) (M : xM) : Option (Int32 × xM) :=
some (v4, M)
def F_X8_mostAlike_14b (v0 : Nat) (v1 : Nat) (v2 : Int32) (v3 : Int32) : (Int32 × Int32 × xM) → Option ((Int32 × Int32 × xM) ⊕ (Int32 × xM)) := fun ⟨v4, v5, M⟩ =>
if (10 : Int32) ≤ v5 then (
(F_X8_mostAlike_71 v4 M).map Sum.inr)
else (
if ((v3 >>> (v5 &&& 31)) &&& (1 : Int32)) = 0 then (
F_X8_mostAlike_65 v0 v1 v2 v3 v4 v5 M)
else (
(xck M v0 8).bind fun _ =>
(F_X8_tideAt v0 v1 v2 v5 M).bind fun t4 =>
(xgP t4.2 v0 8 2).bind fun t5 =>
(xaI t4.2 20 t5 t4.1).bind fun t6 =>
(xsI t4.2 t5 t4.1 (t6 + (1 : Int32))).bind fun t7 =>
(xgP t7 v0 8 2).bind fun t8 =>
(xaI t7 20 t8 t4.1).bind fun t9 =>
(F_J9_max_7cf53 v4 t9 t7).bind fun t10 =>
F_X8_mostAlike_65 v0 v1 v2 v3 t10.1 v5 t10.2))
def F_X8_mostAlike_14 (v0 : Nat) (v1 : Nat) (v2 : Int32) (v3 : Int32) (v4 : Int32) (v5 : Int32) (M : xM) : Option (Int32 × xM) := xit (F_X8_mostAlike_14b v0 v1 v2 v3) xFU (v4, v5, M)
def F_X8_mostAlike (a0 : Nat) (a1 : Nat) (a2 : Int32) (a3 : Int32) (M : xM) : Option (Int32 × xM) :=
(xgP M a0 8 2).bind fun t1 =>
(F_J7_fill_53178 t1 (0 : Int32) M).bind fun t2 =>
F_X8_mostAlike_14 a0 a1 a2 a3 (0 : Int32) (0 : Int32) t2
set_option maxRecDepth 100000 in
set_option maxHeartbeats 4000000 in
theorem F_X8_mostAlike_65_ok (X : xX p s m args c cX8_mostAlike 7 RX8 κ) (hr : meth.sig.returnType = (some .int)) (hlk : meth.locks = false) {ro : Int32} {mo : xM} (v0 : Nat) (v1 : Nat) (v2 : Int32) (v3 : Int32) (v4 : Int32) (v5 : Int32) {W14 : Int32 × Int32 × xM → Prop} (hW14 : ∀ (v4 : Int32) (v5 : Int32) (M : xM), W14 (v4, v5, M) → ∀ (H : Heap) (locs : List Loc) (ls : Array Slot), xO κ s M H locs → lv_has ls 7 [(0, .ref (κ.1 + v0)), (1, .ref (κ.1 + v1)), (2, .int v2), (3, .int v3), (4, .int v4), (5, .int v5)] → W p l e (xRm 5 0 0) s m args below meth c H locs 0 0 (xQf below args s 0 0 κ (some (.int ro)) mo) (F0 m 14 ls [])) (M : xM) (x : (Int32 × Int32 × xM) ⊕ (Int32 × xM)) (h : F_X8_mostAlike_65 v0 v1 v2 v3 v4 v5 M = some x) (hK : (xKl W14 (fun o => o = (ro, mo))) x) (H : Heap) (locs : List Loc) (ls : Array Slot) (O : xO κ s M H locs) (hl : lv_has ls 7 [(0, .ref (κ.1 + v0)), (1, .ref (κ.1 + v1)), (2, .int v2), (3, .int v3), (4, .int v4), (5, .int v5)]) : W p l e (xRm 5 0 0) s m args below meth c H locs 0 0 (xQf below args s 0 0 κ (some (.int ro)) mo) (F0 m 65 ls []) := by
  unfold F_X8_mostAlike_65 at h
  have hx := X.1
  have hb := X.2.1
  refine lv_iinc (v := (v5 + 1)) (lv' := [(5, .int (v5 + 1)), (0, .ref (κ.1 + v0)), (1, .ref (κ.1 + v1)), (2, .int v2), (3, .int v3), (4, .int v4)]) hx hb dX8_mostAlike_65 hl (k := 5) rfl rfl (by decide) rfl (fun ls hl => ?_)
  refine lv_goto (tgt := 14) hx hb dX8_mostAlike_68 (by decide) ?_
  rw [← Option.some.inj h] at hK
  exact hW14 v4 (v5 + 1) M hK H locs ls O (lv_sub hl [1, 2, 3, 4, 5, 0] rfl)
set_option maxRecDepth 100000 in
set_option maxHeartbeats 4000000 in
theorem F_X8_mostAlike_71_ok (X : xX p s m args c cX8_mostAlike 7 RX8 κ) (hr : meth.sig.returnType = (some .int)) (hlk : meth.locks = false) {ro : Int32} {mo : xM} (v4 : Int32) (M : xM) (x : Int32 × xM) (h : F_X8_mostAlike_71 v4 M = some x) (hK : (fun o => o = (ro, mo)) x) (H : Heap) (locs : List Loc) (ls : Array Slot) (O : xO κ s M H locs) (hl : lv_has ls 7 [(4, .int v4)]) : W p l e (xRm 5 0 0) s m args below meth c H locs 0 0 (xQf below args s 0 0 κ (some (.int ro)) mo) (F0 m 71 ls []) := by
  unfold F_X8_mostAlike_71 at h
  have hx := X.1
  have hb := X.2.1
  refine lv_iload hx hb dX8_mostAlike_71 (lv_at hl 0 rfl) ?_
  rw [← Option.some.inj h] at hK
  have hK : (v4, M) = (ro, mo) := hK
  obtain ⟨hK1, hK2⟩ := Prod.mk.inj hK
  rw [hK2] at O
  refine xr_top (w := .int ro) (by rw [hK1]) ?_
  exact xr_iret X hr hlk O dX8_mostAlike_73
set_option maxRecDepth 100000 in
set_option maxHeartbeats 4000000 in
theorem F_X8_mostAlike_14_bok (X : xX p s m args c cX8_mostAlike 7 RX8 κ) (hr : meth.sig.returnType = (some .int)) (hlk : meth.locks = false) {ro : Int32} {mo : xM} (v0 : Nat) (v1 : Nat) (v2 : Int32) (v3 : Int32) (v4 : Int32) (v5 : Int32) {W14 : Int32 × Int32 × xM → Prop} (hW14 : ∀ (v4 : Int32) (v5 : Int32) (M : xM), W14 (v4, v5, M) → ∀ (H : Heap) (locs : List Loc) (ls : Array Slot), xO κ s M H locs → lv_has ls 7 [(0, .ref (κ.1 + v0)), (1, .ref (κ.1 + v1)), (2, .int v2), (3, .int v3), (4, .int v4), (5, .int v5)] → W p l e (xRm 5 0 0) s m args below meth c H locs 0 0 (xQf below args s 0 0 κ (some (.int ro)) mo) (F0 m 14 ls [])) (M : xM) (x : (Int32 × Int32 × xM) ⊕ (Int32 × xM)) (h : F_X8_mostAlike_14b v0 v1 v2 v3 (v4, v5, M) = some x) (hK : (xKl W14 (fun o => o = (ro, mo))) x) (H : Heap) (locs : List Loc) (ls : Array Slot) (O : xO κ s M H locs) (hl : lv_has ls 7 [(0, .ref (κ.1 + v0)), (1, .ref (κ.1 + v1)), (2, .int v2), (3, .int v3), (4, .int v4), (5, .int v5)]) : W p l e (xRm 5 0 0) s m args below meth c H locs 0 0 (xQf below args s 0 0 κ (some (.int ro)) mo) (F0 m 14 ls []) := by
  unfold F_X8_mostAlike_14b at h
  dsimp only at h
  have hx := X.1
  have hb := X.2.1
  refine lv_iload hx hb dX8_mostAlike_14 (lv_at hl 5 rfl) ?_
  refine lv_bipush (v := (10 : Int32)) hx hb dX8_mostAlike_16 (by decide) ?_
  refine lv_icmp_ge (tgt := 71) hx hb dX8_mostAlike_18 (by decide) (fun hc18 => ?_) (fun hc18 => ?_)
  · rw [if_pos hc18] at h
    obtain ⟨_, hw0, ew0⟩ := Option.map_eq_some_iff.mp h
    rw [← ew0] at hK
    have h := hw0
    exact F_X8_mostAlike_71_ok X hr hlk v4 M _ h hK H locs ls O (lv_sub hl [4] rfl)
  rw [if_neg hc18] at h
  refine lv_iload_n hx hb dX8_mostAlike_21 rfl (lv_at hl 3 rfl) ?_
  refine lv_iload hx hb dX8_mostAlike_22 (lv_at hl 5 rfl) ?_
  refine lv_ishr hx hb dX8_mostAlike_24 ?_
  refine lv_iconst (v := (1 : Int32)) hx hb dX8_mostAlike_25 (by decide) ?_
  refine lv_iand hx hb dX8_mostAlike_26 ?_
  refine lv_if_eq (tgt := 65) hx hb dX8_mostAlike_27 (by decide) (fun hc27 => ?_) (fun hc27 => ?_)
  · rw [if_pos hc27] at h
    exact F_X8_mostAlike_65_ok X hr hlk v0 v1 v2 v3 v4 v5 hW14 M _ h hK H locs ls O (lv_sub hl [0, 1, 2, 3, 4, 5] rfl)
  rw [if_neg hc27] at h
  refine lv_aload_n hx hb dX8_mostAlike_30 rfl (lv_at hl 0 rfl) ?_
  refine lv_aload_n hx hb dX8_mostAlike_31 rfl (lv_at hl 1 rfl) ?_
  refine lv_iload_n hx hb dX8_mostAlike_32 rfl (lv_at hl 2 rfl) ?_
  refine lv_iload hx hb dX8_mostAlike_33 (lv_at hl 5 rfl) ?_
  obtain ⟨_, hut3, h⟩ := Option.bind_eq_some_iff.mp h
  obtain ⟨t4, ht4, h⟩ := Option.bind_eq_some_iff.mp h
  refine xr_callV (rest := []) X O (T_X8_tideAt l κ v0 v1 v2 v5 M _ _ ht4) lk_X8_78 hut3 (Nat.le_of_ble_eq_true rfl) rfl hl.1 rfl (Nat.le_of_ble_eq_true rfl) dX8_mostAlike_35 ⟨Nat.le_of_ble_eq_true rfl, Nat.le_of_ble_eq_true rfl⟩ (fun H locs O => ?_)
  refine W.eq (g2 := F0 m 38 ls [.int t4.1]) rfl ?_
  refine lv_istore (lv' := [(6, .int t4.1), (0, .ref (κ.1 + v0)), (1, .ref (κ.1 + v1)), (2, .int v2), (3, .int v3), (4, .int v4), (5, .int v5)]) hx hb dX8_mostAlike_38 hl (by decide) rfl (fun ls hl => ?_)
  refine lv_aload_n hx hb dX8_mostAlike_40 rfl (lv_at hl 1 rfl) ?_
  obtain ⟨t5, ht5, h⟩ := Option.bind_eq_some_iff.mp h
  refine xr_getP X O ht5 fl_X8_22 dX8_mostAlike_41 ?_
  refine lv_iload hx hb dX8_mostAlike_44 (lv_at hl 0 rfl) ?_
  refine lv_dup2_11 hx hb dX8_mostAlike_46 rfl rfl ?_
  obtain ⟨t6, ht6, h⟩ := Option.bind_eq_some_iff.mp h
  refine xr_aldI X O ht6 dX8_mostAlike_47 ?_
  refine lv_iconst (v := (1 : Int32)) hx hb dX8_mostAlike_48 (by decide) ?_
  refine lv_iadd hx hb dX8_mostAlike_49 ?_
  obtain ⟨t7, ht7, h⟩ := Option.bind_eq_some_iff.mp h
  refine xr_stI X O ht7 dX8_mostAlike_50 (fun H locs O => ?_)
  refine lv_iload hx hb dX8_mostAlike_51 (lv_at hl 5 rfl) ?_
  refine lv_aload_n hx hb dX8_mostAlike_53 rfl (lv_at hl 1 rfl) ?_
  obtain ⟨t8, ht8, h⟩ := Option.bind_eq_some_iff.mp h
  refine xr_getP X O ht8 fl_X8_22 dX8_mostAlike_54 ?_
  refine lv_iload hx hb dX8_mostAlike_57 (lv_at hl 0 rfl) ?_
  obtain ⟨t9, ht9, h⟩ := Option.bind_eq_some_iff.mp h
  refine xr_aldI X O ht9 dX8_mostAlike_59 ?_
  obtain ⟨t10, ht10, h⟩ := Option.bind_eq_some_iff.mp h
  refine xr_callS (rest := []) X O (T_J9_max_7cf53 l κ v4 t9 t7 _ _ ht10) lk_X8_53 (Nat.le_of_ble_eq_true rfl) rfl hl.1 rfl (Nat.le_of_ble_eq_true rfl) dX8_mostAlike_60 ⟨Nat.le_of_ble_eq_true rfl, Nat.le_of_ble_eq_true rfl⟩ (fun H locs O => ?_)
  refine W.eq (g2 := F0 m 63 ls [.int t10.1]) rfl ?_
  refine lv_istore (lv' := [(4, .int t10.1), (6, .int t4.1), (0, .ref (κ.1 + v0)), (1, .ref (κ.1 + v1)), (2, .int v2), (3, .int v3), (5, .int v5)]) hx hb dX8_mostAlike_63 hl (by decide) rfl (fun ls hl => ?_)
  exact F_X8_mostAlike_65_ok X hr hlk v0 v1 v2 v3 t10.1 v5 hW14 t10.2 _ h hK H locs ls O (lv_sub hl [2, 3, 4, 5, 0, 6] rfl)
set_option maxRecDepth 100000 in
set_option maxHeartbeats 4000000 in
theorem F_X8_mostAlike_14_ok (X : xX p s m args c cX8_mostAlike 7 RX8 κ) (hr : meth.sig.returnType = (some .int)) (hlk : meth.locks = false) {ro : Int32} {mo : xM} (v0 : Nat) (v1 : Nat) (v2 : Int32) (v3 : Int32) (v4 : Int32) (v5 : Int32) (M : xM) (x : Int32 × xM) (h : F_X8_mostAlike_14 v0 v1 v2 v3 v4 v5 M = some x) (hK : (fun o => o = (ro, mo)) x) (H : Heap) (locs : List Loc) (ls : Array Slot) (O : xO κ s M H locs) (hl : lv_has ls 7 [(0, .ref (κ.1 + v0)), (1, .ref (κ.1 + v1)), (2, .int v2), (3, .int v3), (4, .int v4), (5, .int v5)]) : W p l e (xRm 5 0 0) s m args below meth c H locs 0 0 (xQf below args s 0 0 κ (some (.int ro)) mo) (F0 m 14 ls []) := by
  refine xit_K (Wh := fun x => ∀ (H : Heap) (locs : List Loc) (ls : Array Slot), xO κ s x.2.2 H locs → lv_has ls 7 [(0, .ref (κ.1 + v0)), (1, .ref (κ.1 + v1)), (2, .int v2), (3, .int v3), (4, .int x.1), (5, .int x.2.1)] → W p l e (xRm 5 0 0) s m args below meth c H locs 0 0 (xQf below args s 0 0 κ (some (.int ro)) mo) (F0 m 14 ls [])) (Kp := (fun o => o = (ro, mo))) ?_ xFU (v4, v5, M) x h hK H locs ls O hl
  intro y x h hK H locs ls O hl
  exact F_X8_mostAlike_14_bok X hr hlk v0 v1 v2 v3 y.1 y.2.1 (fun _ _ _ hw => hw) y.2.2 x h hK H locs ls O hl
set_option maxRecDepth 100000 in
set_option maxHeartbeats 4000000 in
theorem T_X8_mostAlike (l : Launch) (κ : xQ) (a0 : Nat) (a1 : Nat) (a2 : Int32) (a3 : Int32) (M : xM) (ro : Int32) (mo : xM) (h : F_X8_mostAlike a0 a1 a2 a3 M = some (ro, mo)) : xC l yX8_mostAlike cX8_mostAlike 7 (some .int) 5 0 0 κ [.ref (κ.1 + a0), .ref (κ.1 + a1), .int a2, .int a3] M (some (.int ro)) mo := by
  refine xC_of rfl (Nat.le_of_ble_eq_true rfl) fun p e s m args below meth c X hr hlk hnm H locs ls O hl => ?_
  have X : xX p s m args c cX8_mostAlike 7 RX8 κ := X
  have hl : lv_has ls 7 [(0, .ref (κ.1 + a0)), (1, .ref (κ.1 + a1)), (2, .int a2), (3, .int a3)] := hl
  have hx := X.1
  have hb := X.2.1
  obtain ⟨x, hx0⟩ : ∃ x, (ro, mo) = x := ⟨_, rfl⟩
  rw [hx0] at h
  have hK : x = (ro, mo) := hx0.symm
  unfold F_X8_mostAlike at h
  refine lv_aload_n hx hb dX8_mostAlike_0 rfl (lv_at hl 0 rfl) ?_
  obtain ⟨t1, ht1, h⟩ := Option.bind_eq_some_iff.mp h
  refine xr_getP X O ht1 fl_X8_22 dX8_mostAlike_1 ?_
  refine lv_iconst (v := (0 : Int32)) hx hb dX8_mostAlike_4 (by decide) ?_
  obtain ⟨t2, ht2, h⟩ := Option.bind_eq_some_iff.mp h
  refine xr_callS (rest := []) X O (T_J7_fill_53178 l κ t1 (0 : Int32) M _ ht2) lk_X8_140 (Nat.le_of_ble_eq_true rfl) rfl hl.1 rfl (Nat.le_of_ble_eq_true rfl) dX8_mostAlike_5 ⟨Nat.le_of_ble_eq_true rfl, Nat.le_of_ble_eq_true rfl⟩ (fun H locs O => ?_)
  refine W.eq (g2 := F0 m 8 ls []) rfl ?_
  refine lv_iconst (v := (0 : Int32)) hx hb dX8_mostAlike_8 (by decide) ?_
  refine lv_istore (lv' := [(4, .int (0 : Int32)), (0, .ref (κ.1 + a0)), (1, .ref (κ.1 + a1)), (2, .int a2), (3, .int a3)]) hx hb dX8_mostAlike_9 hl (by decide) rfl (fun ls hl => ?_)
  refine lv_iconst (v := (0 : Int32)) hx hb dX8_mostAlike_11 (by decide) ?_
  refine lv_istore (lv' := [(5, .int (0 : Int32)), (4, .int (0 : Int32)), (0, .ref (κ.1 + a0)), (1, .ref (κ.1 + a1)), (2, .int a2), (3, .int a3)]) hx hb dX8_mostAlike_12 hl (by decide) rfl (fun ls hl => ?_)
  exact F_X8_mostAlike_14_ok X hr hlk a0 a1 a2 a3 (0 : Int32) (0 : Int32) t2 _ h hK H locs ls O (lv_sub hl [2, 3, 4, 5, 1, 0] rfl)
def F_X9_init (a0 : Nat) (M : xM) : Option (xM) :=
(some (xnw M (20, 6))).bind fun t1 =>
(xpP t1 a0 9 0 M.1.length).bind fun t2 =>
some t2
set_option maxRecDepth 100000 in
set_option maxHeartbeats 4000000 in
theorem T_X9_init (l : Launch) (κ : xQ) (a0 : Nat) (M : xM) (mo : xM) (h : F_X9_init a0 M = some mo) : xC l yX9_init cX9_init 1 none 2 1 6 κ [.ref (κ.1 + a0)] M none mo := by
  refine xC_of rfl (Nat.le_of_ble_eq_true rfl) fun p e s m args below meth c X hr hlk hnm H locs ls O hl => ?_
  have X : xX p s m args c cX9_init 1 RX9 κ := X
  have hl : lv_has ls 1 [(0, .ref (κ.1 + a0))] := hl
  have hx := X.1
  have hb := X.2.1
  obtain ⟨x, hx0⟩ : ∃ x, mo = x := ⟨_, rfl⟩
  rw [hx0] at h
  have hK : x = mo := hx0.symm
  unfold F_X9_init at h
  refine lv_aload_n hx hb dX9_init_0 rfl (lv_at hl 0 rfl) ?_
  refine xr_objI X lo_X9_3.1 lo_X9_3.2.1 lo_X9_3.2.2 hl.1 (by decide) dX9_init_1 ?_
  refine W.eq (g2 := F0 m 4 ls []) rfl ?_
  refine lv_aload_n hx hb dX9_init_4 rfl (lv_at hl 0 rfl) ?_
  refine lv_bipush (v := (6 : Int32)) hx hb dX9_init_5 (by decide) ?_
  obtain ⟨t1, ht1, h⟩ := Option.bind_eq_some_iff.mp h
  refine xr_newI (N := 6) X O (xw_t1 133 (by decide +kernel) rfl) (by decide) (by decide) (by decide) (Nat.le_of_ble_eq_true rfl) (Nat.le_of_ble_eq_true rfl) dX9_init_7 (fun H locs O => ?_)
  rw [Option.some.inj ht1] at O
  refine W.eq (g2 := F0 m 9 ls [.ref (κ.1 + M.1.length), .ref (κ.1 + a0)]) rfl ?_
  obtain ⟨t2, ht2, h⟩ := Option.bind_eq_some_iff.mp h
  refine xr_putP X O ht2 fl_X9_9 (fun _ => ⟨hnm, rfl⟩) dX9_init_9 (fun H locs O => ?_)
  rw [← Option.some.inj h] at hK
  have hK : t2 = mo := hK
  rw [hK] at O
  exact xr_vret X hr hlk O dX9_init_12
def F_X9_isClear_38 (M : xM) : Option (Int32 × xM) :=
(xz (0 : Int32)).bind fun t10 =>
some (t10, M)
def F_X9_isClear_40 (v0 : Nat) (v1 : Nat) (v2 : Int32) (v3 : Int32) (M : xM) : Option ((Int32 × xM) ⊕ (Int32 × xM)) :=
some (.inl ((v3 + 1), M))
def F_X9_isClear_46 (M : xM) : Option (Int32 × xM) :=
(xz (1 : Int32)).bind fun t9 =>
some (t9, M)
def F_X9_isClear_2b (v0 : Nat) (v1 : Nat) (v2 : Int32) : (Int32 × xM) → Option ((Int32 × xM) ⊕ (Int32 × xM)) := fun ⟨v3, M⟩ =>
if v2 ≤ v3 then (
(F_X9_isClear_46 M).map Sum.inr)
else (
(xgP M v0 9 0).bind fun t1 =>
(xaI M 20 t1 v3).bind fun t2 =>
(xgP M v0 9 0).bind fun t3 =>
(xaI M 20 t3 v2).bind fun t4 =>
if t2 = t4 then (
(xgP M v1 3 15).bind fun t5 =>
(xaI M 20 t5 v3).bind fun t6 =>
(xgP M v1 3 15).bind fun t7 =>
(xaI M 20 t7 v2).bind fun t8 =>
if (t6 &&& t8) = 0 then (
F_X9_isClear_40 v0 v1 v2 v3 M)
else (
(F_X9_isClear_38 M).map Sum.inr))
else (
F_X9_isClear_40 v0 v1 v2 v3 M))
def F_X9_isClear_2 (v0 : Nat) (v1 : Nat) (v2 : Int32) (v3 : Int32) (M : xM) : Option (Int32 × xM) := xit (F_X9_isClear_2b v0 v1 v2) xFU (v3, M)
def F_X9_isClear (a0 : Nat) (a1 : Nat) (a2 : Int32) (M : xM) : Option (Int32 × xM) :=
F_X9_isClear_2 a0 a1 a2 (0 : Int32) M
set_option maxRecDepth 100000 in
set_option maxHeartbeats 4000000 in
theorem F_X9_isClear_38_ok (X : xX p s m args c cX9_isClear 4 RX9 κ) (hr : meth.sig.returnType = (some .boolean)) (hlk : meth.locks = false) {ro : Int32} {mo : xM} (M : xM) (x : Int32 × xM) (h : F_X9_isClear_38 M = some x) (hK : (fun o => o = (ro, mo)) x) (H : Heap) (locs : List Loc) (ls : Array Slot) (O : xO κ s M H locs) (hl : lv_has ls 4 []) : W p l e (xRm 2 0 0) s m args below meth c H locs 0 0 (xQf below args s 0 0 κ (some (.int ro)) mo) (F0 m 38 ls []) := by
  unfold F_X9_isClear_38 at h
  have hx := X.1
  have hb := X.2.1
  refine lv_iconst (v := (0 : Int32)) hx hb dX9_isClear_38 (by decide) ?_
  obtain ⟨t10, ht10, h⟩ := Option.bind_eq_some_iff.mp h
  rw [← Option.some.inj h] at hK
  have hK : (t10, M) = (ro, mo) := hK
  obtain ⟨hK1, hK2⟩ := Prod.mk.inj hK
  rw [hK1] at ht10
  rw [hK2] at O
  exact xr_zret X hr hlk O ht10 dX9_isClear_39
set_option maxRecDepth 100000 in
set_option maxHeartbeats 4000000 in
theorem F_X9_isClear_40_ok (X : xX p s m args c cX9_isClear 4 RX9 κ) (hr : meth.sig.returnType = (some .boolean)) (hlk : meth.locks = false) {ro : Int32} {mo : xM} (v0 : Nat) (v1 : Nat) (v2 : Int32) (v3 : Int32) {W2 : Int32 × xM → Prop} (hW2 : ∀ (v3 : Int32) (M : xM), W2 (v3, M) → ∀ (H : Heap) (locs : List Loc) (ls : Array Slot), xO κ s M H locs → lv_has ls 4 [(0, .ref (κ.1 + v0)), (1, .ref (κ.1 + v1)), (2, .int v2), (3, .int v3)] → W p l e (xRm 2 0 0) s m args below meth c H locs 0 0 (xQf below args s 0 0 κ (some (.int ro)) mo) (F0 m 2 ls [])) (M : xM) (x : (Int32 × xM) ⊕ (Int32 × xM)) (h : F_X9_isClear_40 v0 v1 v2 v3 M = some x) (hK : (xKl W2 (fun o => o = (ro, mo))) x) (H : Heap) (locs : List Loc) (ls : Array Slot) (O : xO κ s M H locs) (hl : lv_has ls 4 [(0, .ref (κ.1 + v0)), (1, .ref (κ.1 + v1)), (2, .int v2), (3, .int v3)]) : W p l e (xRm 2 0 0) s m args below meth c H locs 0 0 (xQf below args s 0 0 κ (some (.int ro)) mo) (F0 m 40 ls []) := by
  unfold F_X9_isClear_40 at h
  have hx := X.1
  have hb := X.2.1
  refine lv_iinc (v := (v3 + 1)) (lv' := [(3, .int (v3 + 1)), (0, .ref (κ.1 + v0)), (1, .ref (κ.1 + v1)), (2, .int v2)]) hx hb dX9_isClear_40 hl (k := 3) rfl rfl (by decide) rfl (fun ls hl => ?_)
  refine lv_goto (tgt := 2) hx hb dX9_isClear_43 (by decide) ?_
  rw [← Option.some.inj h] at hK
  exact hW2 (v3 + 1) M hK H locs ls O (lv_sub hl [1, 2, 3, 0] rfl)
set_option maxRecDepth 100000 in
set_option maxHeartbeats 4000000 in
theorem F_X9_isClear_46_ok (X : xX p s m args c cX9_isClear 4 RX9 κ) (hr : meth.sig.returnType = (some .boolean)) (hlk : meth.locks = false) {ro : Int32} {mo : xM} (M : xM) (x : Int32 × xM) (h : F_X9_isClear_46 M = some x) (hK : (fun o => o = (ro, mo)) x) (H : Heap) (locs : List Loc) (ls : Array Slot) (O : xO κ s M H locs) (hl : lv_has ls 4 []) : W p l e (xRm 2 0 0) s m args below meth c H locs 0 0 (xQf below args s 0 0 κ (some (.int ro)) mo) (F0 m 46 ls []) := by
  unfold F_X9_isClear_46 at h
  have hx := X.1
  have hb := X.2.1
  refine lv_iconst (v := (1 : Int32)) hx hb dX9_isClear_46 (by decide) ?_
  obtain ⟨t9, ht9, h⟩ := Option.bind_eq_some_iff.mp h
  rw [← Option.some.inj h] at hK
  have hK : (t9, M) = (ro, mo) := hK
  obtain ⟨hK1, hK2⟩ := Prod.mk.inj hK
  rw [hK1] at ht9
  rw [hK2] at O
  exact xr_zret X hr hlk O ht9 dX9_isClear_47
set_option maxRecDepth 100000 in
set_option maxHeartbeats 4000000 in
theorem F_X9_isClear_2_bok (X : xX p s m args c cX9_isClear 4 RX9 κ) (hr : meth.sig.returnType = (some .boolean)) (hlk : meth.locks = false) {ro : Int32} {mo : xM} (v0 : Nat) (v1 : Nat) (v2 : Int32) (v3 : Int32) {W2 : Int32 × xM → Prop} (hW2 : ∀ (v3 : Int32) (M : xM), W2 (v3, M) → ∀ (H : Heap) (locs : List Loc) (ls : Array Slot), xO κ s M H locs → lv_has ls 4 [(0, .ref (κ.1 + v0)), (1, .ref (κ.1 + v1)), (2, .int v2), (3, .int v3)] → W p l e (xRm 2 0 0) s m args below meth c H locs 0 0 (xQf below args s 0 0 κ (some (.int ro)) mo) (F0 m 2 ls [])) (M : xM) (x : (Int32 × xM) ⊕ (Int32 × xM)) (h : F_X9_isClear_2b v0 v1 v2 (v3, M) = some x) (hK : (xKl W2 (fun o => o = (ro, mo))) x) (H : Heap) (locs : List Loc) (ls : Array Slot) (O : xO κ s M H locs) (hl : lv_has ls 4 [(0, .ref (κ.1 + v0)), (1, .ref (κ.1 + v1)), (2, .int v2), (3, .int v3)]) : W p l e (xRm 2 0 0) s m args below meth c H locs 0 0 (xQf below args s 0 0 κ (some (.int ro)) mo) (F0 m 2 ls []) := by
  unfold F_X9_isClear_2b at h
  dsimp only at h
  have hx := X.1
  have hb := X.2.1
  refine lv_iload_n hx hb dX9_isClear_2 rfl (lv_at hl 3 rfl) ?_
  refine lv_iload_n hx hb dX9_isClear_3 rfl (lv_at hl 2 rfl) ?_
  refine lv_icmp_ge (tgt := 46) hx hb dX9_isClear_4 (by decide) (fun hc4 => ?_) (fun hc4 => ?_)
  · rw [if_pos hc4] at h
    obtain ⟨_, hw0, ew0⟩ := Option.map_eq_some_iff.mp h
    rw [← ew0] at hK
    have h := hw0
    exact F_X9_isClear_46_ok X hr hlk  M _ h hK H locs ls O (lv_sub hl [] rfl)
  rw [if_neg hc4] at h
  refine lv_aload_n hx hb dX9_isClear_7 rfl (lv_at hl 0 rfl) ?_
  obtain ⟨t1, ht1, h⟩ := Option.bind_eq_some_iff.mp h
  refine xr_getP X O ht1 fl_X9_9 dX9_isClear_8 ?_
  refine lv_iload_n hx hb dX9_isClear_11 rfl (lv_at hl 3 rfl) ?_
  obtain ⟨t2, ht2, h⟩ := Option.bind_eq_some_iff.mp h
  refine xr_aldI X O ht2 dX9_isClear_12 ?_
  refine lv_aload_n hx hb dX9_isClear_13 rfl (lv_at hl 0 rfl) ?_
  obtain ⟨t3, ht3, h⟩ := Option.bind_eq_some_iff.mp h
  refine xr_getP X O ht3 fl_X9_9 dX9_isClear_14 ?_
  refine lv_iload_n hx hb dX9_isClear_17 rfl (lv_at hl 2 rfl) ?_
  obtain ⟨t4, ht4, h⟩ := Option.bind_eq_some_iff.mp h
  refine xr_aldI X O ht4 dX9_isClear_18 ?_
  refine lv_icmp_ne (tgt := 40) hx hb dX9_isClear_19 (by decide) (fun hc19 => ?_) (fun hc19 => ?_)
  · rw [if_neg hc19] at h
    exact F_X9_isClear_40_ok X hr hlk v0 v1 v2 v3 hW2 M _ h hK H locs ls O (lv_sub hl [0, 1, 2, 3] rfl)
  rw [if_pos hc19] at h
  refine lv_aload_n hx hb dX9_isClear_22 rfl (lv_at hl 1 rfl) ?_
  obtain ⟨t5, ht5, h⟩ := Option.bind_eq_some_iff.mp h
  refine xr_getP X O ht5 fl_X9_29 dX9_isClear_23 ?_
  refine lv_iload_n hx hb dX9_isClear_26 rfl (lv_at hl 3 rfl) ?_
  obtain ⟨t6, ht6, h⟩ := Option.bind_eq_some_iff.mp h
  refine xr_aldI X O ht6 dX9_isClear_27 ?_
  refine lv_aload_n hx hb dX9_isClear_28 rfl (lv_at hl 1 rfl) ?_
  obtain ⟨t7, ht7, h⟩ := Option.bind_eq_some_iff.mp h
  refine xr_getP X O ht7 fl_X9_29 dX9_isClear_29 ?_
  refine lv_iload_n hx hb dX9_isClear_32 rfl (lv_at hl 2 rfl) ?_
  obtain ⟨t8, ht8, h⟩ := Option.bind_eq_some_iff.mp h
  refine xr_aldI X O ht8 dX9_isClear_33 ?_
  refine lv_iand hx hb dX9_isClear_34 ?_
  refine lv_if_eq (tgt := 40) hx hb dX9_isClear_35 (by decide) (fun hc35 => ?_) (fun hc35 => ?_)
  · rw [if_pos hc35] at h
    exact F_X9_isClear_40_ok X hr hlk v0 v1 v2 v3 hW2 M _ h hK H locs ls O (lv_sub hl [0, 1, 2, 3] rfl)
  rw [if_neg hc35] at h
  obtain ⟨_, hw0, ew0⟩ := Option.map_eq_some_iff.mp h
  rw [← ew0] at hK
  have h := hw0
  exact F_X9_isClear_38_ok X hr hlk  M _ h hK H locs ls O (lv_sub hl [] rfl)
set_option maxRecDepth 100000 in
set_option maxHeartbeats 4000000 in
theorem F_X9_isClear_2_ok (X : xX p s m args c cX9_isClear 4 RX9 κ) (hr : meth.sig.returnType = (some .boolean)) (hlk : meth.locks = false) {ro : Int32} {mo : xM} (v0 : Nat) (v1 : Nat) (v2 : Int32) (v3 : Int32) (M : xM) (x : Int32 × xM) (h : F_X9_isClear_2 v0 v1 v2 v3 M = some x) (hK : (fun o => o = (ro, mo)) x) (H : Heap) (locs : List Loc) (ls : Array Slot) (O : xO κ s M H locs) (hl : lv_has ls 4 [(0, .ref (κ.1 + v0)), (1, .ref (κ.1 + v1)), (2, .int v2), (3, .int v3)]) : W p l e (xRm 2 0 0) s m args below meth c H locs 0 0 (xQf below args s 0 0 κ (some (.int ro)) mo) (F0 m 2 ls []) := by
  refine xit_K (Wh := fun x => ∀ (H : Heap) (locs : List Loc) (ls : Array Slot), xO κ s x.2 H locs → lv_has ls 4 [(0, .ref (κ.1 + v0)), (1, .ref (κ.1 + v1)), (2, .int v2), (3, .int x.1)] → W p l e (xRm 2 0 0) s m args below meth c H locs 0 0 (xQf below args s 0 0 κ (some (.int ro)) mo) (F0 m 2 ls [])) (Kp := (fun o => o = (ro, mo))) ?_ xFU (v3, M) x h hK H locs ls O hl
  intro y x h hK H locs ls O hl
  exact F_X9_isClear_2_bok X hr hlk v0 v1 v2 y.1 (fun _ _ hw => hw) y.2 x h hK H locs ls O hl
set_option maxRecDepth 100000 in
set_option maxHeartbeats 4000000 in
theorem T_X9_isClear (l : Launch) (κ : xQ) (a0 : Nat) (a1 : Nat) (a2 : Int32) (M : xM) (ro : Int32) (mo : xM) (h : F_X9_isClear a0 a1 a2 M = some (ro, mo)) : xC l yX9_isClear cX9_isClear 4 (some .boolean) 2 0 0 κ [.ref (κ.1 + a0), .ref (κ.1 + a1), .int a2] M (some (.int ro)) mo := by
  refine xC_of rfl (Nat.le_of_ble_eq_true rfl) fun p e s m args below meth c X hr hlk hnm H locs ls O hl => ?_
  have X : xX p s m args c cX9_isClear 4 RX9 κ := X
  have hl : lv_has ls 4 [(0, .ref (κ.1 + a0)), (1, .ref (κ.1 + a1)), (2, .int a2)] := hl
  have hx := X.1
  have hb := X.2.1
  obtain ⟨x, hx0⟩ : ∃ x, (ro, mo) = x := ⟨_, rfl⟩
  rw [hx0] at h
  have hK : x = (ro, mo) := hx0.symm
  unfold F_X9_isClear at h
  refine lv_iconst (v := (0 : Int32)) hx hb dX9_isClear_0 (by decide) ?_
  refine lv_istore_n (lv' := [(3, .int (0 : Int32)), (0, .ref (κ.1 + a0)), (1, .ref (κ.1 + a1)), (2, .int a2)]) hx hb dX9_isClear_1 rfl hl (by decide) rfl (fun ls hl => ?_)
  exact F_X9_isClear_2_ok X hr hlk a0 a1 a2 (0 : Int32) M _ h hK H locs ls O (lv_sub hl [1, 2, 3, 0] rfl)
def F_X9_fits_54 (rc : Nat → Nat → Int32 → Int32 → xM → Option (Int32 × xM)) (M : xM) : Option (Int32 × xM) :=
(xz (1 : Int32)).bind fun t11 =>
some (t11, M)
def F_X9_fits_56 (rc : Nat → Nat → Int32 → Int32 → xM → Option (Int32 × xM)) (v0 : Nat) (v1 : Nat) (v2 : Int32) (v3 : Int32) (v4 : Int32) (M : xM) : Option ((Int32 × xM) ⊕ (Int32 × xM)) :=
some (.inl ((v4 + 1), M))
def F_X9_fits_62 (rc : Nat → Nat → Int32 → Int32 → xM → Option (Int32 × xM)) (M : xM) : Option (Int32 × xM) :=
(xz (0 : Int32)).bind fun t10 =>
some (t10, M)
def F_X9_fits_19b (rc : Nat → Nat → Int32 → Int32 → xM → Option (Int32 × xM)) (v0 : Nat) (v1 : Nat) (v2 : Int32) (v3 : Int32) : (Int32 × xM) → Option ((Int32 × xM) ⊕ (Int32 × xM)) := fun ⟨v4, M⟩ =>
if v3 ≤ v4 then (
(F_X9_fits_62 rc M).map Sum.inr)
else (
(xgP M v0 9 0).bind fun t4 =>
(xsI M t4 v2 v4).bind fun t5 =>
(xck t5 v0 9).bind fun _ =>
(F_X9_isClear v0 v1 v2 t5).bind fun t7 =>
if t7.1 = 0 then (
F_X9_fits_56 rc v0 v1 v2 v3 v4 t7.2)
else (
(xck t7.2 v0 9).bind fun _ =>
(rc v0 v1 (v2 + (1 : Int32)) v3 t7.2).bind fun t9 =>
if t9.1 = 0 then (
F_X9_fits_56 rc v0 v1 v2 v3 v4 t9.2)
else (
(F_X9_fits_54 rc t9.2).map Sum.inr)))
def F_X9_fits_19 (rc : Nat → Nat → Int32 → Int32 → xM → Option (Int32 × xM)) (v0 : Nat) (v1 : Nat) (v2 : Int32) (v3 : Int32) (v4 : Int32) (M : xM) : Option (Int32 × xM) := xit (F_X9_fits_19b rc v0 v1 v2 v3) xFU (v4, M)
def F_X9_fits (rc : Nat → Nat → Int32 → Int32 → xM → Option (Int32 × xM)) (a0 : Nat) (a1 : Nat) (a2 : Int32) (a3 : Int32) (M : xM) : Option (Int32 × xM) :=
(xgI M a1 3 6).bind fun t1 =>
if t1 ≤ a2 then (
(xz (1 : Int32)).bind fun t2 =>
some (t2, M))
else (
if a2 < (6 : Int32) then (
F_X9_fits_19 rc a0 a1 a2 a3 (0 : Int32) M)
else (
(xz (1 : Int32)).bind fun t3 =>
some (t3, M)))
def R_X9_fits : Nat → Nat → Nat → Int32 → Int32 → xM → Option (Int32 × xM)
  | 0 => fun _ _ _ _ _ => none
  | n + 1 => F_X9_fits (R_X9_fits n)
def F_X9_fits_top : Nat → Nat → Int32 → Int32 → xM → Option (Int32 × xM) := R_X9_fits 8
def Fx_X9_fits (a0 : Nat) (a1 : Nat) (a2 : Int32) (a3 : Int32) (M : xM) : Option (Int32 × xM) := R_X9_fits 8 a0 a1 a2 a3 M
set_option maxRecDepth 100000 in
set_option maxHeartbeats 4000000 in
theorem F_X9_fits_54_ok {dd : Nat} (hdd : 2 ≤ dd) {rc : Nat → Nat → Int32 → Int32 → xM → Option (Int32 × xM)} (hrc0 : ∀ (κ : xQ) (a0 : Nat) (a1 : Nat) (a2 : Int32) (a3 : Int32) (M : xM) (ro : Int32) (mo : xM), rc a0 a1 a2 a3 M = some (ro, mo) → xC l yX9_fits cX9_fits 5 (some .boolean) dd 0 0 κ [.ref (κ.1 + a0), .ref (κ.1 + a1), .int a2, .int a3] M (some (.int ro)) mo) (X : xX p s m args c cX9_fits 5 RX9 κ) (hr : meth.sig.returnType = (some .boolean)) (hlk : meth.locks = false) {ro : Int32} {mo : xM} (M : xM) (x : Int32 × xM) (h : F_X9_fits_54 rc M = some x) (hK : (fun o => o = (ro, mo)) x) (H : Heap) (locs : List Loc) (ls : Array Slot) (O : xO κ s M H locs) (hl : lv_has ls 5 []) : W p l e (xRm (dd + 1) 0 0) s m args below meth c H locs 0 0 (xQf below args s 0 0 κ (some (.int ro)) mo) (F0 m 54 ls []) := by
  unfold F_X9_fits_54 at h
  have hx := X.1
  have hb := X.2.1
  refine lv_iconst (v := (1 : Int32)) hx hb dX9_fits_54 (by decide) ?_
  obtain ⟨t11, ht11, h⟩ := Option.bind_eq_some_iff.mp h
  rw [← Option.some.inj h] at hK
  have hK : (t11, M) = (ro, mo) := hK
  obtain ⟨hK1, hK2⟩ := Prod.mk.inj hK
  rw [hK1] at ht11
  rw [hK2] at O
  exact xr_zret X hr hlk O ht11 dX9_fits_55
set_option maxRecDepth 100000 in
set_option maxHeartbeats 4000000 in
theorem F_X9_fits_56_ok {dd : Nat} (hdd : 2 ≤ dd) {rc : Nat → Nat → Int32 → Int32 → xM → Option (Int32 × xM)} (hrc0 : ∀ (κ : xQ) (a0 : Nat) (a1 : Nat) (a2 : Int32) (a3 : Int32) (M : xM) (ro : Int32) (mo : xM), rc a0 a1 a2 a3 M = some (ro, mo) → xC l yX9_fits cX9_fits 5 (some .boolean) dd 0 0 κ [.ref (κ.1 + a0), .ref (κ.1 + a1), .int a2, .int a3] M (some (.int ro)) mo) (X : xX p s m args c cX9_fits 5 RX9 κ) (hr : meth.sig.returnType = (some .boolean)) (hlk : meth.locks = false) {ro : Int32} {mo : xM} (v0 : Nat) (v1 : Nat) (v2 : Int32) (v3 : Int32) (v4 : Int32) {W19 : Int32 × xM → Prop} (hW19 : ∀ (v4 : Int32) (M : xM), W19 (v4, M) → ∀ (H : Heap) (locs : List Loc) (ls : Array Slot), xO κ s M H locs → lv_has ls 5 [(0, .ref (κ.1 + v0)), (1, .ref (κ.1 + v1)), (2, .int v2), (3, .int v3), (4, .int v4)] → W p l e (xRm (dd + 1) 0 0) s m args below meth c H locs 0 0 (xQf below args s 0 0 κ (some (.int ro)) mo) (F0 m 19 ls [])) (M : xM) (x : (Int32 × xM) ⊕ (Int32 × xM)) (h : F_X9_fits_56 rc v0 v1 v2 v3 v4 M = some x) (hK : (xKl W19 (fun o => o = (ro, mo))) x) (H : Heap) (locs : List Loc) (ls : Array Slot) (O : xO κ s M H locs) (hl : lv_has ls 5 [(0, .ref (κ.1 + v0)), (1, .ref (κ.1 + v1)), (2, .int v2), (3, .int v3), (4, .int v4)]) : W p l e (xRm (dd + 1) 0 0) s m args below meth c H locs 0 0 (xQf below args s 0 0 κ (some (.int ro)) mo) (F0 m 56 ls []) := by
  unfold F_X9_fits_56 at h
  have hx := X.1
  have hb := X.2.1
  refine lv_iinc (v := (v4 + 1)) (lv' := [(4, .int (v4 + 1)), (0, .ref (κ.1 + v0)), (1, .ref (κ.1 + v1)), (2, .int v2), (3, .int v3)]) hx hb dX9_fits_56 hl (k := 4) rfl rfl (by decide) rfl (fun ls hl => ?_)
  refine lv_goto (tgt := 19) hx hb dX9_fits_59 (by decide) ?_
  rw [← Option.some.inj h] at hK
  exact hW19 (v4 + 1) M hK H locs ls O (lv_sub hl [1, 2, 3, 4, 0] rfl)
set_option maxRecDepth 100000 in
set_option maxHeartbeats 4000000 in
theorem F_X9_fits_62_ok {dd : Nat} (hdd : 2 ≤ dd) {rc : Nat → Nat → Int32 → Int32 → xM → Option (Int32 × xM)} (hrc0 : ∀ (κ : xQ) (a0 : Nat) (a1 : Nat) (a2 : Int32) (a3 : Int32) (M : xM) (ro : Int32) (mo : xM), rc a0 a1 a2 a3 M = some (ro, mo) → xC l yX9_fits cX9_fits 5 (some .boolean) dd 0 0 κ [.ref (κ.1 + a0), .ref (κ.1 + a1), .int a2, .int a3] M (some (.int ro)) mo) (X : xX p s m args c cX9_fits 5 RX9 κ) (hr : meth.sig.returnType = (some .boolean)) (hlk : meth.locks = false) {ro : Int32} {mo : xM} (M : xM) (x : Int32 × xM) (h : F_X9_fits_62 rc M = some x) (hK : (fun o => o = (ro, mo)) x) (H : Heap) (locs : List Loc) (ls : Array Slot) (O : xO κ s M H locs) (hl : lv_has ls 5 []) : W p l e (xRm (dd + 1) 0 0) s m args below meth c H locs 0 0 (xQf below args s 0 0 κ (some (.int ro)) mo) (F0 m 62 ls []) := by
  unfold F_X9_fits_62 at h
  have hx := X.1
  have hb := X.2.1
  refine lv_iconst (v := (0 : Int32)) hx hb dX9_fits_62 (by decide) ?_
  obtain ⟨t10, ht10, h⟩ := Option.bind_eq_some_iff.mp h
  rw [← Option.some.inj h] at hK
  have hK : (t10, M) = (ro, mo) := hK
  obtain ⟨hK1, hK2⟩ := Prod.mk.inj hK
  rw [hK1] at ht10
  rw [hK2] at O
  exact xr_zret X hr hlk O ht10 dX9_fits_63
set_option maxRecDepth 100000 in
set_option maxHeartbeats 4000000 in
theorem F_X9_fits_19_bok {dd : Nat} (hdd : 2 ≤ dd) {rc : Nat → Nat → Int32 → Int32 → xM → Option (Int32 × xM)} (hrc0 : ∀ (κ : xQ) (a0 : Nat) (a1 : Nat) (a2 : Int32) (a3 : Int32) (M : xM) (ro : Int32) (mo : xM), rc a0 a1 a2 a3 M = some (ro, mo) → xC l yX9_fits cX9_fits 5 (some .boolean) dd 0 0 κ [.ref (κ.1 + a0), .ref (κ.1 + a1), .int a2, .int a3] M (some (.int ro)) mo) (X : xX p s m args c cX9_fits 5 RX9 κ) (hr : meth.sig.returnType = (some .boolean)) (hlk : meth.locks = false) {ro : Int32} {mo : xM} (v0 : Nat) (v1 : Nat) (v2 : Int32) (v3 : Int32) (v4 : Int32) {W19 : Int32 × xM → Prop} (hW19 : ∀ (v4 : Int32) (M : xM), W19 (v4, M) → ∀ (H : Heap) (locs : List Loc) (ls : Array Slot), xO κ s M H locs → lv_has ls 5 [(0, .ref (κ.1 + v0)), (1, .ref (κ.1 + v1)), (2, .int v2), (3, .int v3), (4, .int v4)] → W p l e (xRm (dd + 1) 0 0) s m args below meth c H locs 0 0 (xQf below args s 0 0 κ (some (.int ro)) mo) (F0 m 19 ls [])) (M : xM) (x : (Int32 × xM) ⊕ (Int32 × xM)) (h : F_X9_fits_19b rc v0 v1 v2 v3 (v4, M) = some x) (hK : (xKl W19 (fun o => o = (ro, mo))) x) (H : Heap) (locs : List Loc) (ls : Array Slot) (O : xO κ s M H locs) (hl : lv_has ls 5 [(0, .ref (κ.1 + v0)), (1, .ref (κ.1 + v1)), (2, .int v2), (3, .int v3), (4, .int v4)]) : W p l e (xRm (dd + 1) 0 0) s m args below meth c H locs 0 0 (xQf below args s 0 0 κ (some (.int ro)) mo) (F0 m 19 ls []) := by
  unfold F_X9_fits_19b at h
  dsimp only at h
  have hx := X.1
  have hb := X.2.1
  refine lv_iload hx hb dX9_fits_19 (lv_at hl 4 rfl) ?_
  refine lv_iload_n hx hb dX9_fits_21 rfl (lv_at hl 3 rfl) ?_
  refine lv_icmp_ge (tgt := 62) hx hb dX9_fits_22 (by decide) (fun hc22 => ?_) (fun hc22 => ?_)
  · rw [if_pos hc22] at h
    obtain ⟨_, hw0, ew0⟩ := Option.map_eq_some_iff.mp h
    rw [← ew0] at hK
    have h := hw0
    exact F_X9_fits_62_ok hdd hrc0 X hr hlk  M _ h hK H locs ls O (lv_sub hl [] rfl)
  rw [if_neg hc22] at h
  refine lv_aload_n hx hb dX9_fits_25 rfl (lv_at hl 0 rfl) ?_
  obtain ⟨t4, ht4, h⟩ := Option.bind_eq_some_iff.mp h
  refine xr_getP X O ht4 fl_X9_9 dX9_fits_26 ?_
  refine lv_iload_n hx hb dX9_fits_29 rfl (lv_at hl 2 rfl) ?_
  refine lv_iload hx hb dX9_fits_30 (lv_at hl 4 rfl) ?_
  obtain ⟨t5, ht5, h⟩ := Option.bind_eq_some_iff.mp h
  refine xr_stI X O ht5 dX9_fits_32 (fun H locs O => ?_)
  refine lv_aload_n hx hb dX9_fits_33 rfl (lv_at hl 0 rfl) ?_
  refine lv_aload_n hx hb dX9_fits_34 rfl (lv_at hl 1 rfl) ?_
  refine lv_iload_n hx hb dX9_fits_35 rfl (lv_at hl 2 rfl) ?_
  obtain ⟨_, hut6, h⟩ := Option.bind_eq_some_iff.mp h
  obtain ⟨t7, ht7, h⟩ := Option.bind_eq_some_iff.mp h
  refine xr_callV (rest := []) X O (T_X9_isClear l κ v0 v1 v2 t5 _ _ ht7) lk_X9_25 hut6 (by omega) rfl hl.1 rfl (Nat.le_of_ble_eq_true rfl) dX9_fits_36 ⟨Nat.le_of_ble_eq_true rfl, Nat.le_of_ble_eq_true rfl⟩ (fun H locs O => ?_)
  refine W.eq (g2 := F0 m 39 ls [.int t7.1]) rfl ?_
  refine lv_if_eq (tgt := 56) hx hb dX9_fits_39 (by decide) (fun hc39 => ?_) (fun hc39 => ?_)
  · rw [if_pos hc39] at h
    exact F_X9_fits_56_ok hdd hrc0 X hr hlk v0 v1 v2 v3 v4 hW19 t7.2 _ h hK H locs ls O (lv_sub hl [0, 1, 2, 3, 4] rfl)
  rw [if_neg hc39] at h
  refine lv_aload_n hx hb dX9_fits_42 rfl (lv_at hl 0 rfl) ?_
  refine lv_aload_n hx hb dX9_fits_43 rfl (lv_at hl 1 rfl) ?_
  refine lv_iload_n hx hb dX9_fits_44 rfl (lv_at hl 2 rfl) ?_
  refine lv_iconst (v := (1 : Int32)) hx hb dX9_fits_45 (by decide) ?_
  refine lv_iadd hx hb dX9_fits_46 ?_
  refine lv_iload_n hx hb dX9_fits_47 rfl (lv_at hl 3 rfl) ?_
  obtain ⟨_, hut8, h⟩ := Option.bind_eq_some_iff.mp h
  obtain ⟨t9, ht9, h⟩ := Option.bind_eq_some_iff.mp h
  refine xr_callV (rest := []) X O (hrc0 κ v0 v1 (v2 + (1 : Int32)) v3 t7.2 _ _ ht9) lk_X9_21 hut8 (Nat.le_refl _) rfl hl.1 rfl (Nat.le_of_ble_eq_true rfl) dX9_fits_48 ⟨Nat.le_of_ble_eq_true rfl, Nat.le_of_ble_eq_true rfl⟩ (fun H locs O => ?_)
  refine W.eq (g2 := F0 m 51 ls [.int t9.1]) rfl ?_
  refine lv_if_eq (tgt := 56) hx hb dX9_fits_51 (by decide) (fun hc51 => ?_) (fun hc51 => ?_)
  · rw [if_pos hc51] at h
    exact F_X9_fits_56_ok hdd hrc0 X hr hlk v0 v1 v2 v3 v4 hW19 t9.2 _ h hK H locs ls O (lv_sub hl [0, 1, 2, 3, 4] rfl)
  rw [if_neg hc51] at h
  obtain ⟨_, hw0, ew0⟩ := Option.map_eq_some_iff.mp h
  rw [← ew0] at hK
  have h := hw0
  exact F_X9_fits_54_ok hdd hrc0 X hr hlk  t9.2 _ h hK H locs ls O (lv_sub hl [] rfl)
set_option maxRecDepth 100000 in
set_option maxHeartbeats 4000000 in
theorem F_X9_fits_19_ok {dd : Nat} (hdd : 2 ≤ dd) {rc : Nat → Nat → Int32 → Int32 → xM → Option (Int32 × xM)} (hrc0 : ∀ (κ : xQ) (a0 : Nat) (a1 : Nat) (a2 : Int32) (a3 : Int32) (M : xM) (ro : Int32) (mo : xM), rc a0 a1 a2 a3 M = some (ro, mo) → xC l yX9_fits cX9_fits 5 (some .boolean) dd 0 0 κ [.ref (κ.1 + a0), .ref (κ.1 + a1), .int a2, .int a3] M (some (.int ro)) mo) (X : xX p s m args c cX9_fits 5 RX9 κ) (hr : meth.sig.returnType = (some .boolean)) (hlk : meth.locks = false) {ro : Int32} {mo : xM} (v0 : Nat) (v1 : Nat) (v2 : Int32) (v3 : Int32) (v4 : Int32) (M : xM) (x : Int32 × xM) (h : F_X9_fits_19 rc v0 v1 v2 v3 v4 M = some x) (hK : (fun o => o = (ro, mo)) x) (H : Heap) (locs : List Loc) (ls : Array Slot) (O : xO κ s M H locs) (hl : lv_has ls 5 [(0, .ref (κ.1 + v0)), (1, .ref (κ.1 + v1)), (2, .int v2), (3, .int v3), (4, .int v4)]) : W p l e (xRm (dd + 1) 0 0) s m args below meth c H locs 0 0 (xQf below args s 0 0 κ (some (.int ro)) mo) (F0 m 19 ls []) := by
  refine xit_K (Wh := fun x => ∀ (H : Heap) (locs : List Loc) (ls : Array Slot), xO κ s x.2 H locs → lv_has ls 5 [(0, .ref (κ.1 + v0)), (1, .ref (κ.1 + v1)), (2, .int v2), (3, .int v3), (4, .int x.1)] → W p l e (xRm (dd + 1) 0 0) s m args below meth c H locs 0 0 (xQf below args s 0 0 κ (some (.int ro)) mo) (F0 m 19 ls [])) (Kp := (fun o => o = (ro, mo))) ?_ xFU (v4, M) x h hK H locs ls O hl
  intro y x h hK H locs ls O hl
  exact F_X9_fits_19_bok hdd hrc0 X hr hlk v0 v1 v2 v3 y.1 (fun _ _ hw => hw) y.2 x h hK H locs ls O hl
set_option maxRecDepth 100000 in
set_option maxHeartbeats 4000000 in
theorem To_X9_fits (l : Launch) {dd : Nat} (hdd : 2 ≤ dd) {rc : Nat → Nat → Int32 → Int32 → xM → Option (Int32 × xM)} (hrc0 : ∀ (κ : xQ) (a0 : Nat) (a1 : Nat) (a2 : Int32) (a3 : Int32) (M : xM) (ro : Int32) (mo : xM), rc a0 a1 a2 a3 M = some (ro, mo) → xC l yX9_fits cX9_fits 5 (some .boolean) dd 0 0 κ [.ref (κ.1 + a0), .ref (κ.1 + a1), .int a2, .int a3] M (some (.int ro)) mo) (κ : xQ) (a0 : Nat) (a1 : Nat) (a2 : Int32) (a3 : Int32) (M : xM) (ro : Int32) (mo : xM) (h : F_X9_fits rc a0 a1 a2 a3 M = some (ro, mo)) : xC l yX9_fits cX9_fits 5 (some .boolean) (dd + 1) 0 0 κ [.ref (κ.1 + a0), .ref (κ.1 + a1), .int a2, .int a3] M (some (.int ro)) mo := by
  refine xC_of rfl (Nat.le_of_ble_eq_true rfl) fun p e s m args below meth c X hr hlk hnm H locs ls O hl => ?_
  have X : xX p s m args c cX9_fits 5 RX9 κ := X
  have hl : lv_has ls 5 [(0, .ref (κ.1 + a0)), (1, .ref (κ.1 + a1)), (2, .int a2), (3, .int a3)] := hl
  have hx := X.1
  have hb := X.2.1
  obtain ⟨x, hx0⟩ : ∃ x, (ro, mo) = x := ⟨_, rfl⟩
  rw [hx0] at h
  have hK : x = (ro, mo) := hx0.symm
  unfold F_X9_fits at h
  refine lv_iload_n hx hb dX9_fits_0 rfl (lv_at hl 2 rfl) ?_
  refine lv_aload_n hx hb dX9_fits_1 rfl (lv_at hl 1 rfl) ?_
  obtain ⟨t1, ht1, h⟩ := Option.bind_eq_some_iff.mp h
  refine xr_getI X O ht1 fl_X9_15 (Or.inl rfl) dX9_fits_2 ?_
  refine lv_icmp_ge (tgt := 14) hx hb dX9_fits_5 (by decide) (fun hc5 => ?_) (fun hc5 => ?_)
  · rw [if_pos hc5] at h
    refine lv_iconst (v := (1 : Int32)) hx hb dX9_fits_14 (by decide) ?_
    obtain ⟨t2, ht2, h⟩ := Option.bind_eq_some_iff.mp h
    rw [← Option.some.inj h] at hK
    have hK : (t2, M) = (ro, mo) := hK
    obtain ⟨hK1, hK2⟩ := Prod.mk.inj hK
    rw [hK1] at ht2
    rw [hK2] at O
    exact xr_zret X hr hlk O ht2 dX9_fits_15
  rw [if_neg hc5] at h
  refine lv_iload_n hx hb dX9_fits_8 rfl (lv_at hl 2 rfl) ?_
  refine lv_bipush (v := (6 : Int32)) hx hb dX9_fits_9 (by decide) ?_
  refine lv_icmp_lt (tgt := 16) hx hb dX9_fits_11 (by decide) (fun hc11 => ?_) (fun hc11 => ?_)
  · rw [if_pos hc11] at h
    refine lv_iconst (v := (0 : Int32)) hx hb dX9_fits_16 (by decide) ?_
    refine lv_istore (lv' := [(4, .int (0 : Int32)), (0, .ref (κ.1 + a0)), (1, .ref (κ.1 + a1)), (2, .int a2), (3, .int a3)]) hx hb dX9_fits_17 hl (by decide) rfl (fun ls hl => ?_)
    exact F_X9_fits_19_ok hdd hrc0 X hr hlk a0 a1 a2 a3 (0 : Int32) M _ h hK H locs ls O (lv_sub hl [1, 2, 3, 4, 0] rfl)
  rw [if_neg hc11] at h
  refine lv_iconst (v := (1 : Int32)) hx hb dX9_fits_14 (by decide) ?_
  obtain ⟨t3, ht3, h⟩ := Option.bind_eq_some_iff.mp h
  rw [← Option.some.inj h] at hK
  have hK : (t3, M) = (ro, mo) := hK
  obtain ⟨hK1, hK2⟩ := Prod.mk.inj hK
  rw [hK1] at ht3
  rw [hK2] at O
  exact xr_zret X hr hlk O ht3 dX9_fits_15
set_option maxRecDepth 100000 in
set_option maxHeartbeats 4000000 in
theorem K_X9_fits (l : Launch) : ∀ n : Nat, (∀ (κ : xQ) (a0 : Nat) (a1 : Nat) (a2 : Int32) (a3 : Int32) (M : xM) (ro : Int32) (mo : xM), R_X9_fits n a0 a1 a2 a3 M = some (ro, mo) → xC l yX9_fits cX9_fits 5 (some .boolean) (2 + n) 0 0 κ [.ref (κ.1 + a0), .ref (κ.1 + a1), .int a2, .int a3] M (some (.int ro)) mo) := by
  intro n
  induction n with
  | zero => exact fun κ a0 a1 a2 a3 M ro mo h => (by cases h)
  | succ n h0 => exact fun κ a0 a1 a2 a3 M ro mo h => To_X9_fits l (dd := 2 + n) (Nat.le_add_right _ _) h0 κ a0 a1 a2 a3 M ro mo h
set_option maxRecDepth 100000 in
set_option maxHeartbeats 4000000 in
theorem Tx_X9_fits (l : Launch) (κ : xQ) (a0 : Nat) (a1 : Nat) (a2 : Int32) (a3 : Int32) (M : xM) (ro : Int32) (mo : xM) (h : Fx_X9_fits a0 a1 a2 a3 M = some (ro, mo)) : xC l yX9_fits cX9_fits 5 (some .boolean) 10 0 0 κ [.ref (κ.1 + a0), .ref (κ.1 + a1), .int a2, .int a3] M (some (.int ro)) mo := (K_X9_fits l 8) κ a0 a1 a2 a3 M ro mo h
def F_X9_paint_20 (v2 : Int32) (M : xM) : Option (Int32 × xM) :=
some (v2, M)
def F_X9_paint_28 (v0 : Nat) (v1 : Nat) (M : xM) : Option (Int32 × xM) :=
(xgI M v1 3 6).bind fun t4 =>
(xck M v0 9).bind fun _ =>
(Fx_X9_fits v0 v1 (0 : Int32) t4 M).bind fun t6 =>
(xgI t6.2 v1 3 6).bind fun t7 =>
some (t7, t6.2)
def F_X9_paint_2b (v0 : Nat) (v1 : Nat) : (Int32 × xM) → Option ((Int32 × xM) ⊕ (Int32 × xM)) := fun ⟨v2, M⟩ =>
(xgI M v1 3 6).bind fun t1 =>
if t1 ≤ v2 then (
(F_X9_paint_28 v0 v1 M).map Sum.inr)
else (
(xck M v0 9).bind fun _ =>
(Fx_X9_fits v0 v1 (0 : Int32) v2 M).bind fun t3 =>
if t3.1 = 0 then (
some (.inl ((v2 + 1), t3.2)))
else (
(F_X9_paint_20 v2 t3.2).map Sum.inr))
def F_X9_paint_2 (v0 : Nat) (v1 : Nat) (v2 : Int32) (M : xM) : Option (Int32 × xM) := xit (F_X9_paint_2b v0 v1) xFU (v2, M)
def F_X9_paint (a0 : Nat) (a1 : Nat) (M : xM) : Option (Int32 × xM) :=
F_X9_paint_2 a0 a1 (0 : Int32) M
set_option maxRecDepth 100000 in
set_option maxHeartbeats 4000000 in
theorem F_X9_paint_20_ok (X : xX p s m args c cX9_paint 3 RX9 κ) (hr : meth.sig.returnType = (some .int)) (hlk : meth.locks = false) {ro : Int32} {mo : xM} (v2 : Int32) (M : xM) (x : Int32 × xM) (h : F_X9_paint_20 v2 M = some x) (hK : (fun o => o = (ro, mo)) x) (H : Heap) (locs : List Loc) (ls : Array Slot) (O : xO κ s M H locs) (hl : lv_has ls 3 [(2, .int v2)]) : W p l e (xRm 11 0 0) s m args below meth c H locs 0 0 (xQf below args s 0 0 κ (some (.int ro)) mo) (F0 m 20 ls []) := by
  unfold F_X9_paint_20 at h
  have hx := X.1
  have hb := X.2.1
  refine lv_iload_n hx hb dX9_paint_20 rfl (lv_at hl 0 rfl) ?_
  rw [← Option.some.inj h] at hK
  have hK : (v2, M) = (ro, mo) := hK
  obtain ⟨hK1, hK2⟩ := Prod.mk.inj hK
  rw [hK2] at O
  refine xr_top (w := .int ro) (by rw [hK1]) ?_
  exact xr_iret X hr hlk O dX9_paint_21
set_option maxRecDepth 100000 in
set_option maxHeartbeats 4000000 in
theorem F_X9_paint_28_ok (X : xX p s m args c cX9_paint 3 RX9 κ) (hr : meth.sig.returnType = (some .int)) (hlk : meth.locks = false) {ro : Int32} {mo : xM} (v0 : Nat) (v1 : Nat) (M : xM) (x : Int32 × xM) (h : F_X9_paint_28 v0 v1 M = some x) (hK : (fun o => o = (ro, mo)) x) (H : Heap) (locs : List Loc) (ls : Array Slot) (O : xO κ s M H locs) (hl : lv_has ls 3 [(0, .ref (κ.1 + v0)), (1, .ref (κ.1 + v1))]) : W p l e (xRm 11 0 0) s m args below meth c H locs 0 0 (xQf below args s 0 0 κ (some (.int ro)) mo) (F0 m 28 ls []) := by
  unfold F_X9_paint_28 at h
  have hx := X.1
  have hb := X.2.1
  refine lv_aload_n hx hb dX9_paint_28 rfl (lv_at hl 0 rfl) ?_
  refine lv_aload_n hx hb dX9_paint_29 rfl (lv_at hl 1 rfl) ?_
  refine lv_iconst (v := (0 : Int32)) hx hb dX9_paint_30 (by decide) ?_
  refine lv_aload_n hx hb dX9_paint_31 rfl (lv_at hl 1 rfl) ?_
  obtain ⟨t4, ht4, h⟩ := Option.bind_eq_some_iff.mp h
  refine xr_getI X O ht4 fl_X9_15 (Or.inl rfl) dX9_paint_32 ?_
  obtain ⟨_, hut5, h⟩ := Option.bind_eq_some_iff.mp h
  obtain ⟨t6, ht6, h⟩ := Option.bind_eq_some_iff.mp h
  refine xr_callV (rest := []) X O (Tx_X9_fits l κ v0 v1 (0 : Int32) t4 M _ _ ht6) lk_X9_21 hut5 (Nat.le_of_ble_eq_true rfl) rfl hl.1 rfl (Nat.le_of_ble_eq_true rfl) dX9_paint_35 ⟨Nat.le_of_ble_eq_true rfl, Nat.le_of_ble_eq_true rfl⟩ (fun H locs O => ?_)
  refine W.eq (g2 := F0 m 38 ls [.int t6.1]) rfl ?_
  refine lv_pop hx hb dX9_paint_38 rfl ?_
  refine lv_aload_n hx hb dX9_paint_39 rfl (lv_at hl 1 rfl) ?_
  obtain ⟨t7, ht7, h⟩ := Option.bind_eq_some_iff.mp h
  refine xr_getI X O ht7 fl_X9_15 (Or.inl rfl) dX9_paint_40 ?_
  rw [← Option.some.inj h] at hK
  have hK : (t7, t6.2) = (ro, mo) := hK
  obtain ⟨hK1, hK2⟩ := Prod.mk.inj hK
  rw [hK2] at O
  refine xr_top (w := .int ro) (by rw [hK1]) ?_
  exact xr_iret X hr hlk O dX9_paint_43
set_option maxRecDepth 100000 in
set_option maxHeartbeats 4000000 in
theorem F_X9_paint_2_bok (X : xX p s m args c cX9_paint 3 RX9 κ) (hr : meth.sig.returnType = (some .int)) (hlk : meth.locks = false) {ro : Int32} {mo : xM} (v0 : Nat) (v1 : Nat) (v2 : Int32) {W2 : Int32 × xM → Prop} (hW2 : ∀ (v2 : Int32) (M : xM), W2 (v2, M) → ∀ (H : Heap) (locs : List Loc) (ls : Array Slot), xO κ s M H locs → lv_has ls 3 [(0, .ref (κ.1 + v0)), (1, .ref (κ.1 + v1)), (2, .int v2)] → W p l e (xRm 11 0 0) s m args below meth c H locs 0 0 (xQf below args s 0 0 κ (some (.int ro)) mo) (F0 m 2 ls [])) (M : xM) (x : (Int32 × xM) ⊕ (Int32 × xM)) (h : F_X9_paint_2b v0 v1 (v2, M) = some x) (hK : (xKl W2 (fun o => o = (ro, mo))) x) (H : Heap) (locs : List Loc) (ls : Array Slot) (O : xO κ s M H locs) (hl : lv_has ls 3 [(0, .ref (κ.1 + v0)), (1, .ref (κ.1 + v1)), (2, .int v2)]) : W p l e (xRm 11 0 0) s m args below meth c H locs 0 0 (xQf below args s 0 0 κ (some (.int ro)) mo) (F0 m 2 ls []) := by
  unfold F_X9_paint_2b at h
  dsimp only at h
  have hx := X.1
  have hb := X.2.1
  refine lv_iload_n hx hb dX9_paint_2 rfl (lv_at hl 2 rfl) ?_
  refine lv_aload_n hx hb dX9_paint_3 rfl (lv_at hl 1 rfl) ?_
  obtain ⟨t1, ht1, h⟩ := Option.bind_eq_some_iff.mp h
  refine xr_getI X O ht1 fl_X9_15 (Or.inl rfl) dX9_paint_4 ?_
  refine lv_icmp_ge (tgt := 28) hx hb dX9_paint_7 (by decide) (fun hc7 => ?_) (fun hc7 => ?_)
  · rw [if_pos hc7] at h
    obtain ⟨_, hw0, ew0⟩ := Option.map_eq_some_iff.mp h
    rw [← ew0] at hK
    have h := hw0
    exact F_X9_paint_28_ok X hr hlk v0 v1 M _ h hK H locs ls O (lv_sub hl [0, 1] rfl)
  rw [if_neg hc7] at h
  refine lv_aload_n hx hb dX9_paint_10 rfl (lv_at hl 0 rfl) ?_
  refine lv_aload_n hx hb dX9_paint_11 rfl (lv_at hl 1 rfl) ?_
  refine lv_iconst (v := (0 : Int32)) hx hb dX9_paint_12 (by decide) ?_
  refine lv_iload_n hx hb dX9_paint_13 rfl (lv_at hl 2 rfl) ?_
  obtain ⟨_, hut2, h⟩ := Option.bind_eq_some_iff.mp h
  obtain ⟨t3, ht3, h⟩ := Option.bind_eq_some_iff.mp h
  refine xr_callV (rest := []) X O (Tx_X9_fits l κ v0 v1 (0 : Int32) v2 M _ _ ht3) lk_X9_21 hut2 (Nat.le_of_ble_eq_true rfl) rfl hl.1 rfl (Nat.le_of_ble_eq_true rfl) dX9_paint_14 ⟨Nat.le_of_ble_eq_true rfl, Nat.le_of_ble_eq_true rfl⟩ (fun H locs O => ?_)
  refine W.eq (g2 := F0 m 17 ls [.int t3.1]) rfl ?_
  refine lv_if_eq (tgt := 22) hx hb dX9_paint_17 (by decide) (fun hc17 => ?_) (fun hc17 => ?_)
  · rw [if_pos hc17] at h
    refine lv_iinc (v := (v2 + 1)) (lv' := [(2, .int (v2 + 1)), (0, .ref (κ.1 + v0)), (1, .ref (κ.1 + v1))]) hx hb dX9_paint_22 hl (k := 2) rfl rfl (by decide) rfl (fun ls hl => ?_)
    refine lv_goto (tgt := 2) hx hb dX9_paint_25 (by decide) ?_
    rw [← Option.some.inj h] at hK
    exact hW2 (v2 + 1) t3.2 hK H locs ls O (lv_sub hl [1, 2, 0] rfl)
  rw [if_neg hc17] at h
  obtain ⟨_, hw0, ew0⟩ := Option.map_eq_some_iff.mp h
  rw [← ew0] at hK
  have h := hw0
  exact F_X9_paint_20_ok X hr hlk v2 t3.2 _ h hK H locs ls O (lv_sub hl [2] rfl)
set_option maxRecDepth 100000 in
set_option maxHeartbeats 4000000 in
theorem F_X9_paint_2_ok (X : xX p s m args c cX9_paint 3 RX9 κ) (hr : meth.sig.returnType = (some .int)) (hlk : meth.locks = false) {ro : Int32} {mo : xM} (v0 : Nat) (v1 : Nat) (v2 : Int32) (M : xM) (x : Int32 × xM) (h : F_X9_paint_2 v0 v1 v2 M = some x) (hK : (fun o => o = (ro, mo)) x) (H : Heap) (locs : List Loc) (ls : Array Slot) (O : xO κ s M H locs) (hl : lv_has ls 3 [(0, .ref (κ.1 + v0)), (1, .ref (κ.1 + v1)), (2, .int v2)]) : W p l e (xRm 11 0 0) s m args below meth c H locs 0 0 (xQf below args s 0 0 κ (some (.int ro)) mo) (F0 m 2 ls []) := by
  refine xit_K (Wh := fun x => ∀ (H : Heap) (locs : List Loc) (ls : Array Slot), xO κ s x.2 H locs → lv_has ls 3 [(0, .ref (κ.1 + v0)), (1, .ref (κ.1 + v1)), (2, .int x.1)] → W p l e (xRm 11 0 0) s m args below meth c H locs 0 0 (xQf below args s 0 0 κ (some (.int ro)) mo) (F0 m 2 ls [])) (Kp := (fun o => o = (ro, mo))) ?_ xFU (v2, M) x h hK H locs ls O hl
  intro y x h hK H locs ls O hl
  exact F_X9_paint_2_bok X hr hlk v0 v1 y.1 (fun _ _ hw => hw) y.2 x h hK H locs ls O hl
set_option maxRecDepth 100000 in
set_option maxHeartbeats 4000000 in
theorem T_X9_paint (l : Launch) (κ : xQ) (a0 : Nat) (a1 : Nat) (M : xM) (ro : Int32) (mo : xM) (h : F_X9_paint a0 a1 M = some (ro, mo)) : xC l yX9_paint cX9_paint 3 (some .int) 11 0 0 κ [.ref (κ.1 + a0), .ref (κ.1 + a1)] M (some (.int ro)) mo := by
  refine xC_of rfl (Nat.le_of_ble_eq_true rfl) fun p e s m args below meth c X hr hlk hnm H locs ls O hl => ?_
  have X : xX p s m args c cX9_paint 3 RX9 κ := X
  have hl : lv_has ls 3 [(0, .ref (κ.1 + a0)), (1, .ref (κ.1 + a1))] := hl
  have hx := X.1
  have hb := X.2.1
  obtain ⟨x, hx0⟩ : ∃ x, (ro, mo) = x := ⟨_, rfl⟩
  rw [hx0] at h
  have hK : x = (ro, mo) := hx0.symm
  unfold F_X9_paint at h
  refine lv_iconst (v := (0 : Int32)) hx hb dX9_paint_0 (by decide) ?_
  refine lv_istore_n (lv' := [(2, .int (0 : Int32)), (0, .ref (κ.1 + a0)), (1, .ref (κ.1 + a1))]) hx hb dX9_paint_1 rfl hl (by decide) rfl (fun ls hl => ?_)
  exact F_X9_paint_2_ok X hr hlk a0 a1 (0 : Int32) M _ h hK H locs ls O (lv_sub hl [1, 2, 0] rfl)
def F_X9_allOverlap_57 (M : xM) : Option (Int32 × xM) :=
(xz (0 : Int32)).bind fun t7 =>
some (t7, M)
def F_X9_allOverlap_59 (v0 : Nat) (v1 : Int32) (v2 : Int32) (v3 : Int32) (M : xM) : Option ((Int32 × xM) ⊕ ((Int32 × xM) ⊕ (Int32 × xM))) :=
some (.inl ((v3 + 1), M))
def F_X9_allOverlap_34 (v0 : Nat) (v1 : Int32) (v2 : Int32) (v3 : Int32) (s0 : Int32) (M : xM) : Option ((Int32 × xM) ⊕ ((Int32 × xM) ⊕ (Int32 × xM))) :=
if s0 = 0 then (
F_X9_allOverlap_59 v0 v1 v2 v3 M)
else (
(xgP M v0 3 15).bind fun t3 =>
(xaI M 20 t3 v2).bind fun t4 =>
(xgP M v0 3 15).bind fun t5 =>
(xaI M 20 t5 v3).bind fun t6 =>
if (t4 &&& t6) = 0 then (
((F_X9_allOverlap_57 M).map Sum.inr).map Sum.inr)
else (
F_X9_allOverlap_59 v0 v1 v2 v3 M))
def F_X9_allOverlap_65 (v0 : Nat) (v1 : Int32) (v2 : Int32) (M : xM) : Option ((Int32 × xM) ⊕ (Int32 × xM)) :=
some (.inl ((v2 + 1), M))
def F_X9_allOverlap_12b (v0 : Nat) (v1 : Int32) (v2 : Int32) : (Int32 × xM) → Option ((Int32 × xM) ⊕ ((Int32 × xM) ⊕ (Int32 × xM))) := fun ⟨v3, M⟩ =>
if v2 ≤ v3 then (
(F_X9_allOverlap_65 v0 v1 v2 M).map Sum.inr)
else (
if (((v1 >>> (v2 &&& 31)) &&& (v1 >>> (v3 &&& 31))) &&& (1 : Int32)) = 0 then (
F_X9_allOverlap_34 v0 v1 v2 v3 (0 : Int32) M)
else (
F_X9_allOverlap_34 v0 v1 v2 v3 (1 : Int32) M))
def F_X9_allOverlap_12 (v0 : Nat) (v1 : Int32) (v2 : Int32) (v3 : Int32) (M : xM) : Option ((Int32 × xM) ⊕ (Int32 × xM)) := xit (F_X9_allOverlap_12b v0 v1 v2) xFU (v3, M)
def F_X9_allOverlap_71 (M : xM) : Option (Int32 × xM) :=
(xz (1 : Int32)).bind fun t2 =>
some (t2, M)
def F_X9_allOverlap_2b (v0 : Nat) (v1 : Int32) : (Int32 × xM) → Option ((Int32 × xM) ⊕ (Int32 × xM)) := fun ⟨v2, M⟩ =>
(xgI M v0 3 6).bind fun t1 =>
if t1 ≤ v2 then (
(F_X9_allOverlap_71 M).map Sum.inr)
else (
F_X9_allOverlap_12 v0 v1 v2 (0 : Int32) M)
def F_X9_allOverlap_2 (v0 : Nat) (v1 : Int32) (v2 : Int32) (M : xM) : Option (Int32 × xM) := xit (F_X9_allOverlap_2b v0 v1) xFU (v2, M)
def F_X9_allOverlap (a0 : Nat) (a1 : Int32) (M : xM) : Option (Int32 × xM) :=
F_X9_allOverlap_2 a0 a1 (0 : Int32) M
set_option maxRecDepth 100000 in
set_option maxHeartbeats 4000000 in
theorem F_X9_allOverlap_57_ok (X : xX p s m args c cX9_allOverlap 5 RX9 κ) (hr : meth.sig.returnType = (some .boolean)) (hlk : meth.locks = false) {ro : Int32} {mo : xM} (M : xM) (x : Int32 × xM) (h : F_X9_allOverlap_57 M = some x) (hK : (fun o => o = (ro, mo)) x) (H : Heap) (locs : List Loc) (ls : Array Slot) (O : xO κ s M H locs) (hl : lv_has ls 5 []) : W p l e (xRm 2 0 0) s m args below meth c H locs 0 0 (xQf below args s 0 0 κ (some (.int ro)) mo) (F0 m 57 ls []) := by
  unfold F_X9_allOverlap_57 at h
  have hx := X.1
  have hb := X.2.1
  refine lv_iconst (v := (0 : Int32)) hx hb dX9_allOverlap_57 (by decide) ?_
  obtain ⟨t7, ht7, h⟩ := Option.bind_eq_some_iff.mp h
  rw [← Option.some.inj h] at hK
  have hK : (t7, M) = (ro, mo) := hK
  obtain ⟨hK1, hK2⟩ := Prod.mk.inj hK
  rw [hK1] at ht7
  rw [hK2] at O
  exact xr_zret X hr hlk O ht7 dX9_allOverlap_58
set_option maxRecDepth 100000 in
set_option maxHeartbeats 4000000 in
theorem F_X9_allOverlap_59_ok (X : xX p s m args c cX9_allOverlap 5 RX9 κ) (hr : meth.sig.returnType = (some .boolean)) (hlk : meth.locks = false) {ro : Int32} {mo : xM} (v0 : Nat) (v1 : Int32) (v2 : Int32) (v3 : Int32) {W2 : Int32 × xM → Prop} (hW2 : ∀ (v2 : Int32) (M : xM), W2 (v2, M) → ∀ (H : Heap) (locs : List Loc) (ls : Array Slot), xO κ s M H locs → lv_has ls 5 [(0, .ref (κ.1 + v0)), (1, .int v1), (2, .int v2)] → W p l e (xRm 2 0 0) s m args below meth c H locs 0 0 (xQf below args s 0 0 κ (some (.int ro)) mo) (F0 m 2 ls [])) {W12 : Int32 × xM → Prop} (hW12 : ∀ (v3 : Int32) (M : xM), W12 (v3, M) → ∀ (H : Heap) (locs : List Loc) (ls : Array Slot), xO κ s M H locs → lv_has ls 5 [(0, .ref (κ.1 + v0)), (1, .int v1), (2, .int v2), (3, .int v3)] → W p l e (xRm 2 0 0) s m args below meth c H locs 0 0 (xQf below args s 0 0 κ (some (.int ro)) mo) (F0 m 12 ls [])) (M : xM) (x : (Int32 × xM) ⊕ ((Int32 × xM) ⊕ (Int32 × xM))) (h : F_X9_allOverlap_59 v0 v1 v2 v3 M = some x) (hK : (xKl W12 (xKl W2 (fun o => o = (ro, mo)))) x) (H : Heap) (locs : List Loc) (ls : Array Slot) (O : xO κ s M H locs) (hl : lv_has ls 5 [(0, .ref (κ.1 + v0)), (1, .int v1), (2, .int v2), (3, .int v3)]) : W p l e (xRm 2 0 0) s m args below meth c H locs 0 0 (xQf below args s 0 0 κ (some (.int ro)) mo) (F0 m 59 ls []) := by
  unfold F_X9_allOverlap_59 at h
  have hx := X.1
  have hb := X.2.1
  refine lv_iinc (v := (v3 + 1)) (lv' := [(3, .int (v3 + 1)), (0, .ref (κ.1 + v0)), (1, .int v1), (2, .int v2)]) hx hb dX9_allOverlap_59 hl (k := 3) rfl rfl (by decide) rfl (fun ls hl => ?_)
  refine lv_goto (tgt := 12) hx hb dX9_allOverlap_62 (by decide) ?_
  rw [← Option.some.inj h] at hK
  exact hW12 (v3 + 1) M hK H locs ls O (lv_sub hl [1, 2, 3, 0] rfl)
set_option maxRecDepth 100000 in
set_option maxHeartbeats 4000000 in
theorem F_X9_allOverlap_34_ok (X : xX p s m args c cX9_allOverlap 5 RX9 κ) (hr : meth.sig.returnType = (some .boolean)) (hlk : meth.locks = false) {ro : Int32} {mo : xM} (v0 : Nat) (v1 : Int32) (v2 : Int32) (v3 : Int32) (s0 : Int32) {W2 : Int32 × xM → Prop} (hW2 : ∀ (v2 : Int32) (M : xM), W2 (v2, M) → ∀ (H : Heap) (locs : List Loc) (ls : Array Slot), xO κ s M H locs → lv_has ls 5 [(0, .ref (κ.1 + v0)), (1, .int v1), (2, .int v2)] → W p l e (xRm 2 0 0) s m args below meth c H locs 0 0 (xQf below args s 0 0 κ (some (.int ro)) mo) (F0 m 2 ls [])) {W12 : Int32 × xM → Prop} (hW12 : ∀ (v3 : Int32) (M : xM), W12 (v3, M) → ∀ (H : Heap) (locs : List Loc) (ls : Array Slot), xO κ s M H locs → lv_has ls 5 [(0, .ref (κ.1 + v0)), (1, .int v1), (2, .int v2), (3, .int v3)] → W p l e (xRm 2 0 0) s m args below meth c H locs 0 0 (xQf below args s 0 0 κ (some (.int ro)) mo) (F0 m 12 ls [])) (M : xM) (x : (Int32 × xM) ⊕ ((Int32 × xM) ⊕ (Int32 × xM))) (h : F_X9_allOverlap_34 v0 v1 v2 v3 s0 M = some x) (hK : (xKl W12 (xKl W2 (fun o => o = (ro, mo)))) x) (H : Heap) (locs : List Loc) (ls : Array Slot) (O : xO κ s M H locs) (hl : lv_has ls 5 [(0, .ref (κ.1 + v0)), (1, .int v1), (2, .int v2), (3, .int v3)]) : W p l e (xRm 2 0 0) s m args below meth c H locs 0 0 (xQf below args s 0 0 κ (some (.int ro)) mo) (F0 m 34 ls [.int s0]) := by
  unfold F_X9_allOverlap_34 at h
  have hx := X.1
  have hb := X.2.1
  refine lv_istore (lv' := [(4, .int s0), (0, .ref (κ.1 + v0)), (1, .int v1), (2, .int v2), (3, .int v3)]) hx hb dX9_allOverlap_34 hl (by decide) rfl (fun ls hl => ?_)
  refine lv_iload hx hb dX9_allOverlap_36 (lv_at hl 0 rfl) ?_
  refine lv_if_eq (tgt := 59) hx hb dX9_allOverlap_38 (by decide) (fun hc38 => ?_) (fun hc38 => ?_)
  · rw [if_pos hc38] at h
    exact F_X9_allOverlap_59_ok X hr hlk v0 v1 v2 v3 hW2 hW12 M _ h hK H locs ls O (lv_sub hl [1, 2, 3, 4] rfl)
  rw [if_neg hc38] at h
  refine lv_aload_n hx hb dX9_allOverlap_41 rfl (lv_at hl 1 rfl) ?_
  obtain ⟨t3, ht3, h⟩ := Option.bind_eq_some_iff.mp h
  refine xr_getP X O ht3 fl_X9_29 dX9_allOverlap_42 ?_
  refine lv_iload_n hx hb dX9_allOverlap_45 rfl (lv_at hl 3 rfl) ?_
  obtain ⟨t4, ht4, h⟩ := Option.bind_eq_some_iff.mp h
  refine xr_aldI X O ht4 dX9_allOverlap_46 ?_
  refine lv_aload_n hx hb dX9_allOverlap_47 rfl (lv_at hl 1 rfl) ?_
  obtain ⟨t5, ht5, h⟩ := Option.bind_eq_some_iff.mp h
  refine xr_getP X O ht5 fl_X9_29 dX9_allOverlap_48 ?_
  refine lv_iload_n hx hb dX9_allOverlap_51 rfl (lv_at hl 4 rfl) ?_
  obtain ⟨t6, ht6, h⟩ := Option.bind_eq_some_iff.mp h
  refine xr_aldI X O ht6 dX9_allOverlap_52 ?_
  refine lv_iand hx hb dX9_allOverlap_53 ?_
  refine lv_if_ne (tgt := 59) hx hb dX9_allOverlap_54 (by decide) (fun hc54 => ?_) (fun hc54 => ?_)
  · rw [if_neg hc54] at h
    exact F_X9_allOverlap_59_ok X hr hlk v0 v1 v2 v3 hW2 hW12 M _ h hK H locs ls O (lv_sub hl [1, 2, 3, 4] rfl)
  rw [if_pos hc54] at h
  obtain ⟨_, hw0, ew0⟩ := Option.map_eq_some_iff.mp h
  rw [← ew0] at hK
  have h := hw0
  obtain ⟨_, hw1, ew1⟩ := Option.map_eq_some_iff.mp h
  rw [← ew1] at hK
  have h := hw1
  exact F_X9_allOverlap_57_ok X hr hlk  M _ h hK H locs ls O (lv_sub hl [] rfl)
set_option maxRecDepth 100000 in
set_option maxHeartbeats 4000000 in
theorem F_X9_allOverlap_65_ok (X : xX p s m args c cX9_allOverlap 5 RX9 κ) (hr : meth.sig.returnType = (some .boolean)) (hlk : meth.locks = false) {ro : Int32} {mo : xM} (v0 : Nat) (v1 : Int32) (v2 : Int32) {W2 : Int32 × xM → Prop} (hW2 : ∀ (v2 : Int32) (M : xM), W2 (v2, M) → ∀ (H : Heap) (locs : List Loc) (ls : Array Slot), xO κ s M H locs → lv_has ls 5 [(0, .ref (κ.1 + v0)), (1, .int v1), (2, .int v2)] → W p l e (xRm 2 0 0) s m args below meth c H locs 0 0 (xQf below args s 0 0 κ (some (.int ro)) mo) (F0 m 2 ls [])) (M : xM) (x : (Int32 × xM) ⊕ (Int32 × xM)) (h : F_X9_allOverlap_65 v0 v1 v2 M = some x) (hK : (xKl W2 (fun o => o = (ro, mo))) x) (H : Heap) (locs : List Loc) (ls : Array Slot) (O : xO κ s M H locs) (hl : lv_has ls 5 [(0, .ref (κ.1 + v0)), (1, .int v1), (2, .int v2)]) : W p l e (xRm 2 0 0) s m args below meth c H locs 0 0 (xQf below args s 0 0 κ (some (.int ro)) mo) (F0 m 65 ls []) := by
  unfold F_X9_allOverlap_65 at h
  have hx := X.1
  have hb := X.2.1
  refine lv_iinc (v := (v2 + 1)) (lv' := [(2, .int (v2 + 1)), (0, .ref (κ.1 + v0)), (1, .int v1)]) hx hb dX9_allOverlap_65 hl (k := 2) rfl rfl (by decide) rfl (fun ls hl => ?_)
  refine lv_goto (tgt := 2) hx hb dX9_allOverlap_68 (by decide) ?_
  rw [← Option.some.inj h] at hK
  exact hW2 (v2 + 1) M hK H locs ls O (lv_sub hl [1, 2, 0] rfl)
set_option maxRecDepth 100000 in
set_option maxHeartbeats 4000000 in
theorem F_X9_allOverlap_12_bok (X : xX p s m args c cX9_allOverlap 5 RX9 κ) (hr : meth.sig.returnType = (some .boolean)) (hlk : meth.locks = false) {ro : Int32} {mo : xM} (v0 : Nat) (v1 : Int32) (v2 : Int32) (v3 : Int32) {W2 : Int32 × xM → Prop} (hW2 : ∀ (v2 : Int32) (M : xM), W2 (v2, M) → ∀ (H : Heap) (locs : List Loc) (ls : Array Slot), xO κ s M H locs → lv_has ls 5 [(0, .ref (κ.1 + v0)), (1, .int v1), (2, .int v2)] → W p l e (xRm 2 0 0) s m args below meth c H locs 0 0 (xQf below args s 0 0 κ (some (.int ro)) mo) (F0 m 2 ls [])) {W12 : Int32 × xM → Prop} (hW12 : ∀ (v3 : Int32) (M : xM), W12 (v3, M) → ∀ (H : Heap) (locs : List Loc) (ls : Array Slot), xO κ s M H locs → lv_has ls 5 [(0, .ref (κ.1 + v0)), (1, .int v1), (2, .int v2), (3, .int v3)] → W p l e (xRm 2 0 0) s m args below meth c H locs 0 0 (xQf below args s 0 0 κ (some (.int ro)) mo) (F0 m 12 ls [])) (M : xM) (x : (Int32 × xM) ⊕ ((Int32 × xM) ⊕ (Int32 × xM))) (h : F_X9_allOverlap_12b v0 v1 v2 (v3, M) = some x) (hK : (xKl W12 (xKl W2 (fun o => o = (ro, mo)))) x) (H : Heap) (locs : List Loc) (ls : Array Slot) (O : xO κ s M H locs) (hl : lv_has ls 5 [(0, .ref (κ.1 + v0)), (1, .int v1), (2, .int v2), (3, .int v3)]) : W p l e (xRm 2 0 0) s m args below meth c H locs 0 0 (xQf below args s 0 0 κ (some (.int ro)) mo) (F0 m 12 ls []) := by
  unfold F_X9_allOverlap_12b at h
  dsimp only at h
  have hx := X.1
  have hb := X.2.1
  refine lv_iload_n hx hb dX9_allOverlap_12 rfl (lv_at hl 3 rfl) ?_
  refine lv_iload_n hx hb dX9_allOverlap_13 rfl (lv_at hl 2 rfl) ?_
  refine lv_icmp_ge (tgt := 65) hx hb dX9_allOverlap_14 (by decide) (fun hc14 => ?_) (fun hc14 => ?_)
  · rw [if_pos hc14] at h
    obtain ⟨_, hw0, ew0⟩ := Option.map_eq_some_iff.mp h
    rw [← ew0] at hK
    have h := hw0
    exact F_X9_allOverlap_65_ok X hr hlk v0 v1 v2 hW2 M _ h hK H locs ls O (lv_sub hl [0, 1, 2] rfl)
  rw [if_neg hc14] at h
  refine lv_iload_n hx hb dX9_allOverlap_17 rfl (lv_at hl 1 rfl) ?_
  refine lv_iload_n hx hb dX9_allOverlap_18 rfl (lv_at hl 2 rfl) ?_
  refine lv_ishr hx hb dX9_allOverlap_19 ?_
  refine lv_iload_n hx hb dX9_allOverlap_20 rfl (lv_at hl 1 rfl) ?_
  refine lv_iload_n hx hb dX9_allOverlap_21 rfl (lv_at hl 3 rfl) ?_
  refine lv_ishr hx hb dX9_allOverlap_22 ?_
  refine lv_iand hx hb dX9_allOverlap_23 ?_
  refine lv_iconst (v := (1 : Int32)) hx hb dX9_allOverlap_24 (by decide) ?_
  refine lv_iand hx hb dX9_allOverlap_25 ?_
  refine lv_if_eq (tgt := 33) hx hb dX9_allOverlap_26 (by decide) (fun hc26 => ?_) (fun hc26 => ?_)
  · rw [if_pos hc26] at h
    refine lv_iconst (v := (0 : Int32)) hx hb dX9_allOverlap_33 (by decide) ?_
    exact F_X9_allOverlap_34_ok X hr hlk v0 v1 v2 v3 (0 : Int32) hW2 hW12 M _ h hK H locs ls O (lv_sub hl [0, 1, 2, 3] rfl)
  rw [if_neg hc26] at h
  refine lv_iconst (v := (1 : Int32)) hx hb dX9_allOverlap_29 (by decide) ?_
  refine lv_goto (tgt := 34) hx hb dX9_allOverlap_30 (by decide) ?_
  exact F_X9_allOverlap_34_ok X hr hlk v0 v1 v2 v3 (1 : Int32) hW2 hW12 M _ h hK H locs ls O (lv_sub hl [0, 1, 2, 3] rfl)
set_option maxRecDepth 100000 in
set_option maxHeartbeats 4000000 in
theorem F_X9_allOverlap_12_ok (X : xX p s m args c cX9_allOverlap 5 RX9 κ) (hr : meth.sig.returnType = (some .boolean)) (hlk : meth.locks = false) {ro : Int32} {mo : xM} (v0 : Nat) (v1 : Int32) (v2 : Int32) (v3 : Int32) {W2 : Int32 × xM → Prop} (hW2 : ∀ (v2 : Int32) (M : xM), W2 (v2, M) → ∀ (H : Heap) (locs : List Loc) (ls : Array Slot), xO κ s M H locs → lv_has ls 5 [(0, .ref (κ.1 + v0)), (1, .int v1), (2, .int v2)] → W p l e (xRm 2 0 0) s m args below meth c H locs 0 0 (xQf below args s 0 0 κ (some (.int ro)) mo) (F0 m 2 ls [])) (M : xM) (x : (Int32 × xM) ⊕ (Int32 × xM)) (h : F_X9_allOverlap_12 v0 v1 v2 v3 M = some x) (hK : (xKl W2 (fun o => o = (ro, mo))) x) (H : Heap) (locs : List Loc) (ls : Array Slot) (O : xO κ s M H locs) (hl : lv_has ls 5 [(0, .ref (κ.1 + v0)), (1, .int v1), (2, .int v2), (3, .int v3)]) : W p l e (xRm 2 0 0) s m args below meth c H locs 0 0 (xQf below args s 0 0 κ (some (.int ro)) mo) (F0 m 12 ls []) := by
  refine xit_K (Wh := fun x => ∀ (H : Heap) (locs : List Loc) (ls : Array Slot), xO κ s x.2 H locs → lv_has ls 5 [(0, .ref (κ.1 + v0)), (1, .int v1), (2, .int v2), (3, .int x.1)] → W p l e (xRm 2 0 0) s m args below meth c H locs 0 0 (xQf below args s 0 0 κ (some (.int ro)) mo) (F0 m 12 ls [])) (Kp := (xKl W2 (fun o => o = (ro, mo)))) ?_ xFU (v3, M) x h hK H locs ls O hl
  intro y x h hK H locs ls O hl
  exact F_X9_allOverlap_12_bok X hr hlk v0 v1 v2 y.1 hW2 (fun _ _ hw => hw) y.2 x h hK H locs ls O hl
set_option maxRecDepth 100000 in
set_option maxHeartbeats 4000000 in
theorem F_X9_allOverlap_71_ok (X : xX p s m args c cX9_allOverlap 5 RX9 κ) (hr : meth.sig.returnType = (some .boolean)) (hlk : meth.locks = false) {ro : Int32} {mo : xM} (M : xM) (x : Int32 × xM) (h : F_X9_allOverlap_71 M = some x) (hK : (fun o => o = (ro, mo)) x) (H : Heap) (locs : List Loc) (ls : Array Slot) (O : xO κ s M H locs) (hl : lv_has ls 5 []) : W p l e (xRm 2 0 0) s m args below meth c H locs 0 0 (xQf below args s 0 0 κ (some (.int ro)) mo) (F0 m 71 ls []) := by
  unfold F_X9_allOverlap_71 at h
  have hx := X.1
  have hb := X.2.1
  refine lv_iconst (v := (1 : Int32)) hx hb dX9_allOverlap_71 (by decide) ?_
  obtain ⟨t2, ht2, h⟩ := Option.bind_eq_some_iff.mp h
  rw [← Option.some.inj h] at hK
  have hK : (t2, M) = (ro, mo) := hK
  obtain ⟨hK1, hK2⟩ := Prod.mk.inj hK
  rw [hK1] at ht2
  rw [hK2] at O
  exact xr_zret X hr hlk O ht2 dX9_allOverlap_72
set_option maxRecDepth 100000 in
set_option maxHeartbeats 4000000 in
theorem F_X9_allOverlap_2_bok (X : xX p s m args c cX9_allOverlap 5 RX9 κ) (hr : meth.sig.returnType = (some .boolean)) (hlk : meth.locks = false) {ro : Int32} {mo : xM} (v0 : Nat) (v1 : Int32) (v2 : Int32) {W2 : Int32 × xM → Prop} (hW2 : ∀ (v2 : Int32) (M : xM), W2 (v2, M) → ∀ (H : Heap) (locs : List Loc) (ls : Array Slot), xO κ s M H locs → lv_has ls 5 [(0, .ref (κ.1 + v0)), (1, .int v1), (2, .int v2)] → W p l e (xRm 2 0 0) s m args below meth c H locs 0 0 (xQf below args s 0 0 κ (some (.int ro)) mo) (F0 m 2 ls [])) (M : xM) (x : (Int32 × xM) ⊕ (Int32 × xM)) (h : F_X9_allOverlap_2b v0 v1 (v2, M) = some x) (hK : (xKl W2 (fun o => o = (ro, mo))) x) (H : Heap) (locs : List Loc) (ls : Array Slot) (O : xO κ s M H locs) (hl : lv_has ls 5 [(0, .ref (κ.1 + v0)), (1, .int v1), (2, .int v2)]) : W p l e (xRm 2 0 0) s m args below meth c H locs 0 0 (xQf below args s 0 0 κ (some (.int ro)) mo) (F0 m 2 ls []) := by
  unfold F_X9_allOverlap_2b at h
  dsimp only at h
  have hx := X.1
  have hb := X.2.1
  refine lv_iload_n hx hb dX9_allOverlap_2 rfl (lv_at hl 2 rfl) ?_
  refine lv_aload_n hx hb dX9_allOverlap_3 rfl (lv_at hl 0 rfl) ?_
  obtain ⟨t1, ht1, h⟩ := Option.bind_eq_some_iff.mp h
  refine xr_getI X O ht1 fl_X9_15 (Or.inl rfl) dX9_allOverlap_4 ?_
  refine lv_icmp_ge (tgt := 71) hx hb dX9_allOverlap_7 (by decide) (fun hc7 => ?_) (fun hc7 => ?_)
  · rw [if_pos hc7] at h
    obtain ⟨_, hw0, ew0⟩ := Option.map_eq_some_iff.mp h
    rw [← ew0] at hK
    have h := hw0
    exact F_X9_allOverlap_71_ok X hr hlk  M _ h hK H locs ls O (lv_sub hl [] rfl)
  rw [if_neg hc7] at h
  refine lv_iconst (v := (0 : Int32)) hx hb dX9_allOverlap_10 (by decide) ?_
  refine lv_istore_n (lv' := [(3, .int (0 : Int32)), (0, .ref (κ.1 + v0)), (1, .int v1), (2, .int v2)]) hx hb dX9_allOverlap_11 rfl hl (by decide) rfl (fun ls hl => ?_)
  exact F_X9_allOverlap_12_ok X hr hlk v0 v1 v2 (0 : Int32) hW2 M _ h hK H locs ls O (lv_sub hl [1, 2, 3, 0] rfl)
set_option maxRecDepth 100000 in
set_option maxHeartbeats 4000000 in
theorem F_X9_allOverlap_2_ok (X : xX p s m args c cX9_allOverlap 5 RX9 κ) (hr : meth.sig.returnType = (some .boolean)) (hlk : meth.locks = false) {ro : Int32} {mo : xM} (v0 : Nat) (v1 : Int32) (v2 : Int32) (M : xM) (x : Int32 × xM) (h : F_X9_allOverlap_2 v0 v1 v2 M = some x) (hK : (fun o => o = (ro, mo)) x) (H : Heap) (locs : List Loc) (ls : Array Slot) (O : xO κ s M H locs) (hl : lv_has ls 5 [(0, .ref (κ.1 + v0)), (1, .int v1), (2, .int v2)]) : W p l e (xRm 2 0 0) s m args below meth c H locs 0 0 (xQf below args s 0 0 κ (some (.int ro)) mo) (F0 m 2 ls []) := by
  refine xit_K (Wh := fun x => ∀ (H : Heap) (locs : List Loc) (ls : Array Slot), xO κ s x.2 H locs → lv_has ls 5 [(0, .ref (κ.1 + v0)), (1, .int v1), (2, .int x.1)] → W p l e (xRm 2 0 0) s m args below meth c H locs 0 0 (xQf below args s 0 0 κ (some (.int ro)) mo) (F0 m 2 ls [])) (Kp := (fun o => o = (ro, mo))) ?_ xFU (v2, M) x h hK H locs ls O hl
  intro y x h hK H locs ls O hl
  exact F_X9_allOverlap_2_bok X hr hlk v0 v1 y.1 (fun _ _ hw => hw) y.2 x h hK H locs ls O hl
set_option maxRecDepth 100000 in
set_option maxHeartbeats 4000000 in
theorem T_X9_allOverlap (l : Launch) (κ : xQ) (a0 : Nat) (a1 : Int32) (M : xM) (ro : Int32) (mo : xM) (h : F_X9_allOverlap a0 a1 M = some (ro, mo)) : xC l yX9_allOverlap cX9_allOverlap 5 (some .boolean) 2 0 0 κ [.ref (κ.1 + a0), .int a1] M (some (.int ro)) mo := by
  refine xC_of rfl (Nat.le_of_ble_eq_true rfl) fun p e s m args below meth c X hr hlk hnm H locs ls O hl => ?_
  have X : xX p s m args c cX9_allOverlap 5 RX9 κ := X
  have hl : lv_has ls 5 [(0, .ref (κ.1 + a0)), (1, .int a1)] := hl
  have hx := X.1
  have hb := X.2.1
  obtain ⟨x, hx0⟩ : ∃ x, (ro, mo) = x := ⟨_, rfl⟩
  rw [hx0] at h
  have hK : x = (ro, mo) := hx0.symm
  unfold F_X9_allOverlap at h
  refine lv_iconst (v := (0 : Int32)) hx hb dX9_allOverlap_0 (by decide) ?_
  refine lv_istore_n (lv' := [(2, .int (0 : Int32)), (0, .ref (κ.1 + a0)), (1, .int a1)]) hx hb dX9_allOverlap_1 rfl hl (by decide) rfl (fun ls hl => ?_)
  exact F_X9_allOverlap_2_ok X hr hlk a0 a1 (0 : Int32) M _ h hK H locs ls O (lv_sub hl [1, 2, 0] rfl)
def F_X9_greatestClique_35 (v0 : Nat) (v1 : Int32) (v2 : Int32) (M : xM) : Option ((Int32 × Int32 × xM) ⊕ (Int32 × xM)) :=
some (.inl (v1, (v2 + 1), M))
def F_X9_greatestClique_41 (v1 : Int32) (M : xM) : Option (Int32 × xM) :=
some (v1, M)
def F_X9_greatestClique_4b (v0 : Nat) : (Int32 × Int32 × xM) → Option ((Int32 × Int32 × xM) ⊕ (Int32 × xM)) := fun ⟨v1, v2, M⟩ =>
(xgI M v0 3 6).bind fun t1 =>
if ((1 : Int32) <<< (t1 &&& 31)) ≤ v2 then (
(F_X9_greatestClique_41 v1 M).map Sum.inr)
else (
(F_J6_bitCount_0f7a4 v2 M).bind fun t2 =>
(F_J6_bitCount_0f7a4 v1 t2.2).bind fun t3 =>
if t2.1 ≤ t3.1 then (
F_X9_greatestClique_35 v0 v1 v2 t3.2)
else (
(F_X9_allOverlap v0 v2 t3.2).bind fun t4 =>
if t4.1 = 0 then (
F_X9_greatestClique_35 v0 v1 v2 t4.2)
else (
F_X9_greatestClique_35 v0 v2 v2 t4.2)))
def F_X9_greatestClique_4 (v0 : Nat) (v1 : Int32) (v2 : Int32) (M : xM) : Option (Int32 × xM) := xit (F_X9_greatestClique_4b v0) xFU (v1, v2, M)
def F_X9_greatestClique (a0 : Nat) (M : xM) : Option (Int32 × xM) :=
F_X9_greatestClique_4 a0 (0 : Int32) (1 : Int32) M
set_option maxRecDepth 100000 in
set_option maxHeartbeats 4000000 in
theorem F_X9_greatestClique_35_ok (X : xX p s m args c cX9_greatestClique 3 RX9 κ) (hr : meth.sig.returnType = (some .int)) (hlk : meth.locks = false) {ro : Int32} {mo : xM} (v0 : Nat) (v1 : Int32) (v2 : Int32) {W4 : Int32 × Int32 × xM → Prop} (hW4 : ∀ (v1 : Int32) (v2 : Int32) (M : xM), W4 (v1, v2, M) → ∀ (H : Heap) (locs : List Loc) (ls : Array Slot), xO κ s M H locs → lv_has ls 3 [(0, .ref (κ.1 + v0)), (1, .int v1), (2, .int v2)] → W p l e (xRm 3 0 0) s m args below meth c H locs 0 0 (xQf below args s 0 0 κ (some (.int ro)) mo) (F0 m 4 ls [])) (M : xM) (x : (Int32 × Int32 × xM) ⊕ (Int32 × xM)) (h : F_X9_greatestClique_35 v0 v1 v2 M = some x) (hK : (xKl W4 (fun o => o = (ro, mo))) x) (H : Heap) (locs : List Loc) (ls : Array Slot) (O : xO κ s M H locs) (hl : lv_has ls 3 [(0, .ref (κ.1 + v0)), (1, .int v1), (2, .int v2)]) : W p l e (xRm 3 0 0) s m args below meth c H locs 0 0 (xQf below args s 0 0 κ (some (.int ro)) mo) (F0 m 35 ls []) := by
  unfold F_X9_greatestClique_35 at h
  have hx := X.1
  have hb := X.2.1
  refine lv_iinc (v := (v2 + 1)) (lv' := [(2, .int (v2 + 1)), (0, .ref (κ.1 + v0)), (1, .int v1)]) hx hb dX9_greatestClique_35 hl (k := 2) rfl rfl (by decide) rfl (fun ls hl => ?_)
  refine lv_goto (tgt := 4) hx hb dX9_greatestClique_38 (by decide) ?_
  rw [← Option.some.inj h] at hK
  exact hW4 v1 (v2 + 1) M hK H locs ls O (lv_sub hl [1, 2, 0] rfl)
set_option maxRecDepth 100000 in
set_option maxHeartbeats 4000000 in
theorem F_X9_greatestClique_41_ok (X : xX p s m args c cX9_greatestClique 3 RX9 κ) (hr : meth.sig.returnType = (some .int)) (hlk : meth.locks = false) {ro : Int32} {mo : xM} (v1 : Int32) (M : xM) (x : Int32 × xM) (h : F_X9_greatestClique_41 v1 M = some x) (hK : (fun o => o = (ro, mo)) x) (H : Heap) (locs : List Loc) (ls : Array Slot) (O : xO κ s M H locs) (hl : lv_has ls 3 [(1, .int v1)]) : W p l e (xRm 3 0 0) s m args below meth c H locs 0 0 (xQf below args s 0 0 κ (some (.int ro)) mo) (F0 m 41 ls []) := by
  unfold F_X9_greatestClique_41 at h
  have hx := X.1
  have hb := X.2.1
  refine lv_iload_n hx hb dX9_greatestClique_41 rfl (lv_at hl 0 rfl) ?_
  rw [← Option.some.inj h] at hK
  have hK : (v1, M) = (ro, mo) := hK
  obtain ⟨hK1, hK2⟩ := Prod.mk.inj hK
  rw [hK2] at O
  refine xr_top (w := .int ro) (by rw [hK1]) ?_
  exact xr_iret X hr hlk O dX9_greatestClique_42
set_option maxRecDepth 100000 in
set_option maxHeartbeats 4000000 in
theorem F_X9_greatestClique_4_bok (X : xX p s m args c cX9_greatestClique 3 RX9 κ) (hr : meth.sig.returnType = (some .int)) (hlk : meth.locks = false) {ro : Int32} {mo : xM} (v0 : Nat) (v1 : Int32) (v2 : Int32) {W4 : Int32 × Int32 × xM → Prop} (hW4 : ∀ (v1 : Int32) (v2 : Int32) (M : xM), W4 (v1, v2, M) → ∀ (H : Heap) (locs : List Loc) (ls : Array Slot), xO κ s M H locs → lv_has ls 3 [(0, .ref (κ.1 + v0)), (1, .int v1), (2, .int v2)] → W p l e (xRm 3 0 0) s m args below meth c H locs 0 0 (xQf below args s 0 0 κ (some (.int ro)) mo) (F0 m 4 ls [])) (M : xM) (x : (Int32 × Int32 × xM) ⊕ (Int32 × xM)) (h : F_X9_greatestClique_4b v0 (v1, v2, M) = some x) (hK : (xKl W4 (fun o => o = (ro, mo))) x) (H : Heap) (locs : List Loc) (ls : Array Slot) (O : xO κ s M H locs) (hl : lv_has ls 3 [(0, .ref (κ.1 + v0)), (1, .int v1), (2, .int v2)]) : W p l e (xRm 3 0 0) s m args below meth c H locs 0 0 (xQf below args s 0 0 κ (some (.int ro)) mo) (F0 m 4 ls []) := by
  unfold F_X9_greatestClique_4b at h
  dsimp only at h
  have hx := X.1
  have hb := X.2.1
  refine lv_iload_n hx hb dX9_greatestClique_4 rfl (lv_at hl 2 rfl) ?_
  refine lv_iconst (v := (1 : Int32)) hx hb dX9_greatestClique_5 (by decide) ?_
  refine lv_aload_n hx hb dX9_greatestClique_6 rfl (lv_at hl 0 rfl) ?_
  obtain ⟨t1, ht1, h⟩ := Option.bind_eq_some_iff.mp h
  refine xr_getI X O ht1 fl_X9_15 (Or.inl rfl) dX9_greatestClique_7 ?_
  refine lv_ishl hx hb dX9_greatestClique_10 ?_
  refine lv_icmp_ge (tgt := 41) hx hb dX9_greatestClique_11 (by decide) (fun hc11 => ?_) (fun hc11 => ?_)
  · rw [if_pos hc11] at h
    obtain ⟨_, hw0, ew0⟩ := Option.map_eq_some_iff.mp h
    rw [← ew0] at hK
    have h := hw0
    exact F_X9_greatestClique_41_ok X hr hlk v1 M _ h hK H locs ls O (lv_sub hl [1] rfl)
  rw [if_neg hc11] at h
  refine lv_iload_n hx hb dX9_greatestClique_14 rfl (lv_at hl 2 rfl) ?_
  obtain ⟨t2, ht2, h⟩ := Option.bind_eq_some_iff.mp h
  refine xr_callS (rest := []) X O (T_J6_bitCount_0f7a4 l κ v2 M _ _ ht2) lk_X9_32 (Nat.le_of_ble_eq_true rfl) rfl hl.1 rfl (Nat.le_of_ble_eq_true rfl) dX9_greatestClique_15 ⟨Nat.le_of_ble_eq_true rfl, Nat.le_of_ble_eq_true rfl⟩ (fun H locs O => ?_)
  refine W.eq (g2 := F0 m 18 ls [.int t2.1]) rfl ?_
  refine lv_iload_n hx hb dX9_greatestClique_18 rfl (lv_at hl 1 rfl) ?_
  obtain ⟨t3, ht3, h⟩ := Option.bind_eq_some_iff.mp h
  refine xr_callS (rest := [.int t2.1]) X O (T_J6_bitCount_0f7a4 l κ v1 t2.2 _ _ ht3) lk_X9_32 (Nat.le_of_ble_eq_true rfl) rfl hl.1 rfl (Nat.le_of_ble_eq_true rfl) dX9_greatestClique_19 ⟨Nat.le_of_ble_eq_true rfl, Nat.le_of_ble_eq_true rfl⟩ (fun H locs O => ?_)
  refine W.eq (g2 := F0 m 22 ls [.int t3.1, .int t2.1]) rfl ?_
  refine lv_icmp_le (tgt := 35) hx hb dX9_greatestClique_22 (by decide) (fun hc22 => ?_) (fun hc22 => ?_)
  · rw [if_pos hc22] at h
    exact F_X9_greatestClique_35_ok X hr hlk v0 v1 v2 hW4 t3.2 _ h hK H locs ls O (lv_sub hl [0, 1, 2] rfl)
  rw [if_neg hc22] at h
  refine lv_aload_n hx hb dX9_greatestClique_25 rfl (lv_at hl 0 rfl) ?_
  refine lv_iload_n hx hb dX9_greatestClique_26 rfl (lv_at hl 2 rfl) ?_
  obtain ⟨t4, ht4, h⟩ := Option.bind_eq_some_iff.mp h
  refine xr_callS (rest := []) X O (T_X9_allOverlap l κ v0 v2 t3.2 _ _ ht4) lk_X9_38 (Nat.le_of_ble_eq_true rfl) rfl hl.1 rfl (Nat.le_of_ble_eq_true rfl) dX9_greatestClique_27 ⟨Nat.le_of_ble_eq_true rfl, Nat.le_of_ble_eq_true rfl⟩ (fun H locs O => ?_)
  refine W.eq (g2 := F0 m 30 ls [.int t4.1]) rfl ?_
  refine lv_if_eq (tgt := 35) hx hb dX9_greatestClique_30 (by decide) (fun hc30 => ?_) (fun hc30 => ?_)
  · rw [if_pos hc30] at h
    exact F_X9_greatestClique_35_ok X hr hlk v0 v1 v2 hW4 t4.2 _ h hK H locs ls O (lv_sub hl [0, 1, 2] rfl)
  rw [if_neg hc30] at h
  refine lv_iload_n hx hb dX9_greatestClique_33 rfl (lv_at hl 2 rfl) ?_
  refine lv_istore_n (lv' := [(1, .int v2), (0, .ref (κ.1 + v0)), (2, .int v2)]) hx hb dX9_greatestClique_34 rfl hl (by decide) rfl (fun ls hl => ?_)
  exact F_X9_greatestClique_35_ok X hr hlk v0 v2 v2 hW4 t4.2 _ h hK H locs ls O (lv_sub hl [1, 0, 2] rfl)
set_option maxRecDepth 100000 in
set_option maxHeartbeats 4000000 in
theorem F_X9_greatestClique_4_ok (X : xX p s m args c cX9_greatestClique 3 RX9 κ) (hr : meth.sig.returnType = (some .int)) (hlk : meth.locks = false) {ro : Int32} {mo : xM} (v0 : Nat) (v1 : Int32) (v2 : Int32) (M : xM) (x : Int32 × xM) (h : F_X9_greatestClique_4 v0 v1 v2 M = some x) (hK : (fun o => o = (ro, mo)) x) (H : Heap) (locs : List Loc) (ls : Array Slot) (O : xO κ s M H locs) (hl : lv_has ls 3 [(0, .ref (κ.1 + v0)), (1, .int v1), (2, .int v2)]) : W p l e (xRm 3 0 0) s m args below meth c H locs 0 0 (xQf below args s 0 0 κ (some (.int ro)) mo) (F0 m 4 ls []) := by
  refine xit_K (Wh := fun x => ∀ (H : Heap) (locs : List Loc) (ls : Array Slot), xO κ s x.2.2 H locs → lv_has ls 3 [(0, .ref (κ.1 + v0)), (1, .int x.1), (2, .int x.2.1)] → W p l e (xRm 3 0 0) s m args below meth c H locs 0 0 (xQf below args s 0 0 κ (some (.int ro)) mo) (F0 m 4 ls [])) (Kp := (fun o => o = (ro, mo))) ?_ xFU (v1, v2, M) x h hK H locs ls O hl
  intro y x h hK H locs ls O hl
  exact F_X9_greatestClique_4_bok X hr hlk v0 y.1 y.2.1 (fun _ _ _ hw => hw) y.2.2 x h hK H locs ls O hl
set_option maxRecDepth 100000 in
set_option maxHeartbeats 4000000 in
theorem T_X9_greatestClique (l : Launch) (κ : xQ) (a0 : Nat) (M : xM) (ro : Int32) (mo : xM) (h : F_X9_greatestClique a0 M = some (ro, mo)) : xC l yX9_greatestClique cX9_greatestClique 3 (some .int) 3 0 0 κ [.ref (κ.1 + a0)] M (some (.int ro)) mo := by
  refine xC_of rfl (Nat.le_of_ble_eq_true rfl) fun p e s m args below meth c X hr hlk hnm H locs ls O hl => ?_
  have X : xX p s m args c cX9_greatestClique 3 RX9 κ := X
  have hl : lv_has ls 3 [(0, .ref (κ.1 + a0))] := hl
  have hx := X.1
  have hb := X.2.1
  obtain ⟨x, hx0⟩ : ∃ x, (ro, mo) = x := ⟨_, rfl⟩
  rw [hx0] at h
  have hK : x = (ro, mo) := hx0.symm
  unfold F_X9_greatestClique at h
  refine lv_iconst (v := (0 : Int32)) hx hb dX9_greatestClique_0 (by decide) ?_
  refine lv_istore_n (lv' := [(1, .int (0 : Int32)), (0, .ref (κ.1 + a0))]) hx hb dX9_greatestClique_1 rfl hl (by decide) rfl (fun ls hl => ?_)
  refine lv_iconst (v := (1 : Int32)) hx hb dX9_greatestClique_2 (by decide) ?_
  refine lv_istore_n (lv' := [(2, .int (1 : Int32)), (1, .int (0 : Int32)), (0, .ref (κ.1 + a0))]) hx hb dX9_greatestClique_3 rfl hl (by decide) rfl (fun ls hl => ?_)
  exact F_X9_greatestClique_4_ok X hr hlk a0 (0 : Int32) (1 : Int32) M _ h hK H locs ls O (lv_sub hl [2, 1, 0] rfl)
def F_X10_init (a0 : Nat) (M : xM) : Option (xM) :=
(xpI M a0 10 0 (-1 : Int32)).bind fun t1 =>
(some (xnw t1 (24, 40))).bind fun t2 =>
(xpP t2 a0 10 2 t1.1.length).bind fun t3 =>
some t3
set_option maxRecDepth 100000 in
set_option maxHeartbeats 4000000 in
theorem T_X10_init (l : Launch) (κ : xQ) (a0 : Nat) (M : xM) (mo : xM) (h : F_X10_init a0 M = some mo) : xC l yX10_init cX10_init 1 none 2 1 40 κ [.ref (κ.1 + a0)] M none mo := by
  refine xC_of rfl (Nat.le_of_ble_eq_true rfl) fun p e s m args below meth c X hr hlk hnm H locs ls O hl => ?_
  have X : xX p s m args c cX10_init 1 RX10 κ := X
  have hl : lv_has ls 1 [(0, .ref (κ.1 + a0))] := hl
  have hx := X.1
  have hb := X.2.1
  obtain ⟨x, hx0⟩ : ∃ x, mo = x := ⟨_, rfl⟩
  rw [hx0] at h
  have hK : x = mo := hx0.symm
  unfold F_X10_init at h
  refine lv_aload_n hx hb dX10_init_0 rfl (lv_at hl 0 rfl) ?_
  refine xr_objI X lo_X10_3.1 lo_X10_3.2.1 lo_X10_3.2.2 hl.1 (by decide) dX10_init_1 ?_
  refine W.eq (g2 := F0 m 4 ls []) rfl ?_
  refine lv_aload_n hx hb dX10_init_4 rfl (lv_at hl 0 rfl) ?_
  refine lv_iconst (v := (-1 : Int32)) hx hb dX10_init_5 (by decide) ?_
  obtain ⟨t1, ht1, h⟩ := Option.bind_eq_some_iff.mp h
  refine xr_putI X O ht1 fl_X10_9 dX10_init_6 (fun H locs O => ?_)
  refine lv_aload_n hx hb dX10_init_9 rfl (lv_at hl 0 rfl) ?_
  refine lv_bipush (v := (40 : Int32)) hx hb dX10_init_10 (by decide) ?_
  obtain ⟨t2, ht2, h⟩ := Option.bind_eq_some_iff.mp h
  refine xr_newJ (N := 40) X O (xw_t2 50 (by decide +kernel) rfl) (by decide) (by decide) (by decide) (Nat.le_of_ble_eq_true rfl) (Nat.le_of_ble_eq_true rfl) dX10_init_12 (fun H locs O => ?_)
  rw [Option.some.inj ht2] at O
  refine W.eq (g2 := F0 m 14 ls [.ref (κ.1 + t1.1.length), .ref (κ.1 + a0)]) rfl ?_
  obtain ⟨t3, ht3, h⟩ := Option.bind_eq_some_iff.mp h
  refine xr_putP X O ht3 fl_X10_15 (fun _ => ⟨hnm, rfl⟩) dX10_init_14 (fun H locs O => ?_)
  rw [← Option.some.inj h] at hK
  have hK : t3 = mo := hK
  rw [hK] at O
  exact xr_vret X hr hlk O dX10_init_17
def F_X10_lay (a0 : Nat) (a1 : Int32) (a2 : Int32) (M : xM) : Option (xM) :=
(xpI M a0 10 1 a1).bind fun t1 =>
(xpI t1 a0 10 0 a2).bind fun t2 =>
(xgP t2 a0 10 2).bind fun t3 =>
(F_J7_fill_d0a16 t3 (0 : Int64) t2).bind fun t4 =>
some t4
set_option maxRecDepth 100000 in
set_option maxHeartbeats 4000000 in
theorem T_X10_lay (l : Launch) (κ : xQ) (a0 : Nat) (a1 : Int32) (a2 : Int32) (M : xM) (mo : xM) (h : F_X10_lay a0 a1 a2 M = some mo) : xC l yX10_lay cX10_lay 3 none 3 0 0 κ [.ref (κ.1 + a0), .int a1, .int a2] M none mo := by
  refine xC_of rfl (Nat.le_of_ble_eq_true rfl) fun p e s m args below meth c X hr hlk hnm H locs ls O hl => ?_
  have X : xX p s m args c cX10_lay 3 RX10 κ := X
  have hl : lv_has ls 3 [(0, .ref (κ.1 + a0)), (1, .int a1), (2, .int a2)] := hl
  have hx := X.1
  have hb := X.2.1
  obtain ⟨x, hx0⟩ : ∃ x, mo = x := ⟨_, rfl⟩
  rw [hx0] at h
  have hK : x = mo := hx0.symm
  unfold F_X10_lay at h
  refine lv_aload_n hx hb dX10_lay_0 rfl (lv_at hl 0 rfl) ?_
  refine lv_iload_n hx hb dX10_lay_1 rfl (lv_at hl 1 rfl) ?_
  obtain ⟨t1, ht1, h⟩ := Option.bind_eq_some_iff.mp h
  refine xr_putI X O ht1 fl_X10_19 dX10_lay_2 (fun H locs O => ?_)
  refine lv_aload_n hx hb dX10_lay_5 rfl (lv_at hl 0 rfl) ?_
  refine lv_iload_n hx hb dX10_lay_6 rfl (lv_at hl 2 rfl) ?_
  obtain ⟨t2, ht2, h⟩ := Option.bind_eq_some_iff.mp h
  refine xr_putI X O ht2 fl_X10_9 dX10_lay_7 (fun H locs O => ?_)
  refine lv_aload_n hx hb dX10_lay_10 rfl (lv_at hl 0 rfl) ?_
  obtain ⟨t3, ht3, h⟩ := Option.bind_eq_some_iff.mp h
  refine xr_getP X O ht3 fl_X10_15 dX10_lay_11 ?_
  refine lv_lconst (v := (0 : Int64)) hx hb dX10_lay_14 (by decide) ?_
  obtain ⟨t4, ht4, h⟩ := Option.bind_eq_some_iff.mp h
  refine xr_callS (rest := []) X O (T_J7_fill_d0a16 l κ t3 (0 : Int64) t2 _ ht4) lk_X10_22 (Nat.le_of_ble_eq_true rfl) rfl hl.1 rfl (Nat.le_of_ble_eq_true rfl) dX10_lay_15 ⟨Nat.le_of_ble_eq_true rfl, Nat.le_of_ble_eq_true rfl⟩ (fun H locs O => ?_)
  refine W.eq (g2 := F0 m 18 ls []) rfl ?_
  rw [← Option.some.inj h] at hK
  have hK : t4 = mo := hK
  rw [hK] at O
  exact xr_vret X hr hlk O dX10_lay_18
def F_X10_put_89 (v0 : Nat) (v1 : Int32) (M : xM) : Option (Int64 × xM) :=
(xgP M v0 10 2).bind fun t10 =>
(xaJ M t10 v1).bind fun t11 =>
some (t11, M)
def F_X10_put (a0 : Nat) (a1 : Int32) (a2 : Int64) (M : xM) : Option (Int64 × xM) :=
if a1 < 0 then (
some ((-7 : Int64), M))
else (
if a1 < (40 : Int32) then (
(xgI M a0 10 1).bind fun t1 =>
if t1 = (0 : Int32) then (
(xgP M a0 10 2).bind fun t2 =>
(xsJ M t2 a1 a2.toInt32.toInt8.toInt32.toInt64).bind fun t3 =>
F_X10_put_89 a0 a1 t3)
else if t1 = (1 : Int32) then (
(xgP M a0 10 2).bind fun t4 =>
(xsJ M t4 a1 a2.toInt32.toInt16.toInt32.toInt64).bind fun t5 =>
F_X10_put_89 a0 a1 t5)
else if t1 = (2 : Int32) then (
(xgP M a0 10 2).bind fun t6 =>
(xsJ M t6 a1 a2.toInt32.toInt64).bind fun t7 =>
F_X10_put_89 a0 a1 t7)
else (
(xgP M a0 10 2).bind fun t8 =>
(xsJ M t8 a1 a2).bind fun t9 =>
F_X10_put_89 a0 a1 t9))
else (
some ((-7 : Int64), M)))
set_option maxRecDepth 100000 in
set_option maxHeartbeats 4000000 in
theorem F_X10_put_89_ok (X : xX p s m args c cX10_put 4 RX10 κ) (hr : meth.sig.returnType = (some .long)) (hlk : meth.locks = false) {ro : Int64} {mo : xM} (v0 : Nat) (v1 : Int32) (M : xM) (x : Int64 × xM) (h : F_X10_put_89 v0 v1 M = some x) (hK : (fun o => o = (ro, mo)) x) (H : Heap) (locs : List Loc) (ls : Array Slot) (O : xO κ s M H locs) (hl : lv_has ls 4 [(0, .ref (κ.1 + v0)), (1, .int v1)]) : W p l e (xRm 2 0 0) s m args below meth c H locs 0 0 (xQf below args s 0 0 κ (some (.long ro)) mo) (F0 m 89 ls []) := by
  unfold F_X10_put_89 at h
  have hx := X.1
  have hb := X.2.1
  refine lv_aload_n hx hb dX10_put_89 rfl (lv_at hl 0 rfl) ?_
  obtain ⟨t10, ht10, h⟩ := Option.bind_eq_some_iff.mp h
  refine xr_getP X O ht10 fl_X10_15 dX10_put_90 ?_
  refine lv_iload_n hx hb dX10_put_93 rfl (lv_at hl 1 rfl) ?_
  obtain ⟨t11, ht11, h⟩ := Option.bind_eq_some_iff.mp h
  refine xr_aldJ X O ht11 dX10_put_94 ?_
  rw [← Option.some.inj h] at hK
  have hK : (t11, M) = (ro, mo) := hK
  obtain ⟨hK1, hK2⟩ := Prod.mk.inj hK
  rw [hK2] at O
  refine xr_top (w := .long ro) (by rw [hK1]) ?_
  exact xr_lret X hr hlk O dX10_put_95
set_option maxRecDepth 100000 in
set_option maxHeartbeats 4000000 in
theorem T_X10_put (l : Launch) (κ : xQ) (a0 : Nat) (a1 : Int32) (a2 : Int64) (M : xM) (ro : Int64) (mo : xM) (h : F_X10_put a0 a1 a2 M = some (ro, mo)) : xC l yX10_put cX10_put 4 (some .long) 2 0 0 κ [.ref (κ.1 + a0), .int a1, .long a2] M (some (.long ro)) mo := by
  refine xC_of rfl (Nat.le_of_ble_eq_true rfl) fun p e s m args below meth c X hr hlk hnm H locs ls O hl => ?_
  have X : xX p s m args c cX10_put 4 RX10 κ := X
  have hl : lv_has ls 4 [(0, .ref (κ.1 + a0)), (1, .int a1), (2, .long a2)] := hl
  have hx := X.1
  have hb := X.2.1
  obtain ⟨x, hx0⟩ : ∃ x, (ro, mo) = x := ⟨_, rfl⟩
  rw [hx0] at h
  have hK : x = (ro, mo) := hx0.symm
  unfold F_X10_put at h
  refine lv_iload_n hx hb dX10_put_0 rfl (lv_at hl 1 rfl) ?_
  refine lv_if_lt (tgt := 10) hx hb dX10_put_1 (by decide) (fun hc1 => ?_) (fun hc1 => ?_)
  · rw [if_pos hc1] at h
    refine lv_ldc2 (v := (-7 : Int64)) hx hb X.2.2.2.1 (X.2.2.2.2.1 _ ct_X10_28) dX10_put_10 ?_
    rw [← Option.some.inj h] at hK
    have hK : ((-7 : Int64), M) = (ro, mo) := hK
    obtain ⟨hK1, hK2⟩ := Prod.mk.inj hK
    rw [hK2] at O
    refine xr_top (w := .long ro) (by rw [hK1]) ?_
    exact xr_lret X hr hlk O dX10_put_13
  rw [if_neg hc1] at h
  refine lv_iload_n hx hb dX10_put_4 rfl (lv_at hl 1 rfl) ?_
  refine lv_bipush (v := (40 : Int32)) hx hb dX10_put_5 (by decide) ?_
  refine lv_icmp_lt (tgt := 14) hx hb dX10_put_7 (by decide) (fun hc7 => ?_) (fun hc7 => ?_)
  · rw [if_pos hc7] at h
    refine lv_aload_n hx hb dX10_put_14 rfl (lv_at hl 0 rfl) ?_
    obtain ⟨t1, ht1, h⟩ := Option.bind_eq_some_iff.mp h
    refine xr_getI X O ht1 fl_X10_19 (Or.inl rfl) dX10_put_15 ?_
    by_cases hs18_0 : t1 = (0 : Int32)
    · rw [if_pos hs18_0] at h
      refine xr_tabIn (tgt := 44) (off := 26) X dX10_put_18 hs18_0 (by decide +kernel) (by decide +kernel) (by decide +kernel) (by decide) ?_
      refine lv_aload_n hx hb dX10_put_44 rfl (lv_at hl 0 rfl) ?_
      obtain ⟨t2, ht2, h⟩ := Option.bind_eq_some_iff.mp h
      refine xr_getP X O ht2 fl_X10_15 dX10_put_45 ?_
      refine lv_iload_n hx hb dX10_put_48 rfl (lv_at hl 1 rfl) ?_
      refine lv_lload_n hx hb dX10_put_49 rfl (lv_at hl 2 rfl) ?_
      refine lv_l2i (v := a2.toInt32) hx hb dX10_put_50 rfl ?_
      refine lv_i2b (v := a2.toInt32.toInt8.toInt32) hx hb dX10_put_51 rfl ?_
      refine lv_i2l (v := a2.toInt32.toInt8.toInt32.toInt64) hx hb dX10_put_52 rfl ?_
      obtain ⟨t3, ht3, h⟩ := Option.bind_eq_some_iff.mp h
      refine xr_stJ X O ht3 dX10_put_53 (fun H locs O => ?_)
      refine lv_goto (tgt := 89) hx hb dX10_put_54 (by decide) ?_
      exact F_X10_put_89_ok X hr hlk a0 a1 t3 _ h hK H locs ls O (lv_sub hl [0, 1] rfl)
    rw [if_neg hs18_0] at h
    by_cases hs18_1 : t1 = (1 : Int32)
    · rw [if_pos hs18_1] at h
      refine xr_tabIn (tgt := 57) (off := 39) X dX10_put_18 hs18_1 (by decide +kernel) (by decide +kernel) (by decide +kernel) (by decide) ?_
      refine lv_aload_n hx hb dX10_put_57 rfl (lv_at hl 0 rfl) ?_
      obtain ⟨t4, ht4, h⟩ := Option.bind_eq_some_iff.mp h
      refine xr_getP X O ht4 fl_X10_15 dX10_put_58 ?_
      refine lv_iload_n hx hb dX10_put_61 rfl (lv_at hl 1 rfl) ?_
      refine lv_lload_n hx hb dX10_put_62 rfl (lv_at hl 2 rfl) ?_
      refine lv_l2i (v := a2.toInt32) hx hb dX10_put_63 rfl ?_
      refine lv_i2s (v := a2.toInt32.toInt16.toInt32) hx hb dX10_put_64 rfl ?_
      refine lv_i2l (v := a2.toInt32.toInt16.toInt32.toInt64) hx hb dX10_put_65 rfl ?_
      obtain ⟨t5, ht5, h⟩ := Option.bind_eq_some_iff.mp h
      refine xr_stJ X O ht5 dX10_put_66 (fun H locs O => ?_)
      refine lv_goto (tgt := 89) hx hb dX10_put_67 (by decide) ?_
      exact F_X10_put_89_ok X hr hlk a0 a1 t5 _ h hK H locs ls O (lv_sub hl [0, 1] rfl)
    rw [if_neg hs18_1] at h
    by_cases hs18_2 : t1 = (2 : Int32)
    · rw [if_pos hs18_2] at h
      refine xr_tabIn (tgt := 70) (off := 52) X dX10_put_18 hs18_2 (by decide +kernel) (by decide +kernel) (by decide +kernel) (by decide) ?_
      refine lv_aload_n hx hb dX10_put_70 rfl (lv_at hl 0 rfl) ?_
      obtain ⟨t6, ht6, h⟩ := Option.bind_eq_some_iff.mp h
      refine xr_getP X O ht6 fl_X10_15 dX10_put_71 ?_
      refine lv_iload_n hx hb dX10_put_74 rfl (lv_at hl 1 rfl) ?_
      refine lv_lload_n hx hb dX10_put_75 rfl (lv_at hl 2 rfl) ?_
      refine lv_l2i (v := a2.toInt32) hx hb dX10_put_76 rfl ?_
      refine lv_i2l (v := a2.toInt32.toInt64) hx hb dX10_put_77 rfl ?_
      obtain ⟨t7, ht7, h⟩ := Option.bind_eq_some_iff.mp h
      refine xr_stJ X O ht7 dX10_put_78 (fun H locs O => ?_)
      refine lv_goto (tgt := 89) hx hb dX10_put_79 (by decide) ?_
      exact F_X10_put_89_ok X hr hlk a0 a1 t7 _ h hK H locs ls O (lv_sub hl [0, 1] rfl)
    rw [if_neg hs18_2] at h
    have ihs18_0 := xr_nei (k := 0) (by decide) hs18_0
    have ihs18_1 := xr_nei (k := 1) (by decide) hs18_1
    have ihs18_2 := xr_nei (k := 2) (by decide) hs18_2
    refine lv_tableOut (tgt := 82) hx hb dX10_put_18 (by omega) (by decide) ?_
    refine lv_aload_n hx hb dX10_put_82 rfl (lv_at hl 0 rfl) ?_
    obtain ⟨t8, ht8, h⟩ := Option.bind_eq_some_iff.mp h
    refine xr_getP X O ht8 fl_X10_15 dX10_put_83 ?_
    refine lv_iload_n hx hb dX10_put_86 rfl (lv_at hl 1 rfl) ?_
    refine lv_lload_n hx hb dX10_put_87 rfl (lv_at hl 2 rfl) ?_
    obtain ⟨t9, ht9, h⟩ := Option.bind_eq_some_iff.mp h
    refine xr_stJ X O ht9 dX10_put_88 (fun H locs O => ?_)
    exact F_X10_put_89_ok X hr hlk a0 a1 t9 _ h hK H locs ls O (lv_sub hl [0, 1] rfl)
  rw [if_neg hc7] at h
  refine lv_ldc2 (v := (-7 : Int64)) hx hb X.2.2.2.1 (X.2.2.2.2.1 _ ct_X10_28) dX10_put_10 ?_
  rw [← Option.some.inj h] at hK
  have hK : ((-7 : Int64), M) = (ro, mo) := hK
  obtain ⟨hK1, hK2⟩ := Prod.mk.inj hK
  rw [hK2] at O
  refine xr_top (w := .long ro) (by rw [hK1]) ?_
  exact xr_lret X hr hlk O dX10_put_13
def F_X11_afterPut (a0 : Int32) (a1 : Int32) (M : xM) : Option (Int32 × xM) :=
some ((a0 &&& (((((1 : Int32) <<< (a1 &&& 31)) ||| ((1 : Int32) <<< ((a1 + (1 : Int32)) &&& 31))) ||| (((1 : Int32) <<< (a1 &&& 31)) >>> ((1 : Int32) &&& 31))) ^^^ (-1 : Int32))), M)
set_option maxRecDepth 100000 in
set_option maxHeartbeats 4000000 in
theorem T_X11_afterPut (l : Launch) (κ : xQ) (a0 : Int32) (a1 : Int32) (M : xM) (ro : Int32) (mo : xM) (h : F_X11_afterPut a0 a1 M = some (ro, mo)) : xC l yX11_afterPut cX11_afterPut 2 (some .int) 2 0 0 κ [.int a0, .int a1] M (some (.int ro)) mo := by
  refine xC_of rfl (Nat.le_of_ble_eq_true rfl) fun p e s m args below meth c X hr hlk hnm H locs ls O hl => ?_
  have X : xX p s m args c cX11_afterPut 2 RX11 κ := X
  have hl : lv_has ls 2 [(0, .int a0), (1, .int a1)] := hl
  have hx := X.1
  have hb := X.2.1
  obtain ⟨x, hx0⟩ : ∃ x, (ro, mo) = x := ⟨_, rfl⟩
  rw [hx0] at h
  have hK : x = (ro, mo) := hx0.symm
  unfold F_X11_afterPut at h
  refine lv_iload_n hx hb dX11_afterPut_0 rfl (lv_at hl 0 rfl) ?_
  refine lv_iconst (v := (1 : Int32)) hx hb dX11_afterPut_1 (by decide) ?_
  refine lv_iload_n hx hb dX11_afterPut_2 rfl (lv_at hl 1 rfl) ?_
  refine lv_ishl hx hb dX11_afterPut_3 ?_
  refine lv_iconst (v := (1 : Int32)) hx hb dX11_afterPut_4 (by decide) ?_
  refine lv_iload_n hx hb dX11_afterPut_5 rfl (lv_at hl 1 rfl) ?_
  refine lv_iconst (v := (1 : Int32)) hx hb dX11_afterPut_6 (by decide) ?_
  refine lv_iadd hx hb dX11_afterPut_7 ?_
  refine lv_ishl hx hb dX11_afterPut_8 ?_
  refine lv_ior hx hb dX11_afterPut_9 ?_
  refine lv_iconst (v := (1 : Int32)) hx hb dX11_afterPut_10 (by decide) ?_
  refine lv_iload_n hx hb dX11_afterPut_11 rfl (lv_at hl 1 rfl) ?_
  refine lv_ishl hx hb dX11_afterPut_12 ?_
  refine lv_iconst (v := (1 : Int32)) hx hb dX11_afterPut_13 (by decide) ?_
  refine lv_ishr hx hb dX11_afterPut_14 ?_
  refine lv_ior hx hb dX11_afterPut_15 ?_
  refine lv_iconst (v := (-1 : Int32)) hx hb dX11_afterPut_16 (by decide) ?_
  refine lv_ixor hx hb dX11_afterPut_17 ?_
  refine lv_iand hx hb dX11_afterPut_18 ?_
  rw [← Option.some.inj h] at hK
  have hK : ((a0 &&& (((((1 : Int32) <<< (a1 &&& 31)) ||| ((1 : Int32) <<< ((a1 + (1 : Int32)) &&& 31))) ||| (((1 : Int32) <<< (a1 &&& 31)) >>> ((1 : Int32) &&& 31))) ^^^ (-1 : Int32))), M) = (ro, mo) := hK
  obtain ⟨hK1, hK2⟩ := Prod.mk.inj hK
  rw [hK2] at O
  refine xr_top (w := .int ro) (by rw [hK1]) ?_
  exact xr_iret X hr hlk O dX11_afterPut_19
def F_J6_numberOfTrailingZeros_0f7a4_62 (v0 : Int32) (v1 : Int32) (M : xM) : Option (Int32 × xM) :=
if v0 ≤ (4 : Int32) then (
some ((v1 + (v0.toUInt32 >>> ((1 : Int32).toUInt32 &&& Int32.toUInt32 31)).toInt32), M))
else (
(some ((v0.toUInt32 >>> ((2 : Int32).toUInt32 &&& Int32.toUInt32 31)).toInt32)).bind fun t5 =>
some (((v1 + 2) + (t5.toUInt32 >>> ((1 : Int32).toUInt32 &&& Int32.toUInt32 31)).toInt32), M))
def F_J6_numberOfTrailingZeros_0f7a4_49 (v0 : Int32) (v1 : Int32) (M : xM) : Option (Int32 × xM) :=
if v0 ≤ (16 : Int32) then (
F_J6_numberOfTrailingZeros_0f7a4_62 v0 v1 M)
else (
(some ((v0.toUInt32 >>> ((4 : Int32).toUInt32 &&& Int32.toUInt32 31)).toInt32)).bind fun t4 =>
F_J6_numberOfTrailingZeros_0f7a4_62 t4 (v1 + 4) M)
def F_J6_numberOfTrailingZeros_0f7a4_34 (v0 : Int32) (v1 : Int32) (M : xM) : Option (Int32 × xM) :=
if v0 ≤ (256 : Int32) then (
F_J6_numberOfTrailingZeros_0f7a4_49 v0 v1 M)
else (
(some ((v0.toUInt32 >>> ((8 : Int32).toUInt32 &&& Int32.toUInt32 31)).toInt32)).bind fun t3 =>
F_J6_numberOfTrailingZeros_0f7a4_49 t3 (v1 + 8) M)
def F_J6_numberOfTrailingZeros_0f7a4 (a0 : Int32) (M : xM) : Option (Int32 × xM) :=
(some (((a0 ^^^ (-1 : Int32)) &&& (a0 - (1 : Int32))))).bind fun t1 =>
if 0 < t1 then (
if t1 ≤ (65536 : Int32) then (
F_J6_numberOfTrailingZeros_0f7a4_34 t1 (1 : Int32) M)
else (
(some ((t1.toUInt32 >>> ((16 : Int32).toUInt32 &&& Int32.toUInt32 31)).toInt32)).bind fun t2 =>
F_J6_numberOfTrailingZeros_0f7a4_34 t2 ((1 : Int32) + 16) M))
else (
some ((t1 &&& (32 : Int32)), M))
set_option maxRecDepth 100000 in
set_option maxHeartbeats 4000000 in
theorem F_J6_numberOfTrailingZeros_0f7a4_62_ok (X : xX p s m args c cJ6_numberOfTrailingZeros_0f7a4 2 RJ6 κ) (hr : meth.sig.returnType = (some .int)) (hlk : meth.locks = false) {ro : Int32} {mo : xM} (v0 : Int32) (v1 : Int32) (M : xM) (x : Int32 × xM) (h : F_J6_numberOfTrailingZeros_0f7a4_62 v0 v1 M = some x) (hK : (fun o => o = (ro, mo)) x) (H : Heap) (locs : List Loc) (ls : Array Slot) (O : xO κ s M H locs) (hl : lv_has ls 2 [(0, .int v0), (1, .int v1)]) : W p l e (xRm 2 0 0) s m args below meth c H locs 0 0 (xQf below args s 0 0 κ (some (.int ro)) mo) (F0 m 62 ls []) := by
  unfold F_J6_numberOfTrailingZeros_0f7a4_62 at h
  have hx := X.1
  have hb := X.2.1
  refine lv_iload_n hx hb dJ6_numberOfTrailingZeros_0f7a4_62 rfl (lv_at hl 0 rfl) ?_
  refine lv_iconst (v := (4 : Int32)) hx hb dJ6_numberOfTrailingZeros_0f7a4_63 (by decide) ?_
  refine lv_icmp_le (tgt := 74) hx hb dJ6_numberOfTrailingZeros_0f7a4_64 (by decide) (fun hc64 => ?_) (fun hc64 => ?_)
  · rw [if_pos hc64] at h
    refine lv_iload_n hx hb dJ6_numberOfTrailingZeros_0f7a4_74 rfl (lv_at hl 1 rfl) ?_
    refine lv_iload_n hx hb dJ6_numberOfTrailingZeros_0f7a4_75 rfl (lv_at hl 0 rfl) ?_
    refine lv_iconst (v := (1 : Int32)) hx hb dJ6_numberOfTrailingZeros_0f7a4_76 (by decide) ?_
    refine lv_iushr (v := (v0.toUInt32 >>> ((1 : Int32).toUInt32 &&& Int32.toUInt32 31)).toInt32) hx hb dJ6_numberOfTrailingZeros_0f7a4_77 rfl ?_
    refine lv_iadd hx hb dJ6_numberOfTrailingZeros_0f7a4_78 ?_
    rw [← Option.some.inj h] at hK
    have hK : ((v1 + (v0.toUInt32 >>> ((1 : Int32).toUInt32 &&& Int32.toUInt32 31)).toInt32), M) = (ro, mo) := hK
    obtain ⟨hK1, hK2⟩ := Prod.mk.inj hK
    rw [hK2] at O
    refine xr_top (w := .int ro) (by rw [hK1]) ?_
    exact xr_iret X hr hlk O dJ6_numberOfTrailingZeros_0f7a4_79
  rw [if_neg hc64] at h
  refine lv_iinc (v := (v1 + 2)) (lv' := [(1, .int (v1 + 2)), (0, .int v0)]) hx hb dJ6_numberOfTrailingZeros_0f7a4_67 hl (k := 1) rfl rfl (by decide) rfl (fun ls hl => ?_)
  refine lv_iload_n hx hb dJ6_numberOfTrailingZeros_0f7a4_70 rfl (lv_at hl 1 rfl) ?_
  refine lv_iconst (v := (2 : Int32)) hx hb dJ6_numberOfTrailingZeros_0f7a4_71 (by decide) ?_
  refine lv_iushr (v := (v0.toUInt32 >>> ((2 : Int32).toUInt32 &&& Int32.toUInt32 31)).toInt32) hx hb dJ6_numberOfTrailingZeros_0f7a4_72 rfl ?_
  obtain ⟨t5, ht5, h⟩ := Option.bind_eq_some_iff.mp h
  refine xr_top (w := .int t5) (by rw [Option.some.inj ht5]) ?_
  refine lv_istore_n (lv' := [(0, .int t5), (1, .int (v1 + 2))]) hx hb dJ6_numberOfTrailingZeros_0f7a4_73 rfl hl (by decide) rfl (fun ls hl => ?_)
  refine lv_iload_n hx hb dJ6_numberOfTrailingZeros_0f7a4_74 rfl (lv_at hl 1 rfl) ?_
  refine lv_iload_n hx hb dJ6_numberOfTrailingZeros_0f7a4_75 rfl (lv_at hl 0 rfl) ?_
  refine lv_iconst (v := (1 : Int32)) hx hb dJ6_numberOfTrailingZeros_0f7a4_76 (by decide) ?_
  refine lv_iushr (v := (t5.toUInt32 >>> ((1 : Int32).toUInt32 &&& Int32.toUInt32 31)).toInt32) hx hb dJ6_numberOfTrailingZeros_0f7a4_77 rfl ?_
  refine lv_iadd hx hb dJ6_numberOfTrailingZeros_0f7a4_78 ?_
  rw [← Option.some.inj h] at hK
  have hK : (((v1 + 2) + (t5.toUInt32 >>> ((1 : Int32).toUInt32 &&& Int32.toUInt32 31)).toInt32), M) = (ro, mo) := hK
  obtain ⟨hK1, hK2⟩ := Prod.mk.inj hK
  rw [hK2] at O
  refine xr_top (w := .int ro) (by rw [hK1]) ?_
  exact xr_iret X hr hlk O dJ6_numberOfTrailingZeros_0f7a4_79
set_option maxRecDepth 100000 in
set_option maxHeartbeats 4000000 in
theorem F_J6_numberOfTrailingZeros_0f7a4_49_ok (X : xX p s m args c cJ6_numberOfTrailingZeros_0f7a4 2 RJ6 κ) (hr : meth.sig.returnType = (some .int)) (hlk : meth.locks = false) {ro : Int32} {mo : xM} (v0 : Int32) (v1 : Int32) (M : xM) (x : Int32 × xM) (h : F_J6_numberOfTrailingZeros_0f7a4_49 v0 v1 M = some x) (hK : (fun o => o = (ro, mo)) x) (H : Heap) (locs : List Loc) (ls : Array Slot) (O : xO κ s M H locs) (hl : lv_has ls 2 [(0, .int v0), (1, .int v1)]) : W p l e (xRm 2 0 0) s m args below meth c H locs 0 0 (xQf below args s 0 0 κ (some (.int ro)) mo) (F0 m 49 ls []) := by
  unfold F_J6_numberOfTrailingZeros_0f7a4_49 at h
  have hx := X.1
  have hb := X.2.1
  refine lv_iload_n hx hb dJ6_numberOfTrailingZeros_0f7a4_49 rfl (lv_at hl 0 rfl) ?_
  refine lv_bipush (v := (16 : Int32)) hx hb dJ6_numberOfTrailingZeros_0f7a4_50 (by decide) ?_
  refine lv_icmp_le (tgt := 62) hx hb dJ6_numberOfTrailingZeros_0f7a4_52 (by decide) (fun hc52 => ?_) (fun hc52 => ?_)
  · rw [if_pos hc52] at h
    exact F_J6_numberOfTrailingZeros_0f7a4_62_ok X hr hlk v0 v1 M _ h hK H locs ls O (lv_sub hl [0, 1] rfl)
  rw [if_neg hc52] at h
  refine lv_iinc (v := (v1 + 4)) (lv' := [(1, .int (v1 + 4)), (0, .int v0)]) hx hb dJ6_numberOfTrailingZeros_0f7a4_55 hl (k := 1) rfl rfl (by decide) rfl (fun ls hl => ?_)
  refine lv_iload_n hx hb dJ6_numberOfTrailingZeros_0f7a4_58 rfl (lv_at hl 1 rfl) ?_
  refine lv_iconst (v := (4 : Int32)) hx hb dJ6_numberOfTrailingZeros_0f7a4_59 (by decide) ?_
  refine lv_iushr (v := (v0.toUInt32 >>> ((4 : Int32).toUInt32 &&& Int32.toUInt32 31)).toInt32) hx hb dJ6_numberOfTrailingZeros_0f7a4_60 rfl ?_
  obtain ⟨t4, ht4, h⟩ := Option.bind_eq_some_iff.mp h
  refine xr_top (w := .int t4) (by rw [Option.some.inj ht4]) ?_
  refine lv_istore_n (lv' := [(0, .int t4), (1, .int (v1 + 4))]) hx hb dJ6_numberOfTrailingZeros_0f7a4_61 rfl hl (by decide) rfl (fun ls hl => ?_)
  exact F_J6_numberOfTrailingZeros_0f7a4_62_ok X hr hlk t4 (v1 + 4) M _ h hK H locs ls O (lv_sub hl [0, 1] rfl)
set_option maxRecDepth 100000 in
set_option maxHeartbeats 4000000 in
theorem F_J6_numberOfTrailingZeros_0f7a4_34_ok (X : xX p s m args c cJ6_numberOfTrailingZeros_0f7a4 2 RJ6 κ) (hr : meth.sig.returnType = (some .int)) (hlk : meth.locks = false) {ro : Int32} {mo : xM} (v0 : Int32) (v1 : Int32) (M : xM) (x : Int32 × xM) (h : F_J6_numberOfTrailingZeros_0f7a4_34 v0 v1 M = some x) (hK : (fun o => o = (ro, mo)) x) (H : Heap) (locs : List Loc) (ls : Array Slot) (O : xO κ s M H locs) (hl : lv_has ls 2 [(0, .int v0), (1, .int v1)]) : W p l e (xRm 2 0 0) s m args below meth c H locs 0 0 (xQf below args s 0 0 κ (some (.int ro)) mo) (F0 m 34 ls []) := by
  unfold F_J6_numberOfTrailingZeros_0f7a4_34 at h
  have hx := X.1
  have hb := X.2.1
  refine lv_iload_n hx hb dJ6_numberOfTrailingZeros_0f7a4_34 rfl (lv_at hl 0 rfl) ?_
  refine lv_sipush (v := (256 : Int32)) hx hb dJ6_numberOfTrailingZeros_0f7a4_35 (by decide) ?_
  refine lv_icmp_le (tgt := 49) hx hb dJ6_numberOfTrailingZeros_0f7a4_38 (by decide) (fun hc38 => ?_) (fun hc38 => ?_)
  · rw [if_pos hc38] at h
    exact F_J6_numberOfTrailingZeros_0f7a4_49_ok X hr hlk v0 v1 M _ h hK H locs ls O (lv_sub hl [0, 1] rfl)
  rw [if_neg hc38] at h
  refine lv_iinc (v := (v1 + 8)) (lv' := [(1, .int (v1 + 8)), (0, .int v0)]) hx hb dJ6_numberOfTrailingZeros_0f7a4_41 hl (k := 1) rfl rfl (by decide) rfl (fun ls hl => ?_)
  refine lv_iload_n hx hb dJ6_numberOfTrailingZeros_0f7a4_44 rfl (lv_at hl 1 rfl) ?_
  refine lv_bipush (v := (8 : Int32)) hx hb dJ6_numberOfTrailingZeros_0f7a4_45 (by decide) ?_
  refine lv_iushr (v := (v0.toUInt32 >>> ((8 : Int32).toUInt32 &&& Int32.toUInt32 31)).toInt32) hx hb dJ6_numberOfTrailingZeros_0f7a4_47 rfl ?_
  obtain ⟨t3, ht3, h⟩ := Option.bind_eq_some_iff.mp h
  refine xr_top (w := .int t3) (by rw [Option.some.inj ht3]) ?_
  refine lv_istore_n (lv' := [(0, .int t3), (1, .int (v1 + 8))]) hx hb dJ6_numberOfTrailingZeros_0f7a4_48 rfl hl (by decide) rfl (fun ls hl => ?_)
  exact F_J6_numberOfTrailingZeros_0f7a4_49_ok X hr hlk t3 (v1 + 8) M _ h hK H locs ls O (lv_sub hl [0, 1] rfl)
set_option maxRecDepth 100000 in
set_option maxHeartbeats 4000000 in
theorem T_J6_numberOfTrailingZeros_0f7a4 (l : Launch) (κ : xQ) (a0 : Int32) (M : xM) (ro : Int32) (mo : xM) (h : F_J6_numberOfTrailingZeros_0f7a4 a0 M = some (ro, mo)) : xC l yJ6_numberOfTrailingZeros_0f7a4 cJ6_numberOfTrailingZeros_0f7a4 2 (some .int) 2 0 0 κ [.int a0] M (some (.int ro)) mo := by
  refine xC_ofF (by decide +kernel) (Nat.le_of_ble_eq_true rfl) fun p e s m args below meth c X hr hlk hnm H locs ls O hl => ?_
  have X : xX p s m args c cJ6_numberOfTrailingZeros_0f7a4 2 RJ6 κ := X
  have hl : lv_has ls 2 [(0, .int a0)] := hl
  have hx := X.1
  have hb := X.2.1
  obtain ⟨x, hx0⟩ : ∃ x, (ro, mo) = x := ⟨_, rfl⟩
  rw [hx0] at h
  have hK : x = (ro, mo) := hx0.symm
  unfold F_J6_numberOfTrailingZeros_0f7a4 at h
  refine lv_iload_n hx hb dJ6_numberOfTrailingZeros_0f7a4_0 rfl (lv_at hl 0 rfl) ?_
  refine lv_iconst (v := (-1 : Int32)) hx hb dJ6_numberOfTrailingZeros_0f7a4_1 (by decide) ?_
  refine lv_ixor hx hb dJ6_numberOfTrailingZeros_0f7a4_2 ?_
  refine lv_iload_n hx hb dJ6_numberOfTrailingZeros_0f7a4_3 rfl (lv_at hl 0 rfl) ?_
  refine lv_iconst (v := (1 : Int32)) hx hb dJ6_numberOfTrailingZeros_0f7a4_4 (by decide) ?_
  refine lv_isub hx hb dJ6_numberOfTrailingZeros_0f7a4_5 ?_
  refine lv_iand hx hb dJ6_numberOfTrailingZeros_0f7a4_6 ?_
  obtain ⟨t1, ht1, h⟩ := Option.bind_eq_some_iff.mp h
  refine xr_top (w := .int t1) (by rw [Option.some.inj ht1]) ?_
  refine lv_istore_n (lv' := [(0, .int t1)]) hx hb dJ6_numberOfTrailingZeros_0f7a4_7 rfl hl (by decide) rfl (fun ls hl => ?_)
  refine lv_iload_n hx hb dJ6_numberOfTrailingZeros_0f7a4_8 rfl (lv_at hl 0 rfl) ?_
  refine lv_if_gt (tgt := 17) hx hb dJ6_numberOfTrailingZeros_0f7a4_9 (by decide) (fun hc9 => ?_) (fun hc9 => ?_)
  · rw [if_pos hc9] at h
    refine lv_iconst (v := (1 : Int32)) hx hb dJ6_numberOfTrailingZeros_0f7a4_17 (by decide) ?_
    refine lv_istore_n (lv' := [(1, .int (1 : Int32)), (0, .int t1)]) hx hb dJ6_numberOfTrailingZeros_0f7a4_18 rfl hl (by decide) rfl (fun ls hl => ?_)
    refine lv_iload_n hx hb dJ6_numberOfTrailingZeros_0f7a4_19 rfl (lv_at hl 1 rfl) ?_
    refine lv_ldcw (v := (65536 : Int32)) hx hb X.2.2.2.1 (X.2.2.2.2.1 _ ct_J6_264) dJ6_numberOfTrailingZeros_0f7a4_20 ?_
    refine lv_icmp_le (tgt := 34) hx hb dJ6_numberOfTrailingZeros_0f7a4_23 (by decide) (fun hc23 => ?_) (fun hc23 => ?_)
    · rw [if_pos hc23] at h
      exact F_J6_numberOfTrailingZeros_0f7a4_34_ok X hr hlk t1 (1 : Int32) M _ h hK H locs ls O (lv_sub hl [1, 0] rfl)
    rw [if_neg hc23] at h
    refine lv_iinc (v := ((1 : Int32) + 16)) (lv' := [(1, .int ((1 : Int32) + 16)), (0, .int t1)]) hx hb dJ6_numberOfTrailingZeros_0f7a4_26 hl (k := 0) rfl rfl (by decide) rfl (fun ls hl => ?_)
    refine lv_iload_n hx hb dJ6_numberOfTrailingZeros_0f7a4_29 rfl (lv_at hl 1 rfl) ?_
    refine lv_bipush (v := (16 : Int32)) hx hb dJ6_numberOfTrailingZeros_0f7a4_30 (by decide) ?_
    refine lv_iushr (v := (t1.toUInt32 >>> ((16 : Int32).toUInt32 &&& Int32.toUInt32 31)).toInt32) hx hb dJ6_numberOfTrailingZeros_0f7a4_32 rfl ?_
    obtain ⟨t2, ht2, h⟩ := Option.bind_eq_some_iff.mp h
    refine xr_top (w := .int t2) (by rw [Option.some.inj ht2]) ?_
    refine lv_istore_n (lv' := [(0, .int t2), (1, .int ((1 : Int32) + 16))]) hx hb dJ6_numberOfTrailingZeros_0f7a4_33 rfl hl (by decide) rfl (fun ls hl => ?_)
    exact F_J6_numberOfTrailingZeros_0f7a4_34_ok X hr hlk t2 ((1 : Int32) + 16) M _ h hK H locs ls O (lv_sub hl [0, 1] rfl)
  rw [if_neg hc9] at h
  refine lv_iload_n hx hb dJ6_numberOfTrailingZeros_0f7a4_12 rfl (lv_at hl 0 rfl) ?_
  refine lv_bipush (v := (32 : Int32)) hx hb dJ6_numberOfTrailingZeros_0f7a4_13 (by decide) ?_
  refine lv_iand hx hb dJ6_numberOfTrailingZeros_0f7a4_15 ?_
  rw [← Option.some.inj h] at hK
  have hK : ((t1 &&& (32 : Int32)), M) = (ro, mo) := hK
  obtain ⟨hK1, hK2⟩ := Prod.mk.inj hK
  rw [hK2] at O
  refine xr_top (w := .int ro) (by rw [hK1]) ?_
  exact xr_iret X hr hlk O dJ6_numberOfTrailingZeros_0f7a4_16
def F_X11_rowWorths_42 (v0 : Nat) (v1 : Int32) (v2 : Int32) (v3 : Int32) (M : xM) : Option ((Int32 × Int32 × xM) ⊕ ((Int32 × xM) ⊕ (Nat × xM))) :=
some (.inl (v2, (v3 + 1), M))
def F_X11_rowWorths_48 (v0 : Nat) (v1 : Int32) (v2 : Int32) (M : xM) : Option ((Int32 × xM) ⊕ (Nat × xM)) :=
(F_J6_numberOfTrailingZeros_0f7a4 (v2 ^^^ (-1 : Int32)) M).bind fun t5 =>
(xsI t5.2 v0 v1 t5.1).bind fun t6 =>
some (.inl ((v1 + 1), t6))
def F_X11_rowWorths_17b (v0 : Nat) (v1 : Int32) : (Int32 × Int32 × xM) → Option ((Int32 × Int32 × xM) ⊕ ((Int32 × xM) ⊕ (Nat × xM))) := fun ⟨v2, v3, M⟩ =>
if (5 : Int32) ≤ v3 then (
(F_X11_rowWorths_48 v0 v1 v2 M).map Sum.inr)
else (
if ((v1 >>> (v3 &&& 31)) &&& (1 : Int32)) = 0 then (
F_X11_rowWorths_42 v0 v1 v2 v3 M)
else (
(F_X11_afterPut v1 v3 M).bind fun t2 =>
(xaI t2.2 20 v0 t2.1).bind fun t3 =>
(some ((v2 ||| ((1 : Int32) <<< (t3 &&& 31))))).bind fun t4 =>
F_X11_rowWorths_42 v0 v1 t4 v3 t2.2))
def F_X11_rowWorths_17 (v0 : Nat) (v1 : Int32) (v2 : Int32) (v3 : Int32) (M : xM) : Option ((Int32 × xM) ⊕ (Nat × xM)) := xit (F_X11_rowWorths_17b v0 v1) xFU (v2, v3, M)
def F_X11_rowWorths_63 (v0 : Nat) (M : xM) : Option (Nat × xM) :=
some (v0, M)
def F_X11_rowWorths_7b (v0 : Nat) : (Int32 × xM) → Option ((Int32 × xM) ⊕ (Nat × xM)) := fun ⟨v1, M⟩ =>
if (32 : Int32) ≤ v1 then (
(F_X11_rowWorths_63 v0 M).map Sum.inr)
else (
F_X11_rowWorths_17 v0 v1 (0 : Int32) (0 : Int32) M)
def F_X11_rowWorths_7 (v0 : Nat) (v1 : Int32) (M : xM) : Option (Nat × xM) := xit (F_X11_rowWorths_7b v0) xFU (v1, M)
def F_X11_rowWorths (M : xM) : Option (Nat × xM) :=
(some (xnw M (20, 32))).bind fun t1 =>
F_X11_rowWorths_7 M.1.length (1 : Int32) t1
set_option maxRecDepth 100000 in
set_option maxHeartbeats 4000000 in
theorem F_X11_rowWorths_42_ok (X : xX p s m args c cX11_rowWorths 4 RX11 κ) (hr : meth.sig.returnType = (some (.array .int))) (hlk : meth.locks = false) {ro : Nat} {mo : xM} (v0 : Nat) (v1 : Int32) (v2 : Int32) (v3 : Int32) {W7 : Int32 × xM → Prop} (hW7 : ∀ (v1 : Int32) (M : xM), W7 (v1, M) → ∀ (H : Heap) (locs : List Loc) (ls : Array Slot), xO κ s M H locs → lv_has ls 4 [(0, .ref (κ.1 + v0)), (1, .int v1)] → W p l e (xRm 3 1 32) s m args below meth c H locs 1 32 (xQf below args s 1 32 κ (some (.ref (κ.1 + ro))) mo) (F0 m 7 ls [])) {W17 : Int32 × Int32 × xM → Prop} (hW17 : ∀ (v2 : Int32) (v3 : Int32) (M : xM), W17 (v2, v3, M) → ∀ (H : Heap) (locs : List Loc) (ls : Array Slot), xO κ s M H locs → lv_has ls 4 [(0, .ref (κ.1 + v0)), (1, .int v1), (2, .int v2), (3, .int v3)] → W p l e (xRm 3 1 32) s m args below meth c H locs 1 32 (xQf below args s 1 32 κ (some (.ref (κ.1 + ro))) mo) (F0 m 17 ls [])) (M : xM) (x : (Int32 × Int32 × xM) ⊕ ((Int32 × xM) ⊕ (Nat × xM))) (h : F_X11_rowWorths_42 v0 v1 v2 v3 M = some x) (hK : (xKl W17 (xKl W7 (fun o => o = (ro, mo)))) x) (H : Heap) (locs : List Loc) (ls : Array Slot) (O : xO κ s M H locs) (hl : lv_has ls 4 [(0, .ref (κ.1 + v0)), (1, .int v1), (2, .int v2), (3, .int v3)]) : W p l e (xRm 3 1 32) s m args below meth c H locs 1 32 (xQf below args s 1 32 κ (some (.ref (κ.1 + ro))) mo) (F0 m 42 ls []) := by
  unfold F_X11_rowWorths_42 at h
  have hx := X.1
  have hb := X.2.1
  refine lv_iinc (v := (v3 + 1)) (lv' := [(3, .int (v3 + 1)), (0, .ref (κ.1 + v0)), (1, .int v1), (2, .int v2)]) hx hb dX11_rowWorths_42 hl (k := 3) rfl rfl (by decide) rfl (fun ls hl => ?_)
  refine lv_goto (tgt := 17) hx hb dX11_rowWorths_45 (by decide) ?_
  rw [← Option.some.inj h] at hK
  exact hW17 v2 (v3 + 1) M hK H locs ls O (lv_sub hl [1, 2, 3, 0] rfl)
set_option maxRecDepth 100000 in
set_option maxHeartbeats 4000000 in
theorem F_X11_rowWorths_48_ok (X : xX p s m args c cX11_rowWorths 4 RX11 κ) (hr : meth.sig.returnType = (some (.array .int))) (hlk : meth.locks = false) {ro : Nat} {mo : xM} (v0 : Nat) (v1 : Int32) (v2 : Int32) {W7 : Int32 × xM → Prop} (hW7 : ∀ (v1 : Int32) (M : xM), W7 (v1, M) → ∀ (H : Heap) (locs : List Loc) (ls : Array Slot), xO κ s M H locs → lv_has ls 4 [(0, .ref (κ.1 + v0)), (1, .int v1)] → W p l e (xRm 3 1 32) s m args below meth c H locs 1 32 (xQf below args s 1 32 κ (some (.ref (κ.1 + ro))) mo) (F0 m 7 ls [])) (M : xM) (x : (Int32 × xM) ⊕ (Nat × xM)) (h : F_X11_rowWorths_48 v0 v1 v2 M = some x) (hK : (xKl W7 (fun o => o = (ro, mo))) x) (H : Heap) (locs : List Loc) (ls : Array Slot) (O : xO κ s M H locs) (hl : lv_has ls 4 [(0, .ref (κ.1 + v0)), (1, .int v1), (2, .int v2)]) : W p l e (xRm 3 1 32) s m args below meth c H locs 1 32 (xQf below args s 1 32 κ (some (.ref (κ.1 + ro))) mo) (F0 m 48 ls []) := by
  unfold F_X11_rowWorths_48 at h
  have hx := X.1
  have hb := X.2.1
  refine lv_aload_n hx hb dX11_rowWorths_48 rfl (lv_at hl 0 rfl) ?_
  refine lv_iload_n hx hb dX11_rowWorths_49 rfl (lv_at hl 1 rfl) ?_
  refine lv_iload_n hx hb dX11_rowWorths_50 rfl (lv_at hl 2 rfl) ?_
  refine lv_iconst (v := (-1 : Int32)) hx hb dX11_rowWorths_51 (by decide) ?_
  refine lv_ixor hx hb dX11_rowWorths_52 ?_
  obtain ⟨t5, ht5, h⟩ := Option.bind_eq_some_iff.mp h
  refine xr_callS (rest := [.int v1, .ref (κ.1 + v0)]) X O (T_J6_numberOfTrailingZeros_0f7a4 l κ (v2 ^^^ (-1 : Int32)) M _ _ ht5) lk_X11_259 (Nat.le_of_ble_eq_true rfl) rfl hl.1 rfl (Nat.le_of_ble_eq_true rfl) dX11_rowWorths_53 ⟨Nat.le_of_ble_eq_true rfl, Nat.le_of_ble_eq_true rfl⟩ (fun H locs O => ?_)
  refine W.eq (g2 := F0 m 56 ls [.int t5.1, .int v1, .ref (κ.1 + v0)]) rfl ?_
  obtain ⟨t6, ht6, h⟩ := Option.bind_eq_some_iff.mp h
  refine xr_stI X O ht6 dX11_rowWorths_56 (fun H locs O => ?_)
  refine lv_iinc (v := (v1 + 1)) (lv' := [(1, .int (v1 + 1)), (0, .ref (κ.1 + v0)), (2, .int v2)]) hx hb dX11_rowWorths_57 hl (k := 1) rfl rfl (by decide) rfl (fun ls hl => ?_)
  refine lv_goto (tgt := 7) hx hb dX11_rowWorths_60 (by decide) ?_
  rw [← Option.some.inj h] at hK
  exact hW7 (v1 + 1) t6 hK H locs ls O (lv_sub hl [1, 0] rfl)
set_option maxRecDepth 100000 in
set_option maxHeartbeats 4000000 in
theorem F_X11_rowWorths_17_bok (X : xX p s m args c cX11_rowWorths 4 RX11 κ) (hr : meth.sig.returnType = (some (.array .int))) (hlk : meth.locks = false) {ro : Nat} {mo : xM} (v0 : Nat) (v1 : Int32) (v2 : Int32) (v3 : Int32) {W7 : Int32 × xM → Prop} (hW7 : ∀ (v1 : Int32) (M : xM), W7 (v1, M) → ∀ (H : Heap) (locs : List Loc) (ls : Array Slot), xO κ s M H locs → lv_has ls 4 [(0, .ref (κ.1 + v0)), (1, .int v1)] → W p l e (xRm 3 1 32) s m args below meth c H locs 1 32 (xQf below args s 1 32 κ (some (.ref (κ.1 + ro))) mo) (F0 m 7 ls [])) {W17 : Int32 × Int32 × xM → Prop} (hW17 : ∀ (v2 : Int32) (v3 : Int32) (M : xM), W17 (v2, v3, M) → ∀ (H : Heap) (locs : List Loc) (ls : Array Slot), xO κ s M H locs → lv_has ls 4 [(0, .ref (κ.1 + v0)), (1, .int v1), (2, .int v2), (3, .int v3)] → W p l e (xRm 3 1 32) s m args below meth c H locs 1 32 (xQf below args s 1 32 κ (some (.ref (κ.1 + ro))) mo) (F0 m 17 ls [])) (M : xM) (x : (Int32 × Int32 × xM) ⊕ ((Int32 × xM) ⊕ (Nat × xM))) (h : F_X11_rowWorths_17b v0 v1 (v2, v3, M) = some x) (hK : (xKl W17 (xKl W7 (fun o => o = (ro, mo)))) x) (H : Heap) (locs : List Loc) (ls : Array Slot) (O : xO κ s M H locs) (hl : lv_has ls 4 [(0, .ref (κ.1 + v0)), (1, .int v1), (2, .int v2), (3, .int v3)]) : W p l e (xRm 3 1 32) s m args below meth c H locs 1 32 (xQf below args s 1 32 κ (some (.ref (κ.1 + ro))) mo) (F0 m 17 ls []) := by
  unfold F_X11_rowWorths_17b at h
  dsimp only at h
  have hx := X.1
  have hb := X.2.1
  refine lv_iload_n hx hb dX11_rowWorths_17 rfl (lv_at hl 3 rfl) ?_
  refine lv_iconst (v := (5 : Int32)) hx hb dX11_rowWorths_18 (by decide) ?_
  refine lv_icmp_ge (tgt := 48) hx hb dX11_rowWorths_19 (by decide) (fun hc19 => ?_) (fun hc19 => ?_)
  · rw [if_pos hc19] at h
    obtain ⟨_, hw0, ew0⟩ := Option.map_eq_some_iff.mp h
    rw [← ew0] at hK
    have h := hw0
    exact F_X11_rowWorths_48_ok X hr hlk v0 v1 v2 hW7 M _ h hK H locs ls O (lv_sub hl [0, 1, 2] rfl)
  rw [if_neg hc19] at h
  refine lv_iload_n hx hb dX11_rowWorths_22 rfl (lv_at hl 1 rfl) ?_
  refine lv_iload_n hx hb dX11_rowWorths_23 rfl (lv_at hl 3 rfl) ?_
  refine lv_ishr hx hb dX11_rowWorths_24 ?_
  refine lv_iconst (v := (1 : Int32)) hx hb dX11_rowWorths_25 (by decide) ?_
  refine lv_iand hx hb dX11_rowWorths_26 ?_
  refine lv_if_eq (tgt := 42) hx hb dX11_rowWorths_27 (by decide) (fun hc27 => ?_) (fun hc27 => ?_)
  · rw [if_pos hc27] at h
    exact F_X11_rowWorths_42_ok X hr hlk v0 v1 v2 v3 hW7 hW17 M _ h hK H locs ls O (lv_sub hl [0, 1, 2, 3] rfl)
  rw [if_neg hc27] at h
  refine lv_iload_n hx hb dX11_rowWorths_30 rfl (lv_at hl 2 rfl) ?_
  refine lv_iconst (v := (1 : Int32)) hx hb dX11_rowWorths_31 (by decide) ?_
  refine lv_aload_n hx hb dX11_rowWorths_32 rfl (lv_at hl 0 rfl) ?_
  refine lv_iload_n hx hb dX11_rowWorths_33 rfl (lv_at hl 1 rfl) ?_
  refine lv_iload_n hx hb dX11_rowWorths_34 rfl (lv_at hl 3 rfl) ?_
  obtain ⟨t2, ht2, h⟩ := Option.bind_eq_some_iff.mp h
  refine xr_callS (rest := [.ref (κ.1 + v0), .int (1 : Int32), .int v2]) X O (T_X11_afterPut l κ v1 v3 M _ _ ht2) lk_X11_327 (Nat.le_of_ble_eq_true rfl) rfl hl.1 rfl (Nat.le_of_ble_eq_true rfl) dX11_rowWorths_35 ⟨Nat.le_of_ble_eq_true rfl, Nat.le_of_ble_eq_true rfl⟩ (fun H locs O => ?_)
  refine W.eq (g2 := F0 m 38 ls [.int t2.1, .ref (κ.1 + v0), .int (1 : Int32), .int v2]) rfl ?_
  obtain ⟨t3, ht3, h⟩ := Option.bind_eq_some_iff.mp h
  refine xr_aldI X O ht3 dX11_rowWorths_38 ?_
  refine lv_ishl hx hb dX11_rowWorths_39 ?_
  refine lv_ior hx hb dX11_rowWorths_40 ?_
  obtain ⟨t4, ht4, h⟩ := Option.bind_eq_some_iff.mp h
  refine xr_top (w := .int t4) (by rw [Option.some.inj ht4]) ?_
  refine lv_istore_n (lv' := [(2, .int t4), (0, .ref (κ.1 + v0)), (1, .int v1), (3, .int v3)]) hx hb dX11_rowWorths_41 rfl hl (by decide) rfl (fun ls hl => ?_)
  exact F_X11_rowWorths_42_ok X hr hlk v0 v1 t4 v3 hW7 hW17 t2.2 _ h hK H locs ls O (lv_sub hl [1, 2, 0, 3] rfl)
set_option maxRecDepth 100000 in
set_option maxHeartbeats 4000000 in
theorem F_X11_rowWorths_17_ok (X : xX p s m args c cX11_rowWorths 4 RX11 κ) (hr : meth.sig.returnType = (some (.array .int))) (hlk : meth.locks = false) {ro : Nat} {mo : xM} (v0 : Nat) (v1 : Int32) (v2 : Int32) (v3 : Int32) {W7 : Int32 × xM → Prop} (hW7 : ∀ (v1 : Int32) (M : xM), W7 (v1, M) → ∀ (H : Heap) (locs : List Loc) (ls : Array Slot), xO κ s M H locs → lv_has ls 4 [(0, .ref (κ.1 + v0)), (1, .int v1)] → W p l e (xRm 3 1 32) s m args below meth c H locs 1 32 (xQf below args s 1 32 κ (some (.ref (κ.1 + ro))) mo) (F0 m 7 ls [])) (M : xM) (x : (Int32 × xM) ⊕ (Nat × xM)) (h : F_X11_rowWorths_17 v0 v1 v2 v3 M = some x) (hK : (xKl W7 (fun o => o = (ro, mo))) x) (H : Heap) (locs : List Loc) (ls : Array Slot) (O : xO κ s M H locs) (hl : lv_has ls 4 [(0, .ref (κ.1 + v0)), (1, .int v1), (2, .int v2), (3, .int v3)]) : W p l e (xRm 3 1 32) s m args below meth c H locs 1 32 (xQf below args s 1 32 κ (some (.ref (κ.1 + ro))) mo) (F0 m 17 ls []) := by
  refine xit_K (Wh := fun x => ∀ (H : Heap) (locs : List Loc) (ls : Array Slot), xO κ s x.2.2 H locs → lv_has ls 4 [(0, .ref (κ.1 + v0)), (1, .int v1), (2, .int x.1), (3, .int x.2.1)] → W p l e (xRm 3 1 32) s m args below meth c H locs 1 32 (xQf below args s 1 32 κ (some (.ref (κ.1 + ro))) mo) (F0 m 17 ls [])) (Kp := (xKl W7 (fun o => o = (ro, mo)))) ?_ xFU (v2, v3, M) x h hK H locs ls O hl
  intro y x h hK H locs ls O hl
  exact F_X11_rowWorths_17_bok X hr hlk v0 v1 y.1 y.2.1 hW7 (fun _ _ _ hw => hw) y.2.2 x h hK H locs ls O hl
set_option maxRecDepth 100000 in
set_option maxHeartbeats 4000000 in
theorem F_X11_rowWorths_63_ok (X : xX p s m args c cX11_rowWorths 4 RX11 κ) (hr : meth.sig.returnType = (some (.array .int))) (hlk : meth.locks = false) {ro : Nat} {mo : xM} (v0 : Nat) (M : xM) (x : Nat × xM) (h : F_X11_rowWorths_63 v0 M = some x) (hK : (fun o => o = (ro, mo)) x) (H : Heap) (locs : List Loc) (ls : Array Slot) (O : xO κ s M H locs) (hl : lv_has ls 4 [(0, .ref (κ.1 + v0))]) : W p l e (xRm 3 1 32) s m args below meth c H locs 1 32 (xQf below args s 1 32 κ (some (.ref (κ.1 + ro))) mo) (F0 m 63 ls []) := by
  unfold F_X11_rowWorths_63 at h
  have hx := X.1
  have hb := X.2.1
  refine lv_aload_n hx hb dX11_rowWorths_63 rfl (lv_at hl 0 rfl) ?_
  rw [← Option.some.inj h] at hK
  have hK : (v0, M) = (ro, mo) := hK
  obtain ⟨hK1, hK2⟩ := Prod.mk.inj hK
  rw [hK2] at O
  refine xr_top (w := .ref (κ.1 + ro)) (by rw [hK1]) ?_
  exact xr_aret X hr (Or.inr ⟨_, rfl⟩) hlk O dX11_rowWorths_64
set_option maxRecDepth 100000 in
set_option maxHeartbeats 4000000 in
theorem F_X11_rowWorths_7_bok (X : xX p s m args c cX11_rowWorths 4 RX11 κ) (hr : meth.sig.returnType = (some (.array .int))) (hlk : meth.locks = false) {ro : Nat} {mo : xM} (v0 : Nat) (v1 : Int32) {W7 : Int32 × xM → Prop} (hW7 : ∀ (v1 : Int32) (M : xM), W7 (v1, M) → ∀ (H : Heap) (locs : List Loc) (ls : Array Slot), xO κ s M H locs → lv_has ls 4 [(0, .ref (κ.1 + v0)), (1, .int v1)] → W p l e (xRm 3 1 32) s m args below meth c H locs 1 32 (xQf below args s 1 32 κ (some (.ref (κ.1 + ro))) mo) (F0 m 7 ls [])) (M : xM) (x : (Int32 × xM) ⊕ (Nat × xM)) (h : F_X11_rowWorths_7b v0 (v1, M) = some x) (hK : (xKl W7 (fun o => o = (ro, mo))) x) (H : Heap) (locs : List Loc) (ls : Array Slot) (O : xO κ s M H locs) (hl : lv_has ls 4 [(0, .ref (κ.1 + v0)), (1, .int v1)]) : W p l e (xRm 3 1 32) s m args below meth c H locs 1 32 (xQf below args s 1 32 κ (some (.ref (κ.1 + ro))) mo) (F0 m 7 ls []) := by
  unfold F_X11_rowWorths_7b at h
  dsimp only at h
  have hx := X.1
  have hb := X.2.1
  refine lv_iload_n hx hb dX11_rowWorths_7 rfl (lv_at hl 1 rfl) ?_
  refine lv_bipush (v := (32 : Int32)) hx hb dX11_rowWorths_8 (by decide) ?_
  refine lv_icmp_ge (tgt := 63) hx hb dX11_rowWorths_10 (by decide) (fun hc10 => ?_) (fun hc10 => ?_)
  · rw [if_pos hc10] at h
    obtain ⟨_, hw0, ew0⟩ := Option.map_eq_some_iff.mp h
    rw [← ew0] at hK
    have h := hw0
    exact F_X11_rowWorths_63_ok X hr hlk v0 M _ h hK H locs ls O (lv_sub hl [0] rfl)
  rw [if_neg hc10] at h
  refine lv_iconst (v := (0 : Int32)) hx hb dX11_rowWorths_13 (by decide) ?_
  refine lv_istore_n (lv' := [(2, .int (0 : Int32)), (0, .ref (κ.1 + v0)), (1, .int v1)]) hx hb dX11_rowWorths_14 rfl hl (by decide) rfl (fun ls hl => ?_)
  refine lv_iconst (v := (0 : Int32)) hx hb dX11_rowWorths_15 (by decide) ?_
  refine lv_istore_n (lv' := [(3, .int (0 : Int32)), (2, .int (0 : Int32)), (0, .ref (κ.1 + v0)), (1, .int v1)]) hx hb dX11_rowWorths_16 rfl hl (by decide) rfl (fun ls hl => ?_)
  exact F_X11_rowWorths_17_ok X hr hlk v0 v1 (0 : Int32) (0 : Int32) hW7 M _ h hK H locs ls O (lv_sub hl [2, 3, 1, 0] rfl)
set_option maxRecDepth 100000 in
set_option maxHeartbeats 4000000 in
theorem F_X11_rowWorths_7_ok (X : xX p s m args c cX11_rowWorths 4 RX11 κ) (hr : meth.sig.returnType = (some (.array .int))) (hlk : meth.locks = false) {ro : Nat} {mo : xM} (v0 : Nat) (v1 : Int32) (M : xM) (x : Nat × xM) (h : F_X11_rowWorths_7 v0 v1 M = some x) (hK : (fun o => o = (ro, mo)) x) (H : Heap) (locs : List Loc) (ls : Array Slot) (O : xO κ s M H locs) (hl : lv_has ls 4 [(0, .ref (κ.1 + v0)), (1, .int v1)]) : W p l e (xRm 3 1 32) s m args below meth c H locs 1 32 (xQf below args s 1 32 κ (some (.ref (κ.1 + ro))) mo) (F0 m 7 ls []) := by
  refine xit_K (Wh := fun x => ∀ (H : Heap) (locs : List Loc) (ls : Array Slot), xO κ s x.2 H locs → lv_has ls 4 [(0, .ref (κ.1 + v0)), (1, .int x.1)] → W p l e (xRm 3 1 32) s m args below meth c H locs 1 32 (xQf below args s 1 32 κ (some (.ref (κ.1 + ro))) mo) (F0 m 7 ls [])) (Kp := (fun o => o = (ro, mo))) ?_ xFU (v1, M) x h hK H locs ls O hl
  intro y x h hK H locs ls O hl
  exact F_X11_rowWorths_7_bok X hr hlk v0 y.1 (fun _ _ hw => hw) y.2 x h hK H locs ls O hl
set_option maxRecDepth 100000 in
set_option maxHeartbeats 4000000 in
theorem T_X11_rowWorths (l : Launch) (κ : xQ) (M : xM) (ro : Nat) (mo : xM) (h : F_X11_rowWorths  M = some (ro, mo)) : xC l yX11_rowWorths cX11_rowWorths 4 (some (.array .int)) 3 1 32 κ [] M (some (.ref (κ.1 + ro))) mo := by
  refine xC_of rfl (Nat.le_of_ble_eq_true rfl) fun p e s m args below meth c X hr hlk hnm H locs ls O hl => ?_
  have X : xX p s m args c cX11_rowWorths 4 RX11 κ := X
  have hl : lv_has ls 4 [] := hl
  have hx := X.1
  have hb := X.2.1
  obtain ⟨x, hx0⟩ : ∃ x, (ro, mo) = x := ⟨_, rfl⟩
  rw [hx0] at h
  have hK : x = (ro, mo) := hx0.symm
  unfold F_X11_rowWorths at h
  refine lv_bipush (v := (32 : Int32)) hx hb dX11_rowWorths_0 (by decide) ?_
  obtain ⟨t1, ht1, h⟩ := Option.bind_eq_some_iff.mp h
  refine xr_newI (N := 32) X O (xw_t1 133 (by decide +kernel) rfl) (by decide) (by decide) (by decide) (Nat.le_of_ble_eq_true rfl) (Nat.le_of_ble_eq_true rfl) dX11_rowWorths_2 (fun H locs O => ?_)
  rw [Option.some.inj ht1] at O
  refine W.eq (g2 := F0 m 4 ls [.ref (κ.1 + M.1.length)]) rfl ?_
  refine lv_astore_n (lv' := [(0, .ref (κ.1 + M.1.length))]) hx hb dX11_rowWorths_4 rfl hl (by decide) rfl (fun ls hl => ?_)
  refine lv_iconst (v := (1 : Int32)) hx hb dX11_rowWorths_5 (by decide) ?_
  refine lv_istore_n (lv' := [(1, .int (1 : Int32)), (0, .ref (κ.1 + M.1.length))]) hx hb dX11_rowWorths_6 rfl hl (by decide) rfl (fun ls hl => ?_)
  exact F_X11_rowWorths_7_ok X hr hlk M.1.length (1 : Int32) t1 _ h hK H locs ls O (lv_sub hl [1, 0] rfl)
def F_X11_putBytes_49 (M : xM) : Option (xM) :=
some M
def F_X11_putBytes_3b (v0 : Nat) (v1 : Int32) : (Int32 × xM) → Option ((Int32 × xM) ⊕ (xM)) := fun ⟨v2, M⟩ =>
if v2 < 0 then (
(F_X11_putBytes_49 M).map Sum.inr)
else (
(xgI M v0 11 0).bind fun t1 =>
if (900 : Int32) ≤ t1 then (
(F_X11_putBytes_49 M).map Sum.inr)
else (
(xgP M v0 11 1).bind fun t2 =>
(xgP M t2 7 4).bind fun t3 =>
(xgI M v0 11 0).bind fun t4 =>
(xsB M t3 t4 (v1 >>> (v2 &&& 31)).toInt8.toInt32).bind fun t5 =>
(xgI t5 v0 11 0).bind fun t6 =>
(xpI t5 v0 11 0 (t6 + (1 : Int32))).bind fun t7 =>
some (.inl ((v2 + (-8)), t7))))
def F_X11_putBytes_3 (v0 : Nat) (v1 : Int32) (v2 : Int32) (M : xM) : Option (xM) := xit (F_X11_putBytes_3b v0 v1) xFU (v2, M)
def F_X11_putBytes (a0 : Nat) (a1 : Int32) (M : xM) : Option (xM) :=
F_X11_putBytes_3 a0 a1 (24 : Int32) M
set_option maxRecDepth 100000 in
set_option maxHeartbeats 4000000 in
theorem F_X11_putBytes_49_ok (X : xX p s m args c cX11_putBytes 3 RX11 κ) (hr : meth.sig.returnType = none) (hlk : meth.locks = false) {mo : xM} (M : xM) (x : xM) (h : F_X11_putBytes_49 M = some x) (hK : (fun o => o = mo) x) (H : Heap) (locs : List Loc) (ls : Array Slot) (O : xO κ s M H locs) (hl : lv_has ls 3 []) : W p l e (xRm 2 0 0) s m args below meth c H locs 0 0 (xQf below args s 0 0 κ none mo) (F0 m 49 ls []) := by
  unfold F_X11_putBytes_49 at h
  have hx := X.1
  have hb := X.2.1
  rw [← Option.some.inj h] at hK
  have hK : M = mo := hK
  rw [hK] at O
  exact xr_vret X hr hlk O dX11_putBytes_49
set_option maxRecDepth 100000 in
set_option maxHeartbeats 4000000 in
theorem F_X11_putBytes_3_bok (X : xX p s m args c cX11_putBytes 3 RX11 κ) (hr : meth.sig.returnType = none) (hlk : meth.locks = false) {mo : xM} (v0 : Nat) (v1 : Int32) (v2 : Int32) {W3 : Int32 × xM → Prop} (hW3 : ∀ (v2 : Int32) (M : xM), W3 (v2, M) → ∀ (H : Heap) (locs : List Loc) (ls : Array Slot), xO κ s M H locs → lv_has ls 3 [(0, .ref (κ.1 + v0)), (1, .int v1), (2, .int v2)] → W p l e (xRm 2 0 0) s m args below meth c H locs 0 0 (xQf below args s 0 0 κ none mo) (F0 m 3 ls [])) (M : xM) (x : (Int32 × xM) ⊕ (xM)) (h : F_X11_putBytes_3b v0 v1 (v2, M) = some x) (hK : (xKl W3 (fun o => o = mo)) x) (H : Heap) (locs : List Loc) (ls : Array Slot) (O : xO κ s M H locs) (hl : lv_has ls 3 [(0, .ref (κ.1 + v0)), (1, .int v1), (2, .int v2)]) : W p l e (xRm 2 0 0) s m args below meth c H locs 0 0 (xQf below args s 0 0 κ none mo) (F0 m 3 ls []) := by
  unfold F_X11_putBytes_3b at h
  dsimp only at h
  have hx := X.1
  have hb := X.2.1
  refine lv_iload_n hx hb dX11_putBytes_3 rfl (lv_at hl 2 rfl) ?_
  refine lv_if_lt (tgt := 49) hx hb dX11_putBytes_4 (by decide) (fun hc4 => ?_) (fun hc4 => ?_)
  · rw [if_pos hc4] at h
    obtain ⟨_, hw0, ew0⟩ := Option.map_eq_some_iff.mp h
    rw [← ew0] at hK
    have h := hw0
    exact F_X11_putBytes_49_ok X hr hlk  M _ h hK H locs ls O (lv_sub hl [] rfl)
  rw [if_neg hc4] at h
  refine lv_aload_n hx hb dX11_putBytes_7 rfl (lv_at hl 0 rfl) ?_
  obtain ⟨t1, ht1, h⟩ := Option.bind_eq_some_iff.mp h
  refine xr_getI X O ht1 fl_X11_98 (Or.inl rfl) dX11_putBytes_8 ?_
  refine lv_sipush (v := (900 : Int32)) hx hb dX11_putBytes_11 (by decide) ?_
  refine lv_icmp_ge (tgt := 49) hx hb dX11_putBytes_14 (by decide) (fun hc14 => ?_) (fun hc14 => ?_)
  · rw [if_pos hc14] at h
    obtain ⟨_, hw0, ew0⟩ := Option.map_eq_some_iff.mp h
    rw [← ew0] at hK
    have h := hw0
    exact F_X11_putBytes_49_ok X hr hlk  M _ h hK H locs ls O (lv_sub hl [] rfl)
  rw [if_neg hc14] at h
  refine lv_aload_n hx hb dX11_putBytes_17 rfl (lv_at hl 0 rfl) ?_
  obtain ⟨t2, ht2, h⟩ := Option.bind_eq_some_iff.mp h
  refine xr_getP X O ht2 fl_X11_12 dX11_putBytes_18 ?_
  obtain ⟨t3, ht3, h⟩ := Option.bind_eq_some_iff.mp h
  refine xr_getP X O ht3 fl_X11_367 dX11_putBytes_21 ?_
  refine lv_aload_n hx hb dX11_putBytes_24 rfl (lv_at hl 0 rfl) ?_
  obtain ⟨t4, ht4, h⟩ := Option.bind_eq_some_iff.mp h
  refine xr_getI X O ht4 fl_X11_98 (Or.inl rfl) dX11_putBytes_25 ?_
  refine lv_iload_n hx hb dX11_putBytes_28 rfl (lv_at hl 1 rfl) ?_
  refine lv_iload_n hx hb dX11_putBytes_29 rfl (lv_at hl 2 rfl) ?_
  refine lv_ishr hx hb dX11_putBytes_30 ?_
  refine lv_i2b (v := (v1 >>> (v2 &&& 31)).toInt8.toInt32) hx hb dX11_putBytes_31 rfl ?_
  obtain ⟨t5, ht5, h⟩ := Option.bind_eq_some_iff.mp h
  refine xr_stB X O ht5 dX11_putBytes_32 (fun H locs O => ?_)
  refine lv_aload_n hx hb dX11_putBytes_33 rfl (lv_at hl 0 rfl) ?_
  refine lv_dup hx hb dX11_putBytes_34 rfl ?_
  obtain ⟨t6, ht6, h⟩ := Option.bind_eq_some_iff.mp h
  refine xr_getI X O ht6 fl_X11_98 (Or.inl rfl) dX11_putBytes_35 ?_
  refine lv_iconst (v := (1 : Int32)) hx hb dX11_putBytes_38 (by decide) ?_
  refine lv_iadd hx hb dX11_putBytes_39 ?_
  obtain ⟨t7, ht7, h⟩ := Option.bind_eq_some_iff.mp h
  refine xr_putI X O ht7 fl_X11_98 dX11_putBytes_40 (fun H locs O => ?_)
  refine lv_iinc (v := (v2 + (-8))) (lv' := [(2, .int (v2 + (-8))), (0, .ref (κ.1 + v0)), (1, .int v1)]) hx hb dX11_putBytes_43 hl (k := 2) rfl rfl (by decide) rfl (fun ls hl => ?_)
  refine lv_goto (tgt := 3) hx hb dX11_putBytes_46 (by decide) ?_
  rw [← Option.some.inj h] at hK
  exact hW3 (v2 + (-8)) t7 hK H locs ls O (lv_sub hl [1, 2, 0] rfl)
set_option maxRecDepth 100000 in
set_option maxHeartbeats 4000000 in
theorem F_X11_putBytes_3_ok (X : xX p s m args c cX11_putBytes 3 RX11 κ) (hr : meth.sig.returnType = none) (hlk : meth.locks = false) {mo : xM} (v0 : Nat) (v1 : Int32) (v2 : Int32) (M : xM) (x : xM) (h : F_X11_putBytes_3 v0 v1 v2 M = some x) (hK : (fun o => o = mo) x) (H : Heap) (locs : List Loc) (ls : Array Slot) (O : xO κ s M H locs) (hl : lv_has ls 3 [(0, .ref (κ.1 + v0)), (1, .int v1), (2, .int v2)]) : W p l e (xRm 2 0 0) s m args below meth c H locs 0 0 (xQf below args s 0 0 κ none mo) (F0 m 3 ls []) := by
  refine xit_K (Wh := fun x => ∀ (H : Heap) (locs : List Loc) (ls : Array Slot), xO κ s x.2 H locs → lv_has ls 3 [(0, .ref (κ.1 + v0)), (1, .int v1), (2, .int x.1)] → W p l e (xRm 2 0 0) s m args below meth c H locs 0 0 (xQf below args s 0 0 κ none mo) (F0 m 3 ls [])) (Kp := (fun o => o = mo)) ?_ xFU (v2, M) x h hK H locs ls O hl
  intro y x h hK H locs ls O hl
  exact F_X11_putBytes_3_bok X hr hlk v0 v1 y.1 (fun _ _ hw => hw) y.2 x h hK H locs ls O hl
set_option maxRecDepth 100000 in
set_option maxHeartbeats 4000000 in
theorem T_X11_putBytes (l : Launch) (κ : xQ) (a0 : Nat) (a1 : Int32) (M : xM) (mo : xM) (h : F_X11_putBytes a0 a1 M = some mo) : xC l yX11_putBytes cX11_putBytes 3 none 2 0 0 κ [.ref (κ.1 + a0), .int a1] M none mo := by
  refine xC_of rfl (Nat.le_of_ble_eq_true rfl) fun p e s m args below meth c X hr hlk hnm H locs ls O hl => ?_
  have X : xX p s m args c cX11_putBytes 3 RX11 κ := X
  have hl : lv_has ls 3 [(0, .ref (κ.1 + a0)), (1, .int a1)] := hl
  have hx := X.1
  have hb := X.2.1
  obtain ⟨x, hx0⟩ : ∃ x, mo = x := ⟨_, rfl⟩
  rw [hx0] at h
  have hK : x = mo := hx0.symm
  unfold F_X11_putBytes at h
  refine lv_bipush (v := (24 : Int32)) hx hb dX11_putBytes_0 (by decide) ?_
  refine lv_istore_n (lv' := [(2, .int (24 : Int32)), (0, .ref (κ.1 + a0)), (1, .int a1)]) hx hb dX11_putBytes_2 rfl hl (by decide) rfl (fun ls hl => ?_)
  exact F_X11_putBytes_3_ok X hr hlk a0 a1 (24 : Int32) M _ h hK H locs ls O (lv_sub hl [1, 2, 0] rfl)
def F_X11_feed (a0 : Nat) (a1 : Int32) (a2 : Int32) (a3 : Int32) (a4 : Int32) (a5 : Int32) (M : xM) : Option (Int32 × xM) :=
(xgI M a0 11 0).bind fun t1 =>
if (t1 + (20 : Int32)) ≤ (900 : Int32) then (
(xck M a0 11).bind fun _ =>
(F_X11_putBytes a0 a1 M).bind fun t3 =>
(xck t3 a0 11).bind fun _ =>
(F_X11_putBytes a0 a2 t3).bind fun t5 =>
(xck t5 a0 11).bind fun _ =>
(F_X11_putBytes a0 a3 t5).bind fun t7 =>
(xck t7 a0 11).bind fun _ =>
(F_X11_putBytes a0 a4 t7).bind fun t9 =>
(xck t9 a0 11).bind fun _ =>
(F_X11_putBytes a0 a5 t9).bind fun t11 =>
(xgI t11 a0 11 0).bind fun t12 =>
some (t12, t11))
else (
some ((-5 : Int32), M))
set_option maxRecDepth 100000 in
set_option maxHeartbeats 4000000 in
theorem T_X11_feed (l : Launch) (κ : xQ) (a0 : Nat) (a1 : Int32) (a2 : Int32) (a3 : Int32) (a4 : Int32) (a5 : Int32) (M : xM) (ro : Int32) (mo : xM) (h : F_X11_feed a0 a1 a2 a3 a4 a5 M = some (ro, mo)) : xC l yX11_feed cX11_feed 6 (some .int) 3 0 0 κ [.ref (κ.1 + a0), .int a1, .int a2, .int a3, .int a4, .int a5] M (some (.int ro)) mo := by
  refine xC_of rfl (Nat.le_of_ble_eq_true rfl) fun p e s m args below meth c X hr hlk hnm H locs ls O hl => ?_
  have X : xX p s m args c cX11_feed 6 RX11 κ := X
  have hl : lv_has ls 6 [(0, .ref (κ.1 + a0)), (1, .int a1), (2, .int a2), (3, .int a3), (4, .int a4), (5, .int a5)] := hl
  have hx := X.1
  have hb := X.2.1
  obtain ⟨x, hx0⟩ : ∃ x, (ro, mo) = x := ⟨_, rfl⟩
  rw [hx0] at h
  have hK : x = (ro, mo) := hx0.symm
  unfold F_X11_feed at h
  refine lv_aload_n hx hb dX11_feed_0 rfl (lv_at hl 0 rfl) ?_
  obtain ⟨t1, ht1, h⟩ := Option.bind_eq_some_iff.mp h
  refine xr_getI X O ht1 fl_X11_98 (Or.inl rfl) dX11_feed_1 ?_
  refine lv_bipush (v := (20 : Int32)) hx hb dX11_feed_4 (by decide) ?_
  refine lv_iadd hx hb dX11_feed_6 ?_
  refine lv_sipush (v := (900 : Int32)) hx hb dX11_feed_7 (by decide) ?_
  refine lv_icmp_le (tgt := 16) hx hb dX11_feed_10 (by decide) (fun hc10 => ?_) (fun hc10 => ?_)
  · rw [if_pos hc10] at h
    refine lv_aload_n hx hb dX11_feed_16 rfl (lv_at hl 0 rfl) ?_
    refine lv_iload_n hx hb dX11_feed_17 rfl (lv_at hl 1 rfl) ?_
    obtain ⟨_, hut2, h⟩ := Option.bind_eq_some_iff.mp h
    obtain ⟨t3, ht3, h⟩ := Option.bind_eq_some_iff.mp h
    refine xr_callV (rest := []) X O (T_X11_putBytes l κ a0 a1 M _ ht3) lk_X11_102 hut2 (Nat.le_of_ble_eq_true rfl) rfl hl.1 rfl (Nat.le_of_ble_eq_true rfl) dX11_feed_18 ⟨Nat.le_of_ble_eq_true rfl, Nat.le_of_ble_eq_true rfl⟩ (fun H locs O => ?_)
    refine W.eq (g2 := F0 m 21 ls []) rfl ?_
    refine lv_aload_n hx hb dX11_feed_21 rfl (lv_at hl 0 rfl) ?_
    refine lv_iload_n hx hb dX11_feed_22 rfl (lv_at hl 2 rfl) ?_
    obtain ⟨_, hut4, h⟩ := Option.bind_eq_some_iff.mp h
    obtain ⟨t5, ht5, h⟩ := Option.bind_eq_some_iff.mp h
    refine xr_callV (rest := []) X O (T_X11_putBytes l κ a0 a2 t3 _ ht5) lk_X11_102 hut4 (Nat.le_of_ble_eq_true rfl) rfl hl.1 rfl (Nat.le_of_ble_eq_true rfl) dX11_feed_23 ⟨Nat.le_of_ble_eq_true rfl, Nat.le_of_ble_eq_true rfl⟩ (fun H locs O => ?_)
    refine W.eq (g2 := F0 m 26 ls []) rfl ?_
    refine lv_aload_n hx hb dX11_feed_26 rfl (lv_at hl 0 rfl) ?_
    refine lv_iload_n hx hb dX11_feed_27 rfl (lv_at hl 3 rfl) ?_
    obtain ⟨_, hut6, h⟩ := Option.bind_eq_some_iff.mp h
    obtain ⟨t7, ht7, h⟩ := Option.bind_eq_some_iff.mp h
    refine xr_callV (rest := []) X O (T_X11_putBytes l κ a0 a3 t5 _ ht7) lk_X11_102 hut6 (Nat.le_of_ble_eq_true rfl) rfl hl.1 rfl (Nat.le_of_ble_eq_true rfl) dX11_feed_28 ⟨Nat.le_of_ble_eq_true rfl, Nat.le_of_ble_eq_true rfl⟩ (fun H locs O => ?_)
    refine W.eq (g2 := F0 m 31 ls []) rfl ?_
    refine lv_aload_n hx hb dX11_feed_31 rfl (lv_at hl 0 rfl) ?_
    refine lv_iload hx hb dX11_feed_32 (lv_at hl 4 rfl) ?_
    obtain ⟨_, hut8, h⟩ := Option.bind_eq_some_iff.mp h
    obtain ⟨t9, ht9, h⟩ := Option.bind_eq_some_iff.mp h
    refine xr_callV (rest := []) X O (T_X11_putBytes l κ a0 a4 t7 _ ht9) lk_X11_102 hut8 (Nat.le_of_ble_eq_true rfl) rfl hl.1 rfl (Nat.le_of_ble_eq_true rfl) dX11_feed_34 ⟨Nat.le_of_ble_eq_true rfl, Nat.le_of_ble_eq_true rfl⟩ (fun H locs O => ?_)
    refine W.eq (g2 := F0 m 37 ls []) rfl ?_
    refine lv_aload_n hx hb dX11_feed_37 rfl (lv_at hl 0 rfl) ?_
    refine lv_iload hx hb dX11_feed_38 (lv_at hl 5 rfl) ?_
    obtain ⟨_, hut10, h⟩ := Option.bind_eq_some_iff.mp h
    obtain ⟨t11, ht11, h⟩ := Option.bind_eq_some_iff.mp h
    refine xr_callV (rest := []) X O (T_X11_putBytes l κ a0 a5 t9 _ ht11) lk_X11_102 hut10 (Nat.le_of_ble_eq_true rfl) rfl hl.1 rfl (Nat.le_of_ble_eq_true rfl) dX11_feed_40 ⟨Nat.le_of_ble_eq_true rfl, Nat.le_of_ble_eq_true rfl⟩ (fun H locs O => ?_)
    refine W.eq (g2 := F0 m 43 ls []) rfl ?_
    refine lv_aload_n hx hb dX11_feed_43 rfl (lv_at hl 0 rfl) ?_
    obtain ⟨t12, ht12, h⟩ := Option.bind_eq_some_iff.mp h
    refine xr_getI X O ht12 fl_X11_98 (Or.inl rfl) dX11_feed_44 ?_
    rw [← Option.some.inj h] at hK
    have hK : (t12, t11) = (ro, mo) := hK
    obtain ⟨hK1, hK2⟩ := Prod.mk.inj hK
    rw [hK2] at O
    refine xr_top (w := .int ro) (by rw [hK1]) ?_
    exact xr_iret X hr hlk O dX11_feed_47
  rw [if_neg hc10] at h
  refine lv_bipush (v := (-5 : Int32)) hx hb dX11_feed_13 (by decide) ?_
  rw [← Option.some.inj h] at hK
  have hK : ((-5 : Int32), M) = (ro, mo) := hK
  obtain ⟨hK1, hK2⟩ := Prod.mk.inj hK
  rw [hK2] at O
  refine xr_top (w := .int ro) (by rw [hK1]) ?_
  exact xr_iret X hr hlk O dX11_feed_15
def F_X11_shore (a0 : Nat) (a1 : Int32) (M : xM) : Option (Int32 × xM) :=
if a1 < 0 then (
some ((-3 : Int32), M))
else (
(xgI M a0 11 0).bind fun t1 =>
if a1 ≤ t1 then (
(xgP M a0 11 1).bind fun t2 =>
(xck M t2 7).bind fun _ =>
(F_X7_reads t2 a1 M).bind fun t4 =>
(xpI t4.2 a0 11 0 (0 : Int32)).bind fun t5 =>
if t4.1 = 0 then (
(xgP t5 a0 11 1).bind fun t21 =>
(xgI t5 t21 7 2).bind fun t22 =>
some (((-30 : Int32) - t22), t5))
else (
(xgP t5 a0 11 2).bind fun t6 =>
(xgP t5 a0 11 1).bind fun t7 =>
(xgP t5 t7 7 0).bind fun t8 =>
(xck t5 t6 3).bind fun _ =>
(F_X3_take t6 t8 t5).bind fun t10 =>
(xgP t10 a0 11 3).bind fun t11 =>
(xgP t10 a0 11 1).bind fun t12 =>
(xgP t10 t12 7 1).bind fun t13 =>
(xck t10 t11 0).bind fun _ =>
(F_X0_take t11 t13 t10).bind fun t15 =>
(xgP t15 a0 11 6).bind fun t16 =>
(xck t15 t16 5).bind fun _ =>
(F_X5_forget t16 t15).bind fun t18 =>
(xgP t18 a0 11 2).bind fun t19 =>
(xgI t18 t19 3 3).bind fun t20 =>
some (t20, t18)))
else (
some ((-3 : Int32), M)))
set_option maxRecDepth 100000 in
set_option maxHeartbeats 4000000 in
theorem T_X11_shore (l : Launch) (κ : xQ) (a0 : Nat) (a1 : Int32) (M : xM) (ro : Int32) (mo : xM) (h : F_X11_shore a0 a1 M = some (ro, mo)) : xC l yX11_shore cX11_shore 3 (some .int) 71 0 0 κ [.ref (κ.1 + a0), .int a1] M (some (.int ro)) mo := by
  refine xC_of rfl (Nat.le_of_ble_eq_true rfl) fun p e s m args below meth c X hr hlk hnm H locs ls O hl => ?_
  have X : xX p s m args c cX11_shore 3 RX11 κ := X
  have hl : lv_has ls 3 [(0, .ref (κ.1 + a0)), (1, .int a1)] := hl
  have hx := X.1
  have hb := X.2.1
  obtain ⟨x, hx0⟩ : ∃ x, (ro, mo) = x := ⟨_, rfl⟩
  rw [hx0] at h
  have hK : x = (ro, mo) := hx0.symm
  unfold F_X11_shore at h
  refine lv_iload_n hx hb dX11_shore_0 rfl (lv_at hl 1 rfl) ?_
  refine lv_if_lt (tgt := 12) hx hb dX11_shore_1 (by decide) (fun hc1 => ?_) (fun hc1 => ?_)
  · rw [if_pos hc1] at h
    refine lv_bipush (v := (-3 : Int32)) hx hb dX11_shore_12 (by decide) ?_
    rw [← Option.some.inj h] at hK
    have hK : ((-3 : Int32), M) = (ro, mo) := hK
    obtain ⟨hK1, hK2⟩ := Prod.mk.inj hK
    rw [hK2] at O
    refine xr_top (w := .int ro) (by rw [hK1]) ?_
    exact xr_iret X hr hlk O dX11_shore_14
  rw [if_neg hc1] at h
  refine lv_iload_n hx hb dX11_shore_4 rfl (lv_at hl 1 rfl) ?_
  refine lv_aload_n hx hb dX11_shore_5 rfl (lv_at hl 0 rfl) ?_
  obtain ⟨t1, ht1, h⟩ := Option.bind_eq_some_iff.mp h
  refine xr_getI X O ht1 fl_X11_98 (Or.inl rfl) dX11_shore_6 ?_
  refine lv_icmp_le (tgt := 15) hx hb dX11_shore_9 (by decide) (fun hc9 => ?_) (fun hc9 => ?_)
  · rw [if_pos hc9] at h
    refine lv_aload_n hx hb dX11_shore_15 rfl (lv_at hl 0 rfl) ?_
    obtain ⟨t2, ht2, h⟩ := Option.bind_eq_some_iff.mp h
    refine xr_getP X O ht2 fl_X11_12 dX11_shore_16 ?_
    refine lv_iload_n hx hb dX11_shore_19 rfl (lv_at hl 1 rfl) ?_
    obtain ⟨_, hut3, h⟩ := Option.bind_eq_some_iff.mp h
    obtain ⟨t4, ht4, h⟩ := Option.bind_eq_some_iff.mp h
    refine xr_callV (rest := []) X O (T_X7_reads l κ t2 a1 M _ _ ht4) lk_X11_106 hut3 (Nat.le_of_ble_eq_true rfl) rfl hl.1 rfl (Nat.le_of_ble_eq_true rfl) dX11_shore_20 ⟨Nat.le_of_ble_eq_true rfl, Nat.le_of_ble_eq_true rfl⟩ (fun H locs O => ?_)
    refine W.eq (g2 := F0 m 23 ls [.int t4.1]) rfl ?_
    refine lv_istore_n (lv' := [(2, .int t4.1), (0, .ref (κ.1 + a0)), (1, .int a1)]) hx hb dX11_shore_23 rfl hl (by decide) rfl (fun ls hl => ?_)
    refine lv_aload_n hx hb dX11_shore_24 rfl (lv_at hl 1 rfl) ?_
    refine lv_iconst (v := (0 : Int32)) hx hb dX11_shore_25 (by decide) ?_
    obtain ⟨t5, ht5, h⟩ := Option.bind_eq_some_iff.mp h
    refine xr_putI X O ht5 fl_X11_98 dX11_shore_26 (fun H locs O => ?_)
    refine lv_iload_n hx hb dX11_shore_29 rfl (lv_at hl 0 rfl) ?_
    refine lv_if_ne (tgt := 44) hx hb dX11_shore_30 (by decide) (fun hc30 => ?_) (fun hc30 => ?_)
    · rw [if_neg hc30] at h
      refine lv_aload_n hx hb dX11_shore_44 rfl (lv_at hl 1 rfl) ?_
      obtain ⟨t6, ht6, h⟩ := Option.bind_eq_some_iff.mp h
      refine xr_getP X O ht6 fl_X11_19 dX11_shore_45 ?_
      refine lv_aload_n hx hb dX11_shore_48 rfl (lv_at hl 1 rfl) ?_
      obtain ⟨t7, ht7, h⟩ := Option.bind_eq_some_iff.mp h
      refine xr_getP X O ht7 fl_X11_12 dX11_shore_49 ?_
      obtain ⟨t8, ht8, h⟩ := Option.bind_eq_some_iff.mp h
      refine xr_getP X O ht8 fl_X11_113 dX11_shore_52 ?_
      obtain ⟨_, hut9, h⟩ := Option.bind_eq_some_iff.mp h
      obtain ⟨t10, ht10, h⟩ := Option.bind_eq_some_iff.mp h
      refine xr_callV (rest := []) X O (T_X3_take l κ t6 t8 t5 _ ht10) lk_X11_114 hut9 (Nat.le_of_ble_eq_true rfl) rfl hl.1 rfl (Nat.le_of_ble_eq_true rfl) dX11_shore_55 ⟨Nat.le_of_ble_eq_true rfl, Nat.le_of_ble_eq_true rfl⟩ (fun H locs O => ?_)
      refine W.eq (g2 := F0 m 58 ls []) rfl ?_
      refine lv_aload_n hx hb dX11_shore_58 rfl (lv_at hl 1 rfl) ?_
      obtain ⟨t11, ht11, h⟩ := Option.bind_eq_some_iff.mp h
      refine xr_getP X O ht11 fl_X11_26 dX11_shore_59 ?_
      refine lv_aload_n hx hb dX11_shore_62 rfl (lv_at hl 1 rfl) ?_
      obtain ⟨t12, ht12, h⟩ := Option.bind_eq_some_iff.mp h
      refine xr_getP X O ht12 fl_X11_12 dX11_shore_63 ?_
      obtain ⟨t13, ht13, h⟩ := Option.bind_eq_some_iff.mp h
      refine xr_getP X O ht13 fl_X11_118 dX11_shore_66 ?_
      obtain ⟨_, hut14, h⟩ := Option.bind_eq_some_iff.mp h
      obtain ⟨t15, ht15, h⟩ := Option.bind_eq_some_iff.mp h
      refine xr_callV (rest := []) X O (T_X0_take l κ t11 t13 t10 _ ht15) lk_X11_121 hut14 (Nat.le_of_ble_eq_true rfl) rfl hl.1 rfl (Nat.le_of_ble_eq_true rfl) dX11_shore_69 ⟨Nat.le_of_ble_eq_true rfl, Nat.le_of_ble_eq_true rfl⟩ (fun H locs O => ?_)
      refine W.eq (g2 := F0 m 72 ls []) rfl ?_
      refine lv_aload_n hx hb dX11_shore_72 rfl (lv_at hl 1 rfl) ?_
      obtain ⟨t16, ht16, h⟩ := Option.bind_eq_some_iff.mp h
      refine xr_getP X O ht16 fl_X11_43 dX11_shore_73 ?_
      obtain ⟨_, hut17, h⟩ := Option.bind_eq_some_iff.mp h
      obtain ⟨t18, ht18, h⟩ := Option.bind_eq_some_iff.mp h
      refine xr_callV (rest := []) X O (T_X5_forget l κ t16 t15 _ ht18) lk_X11_124 hut17 (Nat.le_of_ble_eq_true rfl) rfl hl.1 rfl (Nat.le_of_ble_eq_true rfl) dX11_shore_76 ⟨Nat.le_of_ble_eq_true rfl, Nat.le_of_ble_eq_true rfl⟩ (fun H locs O => ?_)
      refine W.eq (g2 := F0 m 79 ls []) rfl ?_
      refine lv_aload_n hx hb dX11_shore_79 rfl (lv_at hl 1 rfl) ?_
      obtain ⟨t19, ht19, h⟩ := Option.bind_eq_some_iff.mp h
      refine xr_getP X O ht19 fl_X11_19 dX11_shore_80 ?_
      obtain ⟨t20, ht20, h⟩ := Option.bind_eq_some_iff.mp h
      refine xr_getI X O ht20 fl_X11_127 (Or.inl rfl) dX11_shore_83 ?_
      rw [← Option.some.inj h] at hK
      have hK : (t20, t18) = (ro, mo) := hK
      obtain ⟨hK1, hK2⟩ := Prod.mk.inj hK
      rw [hK2] at O
      refine xr_top (w := .int ro) (by rw [hK1]) ?_
      exact xr_iret X hr hlk O dX11_shore_86
    rw [if_pos hc30] at h
    refine lv_bipush (v := (-30 : Int32)) hx hb dX11_shore_33 (by decide) ?_
    refine lv_aload_n hx hb dX11_shore_35 rfl (lv_at hl 1 rfl) ?_
    obtain ⟨t21, ht21, h⟩ := Option.bind_eq_some_iff.mp h
    refine xr_getP X O ht21 fl_X11_12 dX11_shore_36 ?_
    obtain ⟨t22, ht22, h⟩ := Option.bind_eq_some_iff.mp h
    refine xr_getI X O ht22 fl_X11_110 (Or.inl rfl) dX11_shore_39 ?_
    refine lv_isub hx hb dX11_shore_42 ?_
    rw [← Option.some.inj h] at hK
    have hK : (((-30 : Int32) - t22), t5) = (ro, mo) := hK
    obtain ⟨hK1, hK2⟩ := Prod.mk.inj hK
    rw [hK2] at O
    refine xr_top (w := .int ro) (by rw [hK1]) ?_
    exact xr_iret X hr hlk O dX11_shore_43
  rw [if_neg hc9] at h
  refine lv_bipush (v := (-3 : Int32)) hx hb dX11_shore_12 (by decide) ?_
  rw [← Option.some.inj h] at hK
  have hK : ((-3 : Int32), M) = (ro, mo) := hK
  obtain ⟨hK1, hK2⟩ := Prod.mk.inj hK
  rw [hK2] at O
  refine xr_top (w := .int ro) (by rw [hK1]) ?_
  exact xr_iret X hr hlk O dX11_shore_14
def F_X11_fault (a0 : Nat) (a1 : Int32) (M : xM) : Option (Int32 × xM) :=
if a1 = (0 : Int32) then (
(xgP M a0 11 1).bind fun t1 =>
(xgI M t1 7 2).bind fun t2 =>
some (t2, M))
else if a1 = (1 : Int32) then (
(xgP M a0 11 1).bind fun t3 =>
(xgI M t3 7 3).bind fun t4 =>
some (t4, M))
else (
some ((-1 : Int32), M))
set_option maxRecDepth 100000 in
set_option maxHeartbeats 4000000 in
theorem T_X11_fault (l : Launch) (κ : xQ) (a0 : Nat) (a1 : Int32) (M : xM) (ro : Int32) (mo : xM) (h : F_X11_fault a0 a1 M = some (ro, mo)) : xC l yX11_fault cX11_fault 2 (some .int) 2 0 0 κ [.ref (κ.1 + a0), .int a1] M (some (.int ro)) mo := by
  refine xC_of rfl (Nat.le_of_ble_eq_true rfl) fun p e s m args below meth c X hr hlk hnm H locs ls O hl => ?_
  have X : xX p s m args c cX11_fault 2 RX11 κ := X
  have hl : lv_has ls 2 [(0, .ref (κ.1 + a0)), (1, .int a1)] := hl
  have hx := X.1
  have hb := X.2.1
  obtain ⟨x, hx0⟩ : ∃ x, (ro, mo) = x := ⟨_, rfl⟩
  rw [hx0] at h
  have hK : x = (ro, mo) := hx0.symm
  unfold F_X11_fault at h
  refine lv_iload_n hx hb dX11_fault_0 rfl (lv_at hl 1 rfl) ?_
  by_cases hs1_0 : a1 = (0 : Int32)
  · rw [if_pos hs1_0] at h
    refine xr_lupIn (tgt := 28) (off := 27) X dX11_fault_1 hs1_0 (by decide +kernel) (by decide +kernel) (by decide) ?_
    refine lv_aload_n hx hb dX11_fault_28 rfl (lv_at hl 0 rfl) ?_
    obtain ⟨t1, ht1, h⟩ := Option.bind_eq_some_iff.mp h
    refine xr_getP X O ht1 fl_X11_12 dX11_fault_29 ?_
    obtain ⟨t2, ht2, h⟩ := Option.bind_eq_some_iff.mp h
    refine xr_getI X O ht2 fl_X11_110 (Or.inl rfl) dX11_fault_32 ?_
    rw [← Option.some.inj h] at hK
    have hK : (t2, M) = (ro, mo) := hK
    obtain ⟨hK1, hK2⟩ := Prod.mk.inj hK
    rw [hK2] at O
    refine xr_top (w := .int ro) (by rw [hK1]) ?_
    exact xr_iret X hr hlk O dX11_fault_35
  rw [if_neg hs1_0] at h
  by_cases hs1_1 : a1 = (1 : Int32)
  · rw [if_pos hs1_1] at h
    refine xr_lupIn (tgt := 36) (off := 35) X dX11_fault_1 hs1_1 (by decide +kernel) (by decide +kernel) (by decide) ?_
    refine lv_aload_n hx hb dX11_fault_36 rfl (lv_at hl 0 rfl) ?_
    obtain ⟨t3, ht3, h⟩ := Option.bind_eq_some_iff.mp h
    refine xr_getP X O ht3 fl_X11_12 dX11_fault_37 ?_
    obtain ⟨t4, ht4, h⟩ := Option.bind_eq_some_iff.mp h
    refine xr_getI X O ht4 fl_X11_130 (Or.inl rfl) dX11_fault_40 ?_
    rw [← Option.some.inj h] at hK
    have hK : (t4, M) = (ro, mo) := hK
    obtain ⟨hK1, hK2⟩ := Prod.mk.inj hK
    rw [hK2] at O
    refine xr_top (w := .int ro) (by rw [hK1]) ?_
    exact xr_iret X hr hlk O dX11_fault_43
  rw [if_neg hs1_1] at h
  have ihs1_0 := xr_nei (k := 0) (by decide) hs1_0
  have ihs1_1 := xr_nei (k := 1) (by decide) hs1_1
  refine xr_lupOut (tgt := 44) (off := 43) X dX11_fault_1 (by decide +kernel) (by simp [Op.lookupswitch.offset, Ne.symm ihs1_0, Ne.symm ihs1_1]) (by decide) ?_
  refine lv_iconst (v := (-1 : Int32)) hx hb dX11_fault_44 (by decide) ?_
  rw [← Option.some.inj h] at hK
  have hK : ((-1 : Int32), M) = (ro, mo) := hK
  obtain ⟨hK1, hK2⟩ := Prod.mk.inj hK
  rw [hK2] at O
  refine xr_top (w := .int ro) (by rw [hK1]) ?_
  exact xr_iret X hr hlk O dX11_fault_45
def F_X11_isCell_19 (M : xM) : Option (Int32 × xM) :=
(xz (0 : Int32)).bind fun t5 =>
some (t5, M)
def F_X11_isCell (a0 : Nat) (a1 : Int32) (M : xM) : Option (Int32 × xM) :=
if a1 < 0 then (
F_X11_isCell_19 M)
else (
(xgP M a0 11 2).bind fun t1 =>
(xck M t1 3).bind fun _ =>
(F_X3_cells t1 M).bind fun t3 =>
if t3.1 ≤ a1 then (
F_X11_isCell_19 t3.2)
else (
(xz (1 : Int32)).bind fun t4 =>
some (t4, t3.2)))
set_option maxRecDepth 100000 in
set_option maxHeartbeats 4000000 in
theorem F_X11_isCell_19_ok (X : xX p s m args c cX11_isCell 2 RX11 κ) (hr : meth.sig.returnType = (some .boolean)) (hlk : meth.locks = false) {ro : Int32} {mo : xM} (M : xM) (x : Int32 × xM) (h : F_X11_isCell_19 M = some x) (hK : (fun o => o = (ro, mo)) x) (H : Heap) (locs : List Loc) (ls : Array Slot) (O : xO κ s M H locs) (hl : lv_has ls 2 []) : W p l e (xRm 3 0 0) s m args below meth c H locs 0 0 (xQf below args s 0 0 κ (some (.int ro)) mo) (F0 m 19 ls []) := by
  unfold F_X11_isCell_19 at h
  have hx := X.1
  have hb := X.2.1
  refine lv_iconst (v := (0 : Int32)) hx hb dX11_isCell_19 (by decide) ?_
  obtain ⟨t5, ht5, h⟩ := Option.bind_eq_some_iff.mp h
  rw [← Option.some.inj h] at hK
  have hK : (t5, M) = (ro, mo) := hK
  obtain ⟨hK1, hK2⟩ := Prod.mk.inj hK
  rw [hK1] at ht5
  rw [hK2] at O
  exact xr_zret X hr hlk O ht5 dX11_isCell_20
set_option maxRecDepth 100000 in
set_option maxHeartbeats 4000000 in
theorem T_X11_isCell (l : Launch) (κ : xQ) (a0 : Nat) (a1 : Int32) (M : xM) (ro : Int32) (mo : xM) (h : F_X11_isCell a0 a1 M = some (ro, mo)) : xC l yX11_isCell cX11_isCell 2 (some .boolean) 3 0 0 κ [.ref (κ.1 + a0), .int a1] M (some (.int ro)) mo := by
  refine xC_of rfl (Nat.le_of_ble_eq_true rfl) fun p e s m args below meth c X hr hlk hnm H locs ls O hl => ?_
  have X : xX p s m args c cX11_isCell 2 RX11 κ := X
  have hl : lv_has ls 2 [(0, .ref (κ.1 + a0)), (1, .int a1)] := hl
  have hx := X.1
  have hb := X.2.1
  obtain ⟨x, hx0⟩ : ∃ x, (ro, mo) = x := ⟨_, rfl⟩
  rw [hx0] at h
  have hK : x = (ro, mo) := hx0.symm
  unfold F_X11_isCell at h
  refine lv_iload_n hx hb dX11_isCell_0 rfl (lv_at hl 1 rfl) ?_
  refine lv_if_lt (tgt := 19) hx hb dX11_isCell_1 (by decide) (fun hc1 => ?_) (fun hc1 => ?_)
  · rw [if_pos hc1] at h
    exact F_X11_isCell_19_ok X hr hlk  M _ h hK H locs ls O (lv_sub hl [] rfl)
  rw [if_neg hc1] at h
  refine lv_iload_n hx hb dX11_isCell_4 rfl (lv_at hl 1 rfl) ?_
  refine lv_aload_n hx hb dX11_isCell_5 rfl (lv_at hl 0 rfl) ?_
  obtain ⟨t1, ht1, h⟩ := Option.bind_eq_some_iff.mp h
  refine xr_getP X O ht1 fl_X11_19 dX11_isCell_6 ?_
  obtain ⟨_, hut2, h⟩ := Option.bind_eq_some_iff.mp h
  obtain ⟨t3, ht3, h⟩ := Option.bind_eq_some_iff.mp h
  refine xr_callV (rest := [.int a1]) X O (T_X3_cells l κ t1 M _ _ ht3) lk_X11_194 hut2 (Nat.le_of_ble_eq_true rfl) rfl hl.1 rfl (Nat.le_of_ble_eq_true rfl) dX11_isCell_9 ⟨Nat.le_of_ble_eq_true rfl, Nat.le_of_ble_eq_true rfl⟩ (fun H locs O => ?_)
  refine W.eq (g2 := F0 m 12 ls [.int t3.1, .int a1]) rfl ?_
  refine lv_icmp_ge (tgt := 19) hx hb dX11_isCell_12 (by decide) (fun hc12 => ?_) (fun hc12 => ?_)
  · rw [if_pos hc12] at h
    exact F_X11_isCell_19_ok X hr hlk  t3.2 _ h hK H locs ls O (lv_sub hl [] rfl)
  rw [if_neg hc12] at h
  refine lv_iconst (v := (1 : Int32)) hx hb dX11_isCell_15 (by decide) ?_
  refine lv_goto (tgt := 20) hx hb dX11_isCell_16 (by decide) ?_
  obtain ⟨t4, ht4, h⟩ := Option.bind_eq_some_iff.mp h
  rw [← Option.some.inj h] at hK
  have hK : (t4, t3.2) = (ro, mo) := hK
  obtain ⟨hK1, hK2⟩ := Prod.mk.inj hK
  rw [hK1] at ht4
  rw [hK2] at O
  exact xr_zret X hr hlk O ht4 dX11_isCell_20
def F_X11_sand (a0 : Nat) (a1 : Int32) (M : xM) : Option (Int32 × xM) :=
(xck M a0 11).bind fun _ =>
(F_X11_isCell a0 a1 M).bind fun t2 =>
if t2.1 = 0 then (
some ((-2 : Int32), t2.2))
else (
(xgP t2.2 a0 11 3).bind fun t3 =>
(xgP t2.2 t3 0 0).bind fun t4 =>
(xaI t2.2 20 t4 a1).bind fun t5 =>
some (t5, t2.2))
set_option maxRecDepth 100000 in
set_option maxHeartbeats 4000000 in
theorem T_X11_sand (l : Launch) (κ : xQ) (a0 : Nat) (a1 : Int32) (M : xM) (ro : Int32) (mo : xM) (h : F_X11_sand a0 a1 M = some (ro, mo)) : xC l yX11_sand cX11_sand 2 (some .int) 4 0 0 κ [.ref (κ.1 + a0), .int a1] M (some (.int ro)) mo := by
  refine xC_of rfl (Nat.le_of_ble_eq_true rfl) fun p e s m args below meth c X hr hlk hnm H locs ls O hl => ?_
  have X : xX p s m args c cX11_sand 2 RX11 κ := X
  have hl : lv_has ls 2 [(0, .ref (κ.1 + a0)), (1, .int a1)] := hl
  have hx := X.1
  have hb := X.2.1
  obtain ⟨x, hx0⟩ : ∃ x, (ro, mo) = x := ⟨_, rfl⟩
  rw [hx0] at h
  have hK : x = (ro, mo) := hx0.symm
  unfold F_X11_sand at h
  refine lv_aload_n hx hb dX11_sand_0 rfl (lv_at hl 0 rfl) ?_
  refine lv_iload_n hx hb dX11_sand_1 rfl (lv_at hl 1 rfl) ?_
  obtain ⟨_, hut1, h⟩ := Option.bind_eq_some_iff.mp h
  obtain ⟨t2, ht2, h⟩ := Option.bind_eq_some_iff.mp h
  refine xr_callV (rest := []) X O (T_X11_isCell l κ a0 a1 M _ _ ht2) lk_X11_133 hut1 (Nat.le_of_ble_eq_true rfl) rfl hl.1 rfl (Nat.le_of_ble_eq_true rfl) dX11_sand_2 ⟨Nat.le_of_ble_eq_true rfl, Nat.le_of_ble_eq_true rfl⟩ (fun H locs O => ?_)
  refine W.eq (g2 := F0 m 5 ls [.int t2.1]) rfl ?_
  refine lv_if_eq (tgt := 20) hx hb dX11_sand_5 (by decide) (fun hc5 => ?_) (fun hc5 => ?_)
  · rw [if_pos hc5] at h
    refine lv_bipush (v := (-2 : Int32)) hx hb dX11_sand_20 (by decide) ?_
    rw [← Option.some.inj h] at hK
    have hK : ((-2 : Int32), t2.2) = (ro, mo) := hK
    obtain ⟨hK1, hK2⟩ := Prod.mk.inj hK
    rw [hK2] at O
    refine xr_top (w := .int ro) (by rw [hK1]) ?_
    exact xr_iret X hr hlk O dX11_sand_22
  rw [if_neg hc5] at h
  refine lv_aload_n hx hb dX11_sand_8 rfl (lv_at hl 0 rfl) ?_
  obtain ⟨t3, ht3, h⟩ := Option.bind_eq_some_iff.mp h
  refine xr_getP X O ht3 fl_X11_26 dX11_sand_9 ?_
  obtain ⟨t4, ht4, h⟩ := Option.bind_eq_some_iff.mp h
  refine xr_getP X O ht4 fl_X11_136 dX11_sand_12 ?_
  refine lv_iload_n hx hb dX11_sand_15 rfl (lv_at hl 1 rfl) ?_
  obtain ⟨t5, ht5, h⟩ := Option.bind_eq_some_iff.mp h
  refine xr_aldI X O ht5 dX11_sand_16 ?_
  refine lv_goto (tgt := 22) hx hb dX11_sand_17 (by decide) ?_
  rw [← Option.some.inj h] at hK
  have hK : (t5, t2.2) = (ro, mo) := hK
  obtain ⟨hK1, hK2⟩ := Prod.mk.inj hK
  rw [hK2] at O
  refine xr_top (w := .int ro) (by rw [hK1]) ?_
  exact xr_iret X hr hlk O dX11_sand_22
def F_X11_isHouse_19 (M : xM) : Option (Int32 × xM) :=
(xz (0 : Int32)).bind fun t4 =>
some (t4, M)
def F_X11_isHouse (a0 : Nat) (a1 : Int32) (M : xM) : Option (Int32 × xM) :=
if a1 < 0 then (
F_X11_isHouse_19 M)
else (
(xgP M a0 11 3).bind fun t1 =>
(xgI M t1 0 3).bind fun t2 =>
if t2 ≤ a1 then (
F_X11_isHouse_19 M)
else (
(xz (1 : Int32)).bind fun t3 =>
some (t3, M)))
set_option maxRecDepth 100000 in
set_option maxHeartbeats 4000000 in
theorem F_X11_isHouse_19_ok (X : xX p s m args c cX11_isHouse 2 RX11 κ) (hr : meth.sig.returnType = (some .boolean)) (hlk : meth.locks = false) {ro : Int32} {mo : xM} (M : xM) (x : Int32 × xM) (h : F_X11_isHouse_19 M = some x) (hK : (fun o => o = (ro, mo)) x) (H : Heap) (locs : List Loc) (ls : Array Slot) (O : xO κ s M H locs) (hl : lv_has ls 2 []) : W p l e (xRm 2 0 0) s m args below meth c H locs 0 0 (xQf below args s 0 0 κ (some (.int ro)) mo) (F0 m 19 ls []) := by
  unfold F_X11_isHouse_19 at h
  have hx := X.1
  have hb := X.2.1
  refine lv_iconst (v := (0 : Int32)) hx hb dX11_isHouse_19 (by decide) ?_
  obtain ⟨t4, ht4, h⟩ := Option.bind_eq_some_iff.mp h
  rw [← Option.some.inj h] at hK
  have hK : (t4, M) = (ro, mo) := hK
  obtain ⟨hK1, hK2⟩ := Prod.mk.inj hK
  rw [hK1] at ht4
  rw [hK2] at O
  exact xr_zret X hr hlk O ht4 dX11_isHouse_20
set_option maxRecDepth 100000 in
set_option maxHeartbeats 4000000 in
theorem T_X11_isHouse (l : Launch) (κ : xQ) (a0 : Nat) (a1 : Int32) (M : xM) (ro : Int32) (mo : xM) (h : F_X11_isHouse a0 a1 M = some (ro, mo)) : xC l yX11_isHouse cX11_isHouse 2 (some .boolean) 2 0 0 κ [.ref (κ.1 + a0), .int a1] M (some (.int ro)) mo := by
  refine xC_of rfl (Nat.le_of_ble_eq_true rfl) fun p e s m args below meth c X hr hlk hnm H locs ls O hl => ?_
  have X : xX p s m args c cX11_isHouse 2 RX11 κ := X
  have hl : lv_has ls 2 [(0, .ref (κ.1 + a0)), (1, .int a1)] := hl
  have hx := X.1
  have hb := X.2.1
  obtain ⟨x, hx0⟩ : ∃ x, (ro, mo) = x := ⟨_, rfl⟩
  rw [hx0] at h
  have hK : x = (ro, mo) := hx0.symm
  unfold F_X11_isHouse at h
  refine lv_iload_n hx hb dX11_isHouse_0 rfl (lv_at hl 1 rfl) ?_
  refine lv_if_lt (tgt := 19) hx hb dX11_isHouse_1 (by decide) (fun hc1 => ?_) (fun hc1 => ?_)
  · rw [if_pos hc1] at h
    exact F_X11_isHouse_19_ok X hr hlk  M _ h hK H locs ls O (lv_sub hl [] rfl)
  rw [if_neg hc1] at h
  refine lv_iload_n hx hb dX11_isHouse_4 rfl (lv_at hl 1 rfl) ?_
  refine lv_aload_n hx hb dX11_isHouse_5 rfl (lv_at hl 0 rfl) ?_
  obtain ⟨t1, ht1, h⟩ := Option.bind_eq_some_iff.mp h
  refine xr_getP X O ht1 fl_X11_26 dX11_isHouse_6 ?_
  obtain ⟨t2, ht2, h⟩ := Option.bind_eq_some_iff.mp h
  refine xr_getI X O ht2 fl_X11_212 (Or.inl rfl) dX11_isHouse_9 ?_
  refine lv_icmp_ge (tgt := 19) hx hb dX11_isHouse_12 (by decide) (fun hc12 => ?_) (fun hc12 => ?_)
  · rw [if_pos hc12] at h
    exact F_X11_isHouse_19_ok X hr hlk  M _ h hK H locs ls O (lv_sub hl [] rfl)
  rw [if_neg hc12] at h
  refine lv_iconst (v := (1 : Int32)) hx hb dX11_isHouse_15 (by decide) ?_
  refine lv_goto (tgt := 20) hx hb dX11_isHouse_16 (by decide) ?_
  obtain ⟨t3, ht3, h⟩ := Option.bind_eq_some_iff.mp h
  rw [← Option.some.inj h] at hK
  have hK : (t3, M) = (ro, mo) := hK
  obtain ⟨hK1, hK2⟩ := Prod.mk.inj hK
  rw [hK1] at ht3
  rw [hK2] at O
  exact xr_zret X hr hlk O ht3 dX11_isHouse_20
def F_X11_house (a0 : Nat) (a1 : Int32) (a2 : Int32) (M : xM) : Option (Int32 × xM) :=
(xck M a0 11).bind fun _ =>
(F_X11_isHouse a0 a1 M).bind fun t2 =>
if t2.1 = 0 then (
some ((-2 : Int32), t2.2))
else (
if a2 = (0 : Int32) then (
(xgP t2.2 a0 11 3).bind fun t3 =>
(xgP t2.2 t3 0 1).bind fun t4 =>
(xaI t2.2 20 t4 a1).bind fun t5 =>
some (t5, t2.2))
else if a2 = (1 : Int32) then (
(xgP t2.2 a0 11 3).bind fun t6 =>
(xgP t2.2 t6 0 2).bind fun t7 =>
(xaI t2.2 20 t7 a1).bind fun t8 =>
some (t8, t2.2))
else if a2 = (2 : Int32) then (
(xgP t2.2 a0 11 3).bind fun t9 =>
(xgI t2.2 t9 0 4).bind fun t10 =>
some (((t10 >>> (a1 &&& 31)) &&& (1 : Int32)), t2.2))
else (
some ((-2 : Int32), t2.2)))
set_option maxRecDepth 100000 in
set_option maxHeartbeats 4000000 in
theorem T_X11_house (l : Launch) (κ : xQ) (a0 : Nat) (a1 : Int32) (a2 : Int32) (M : xM) (ro : Int32) (mo : xM) (h : F_X11_house a0 a1 a2 M = some (ro, mo)) : xC l yX11_house cX11_house 3 (some .int) 3 0 0 κ [.ref (κ.1 + a0), .int a1, .int a2] M (some (.int ro)) mo := by
  refine xC_of rfl (Nat.le_of_ble_eq_true rfl) fun p e s m args below meth c X hr hlk hnm H locs ls O hl => ?_
  have X : xX p s m args c cX11_house 3 RX11 κ := X
  have hl : lv_has ls 3 [(0, .ref (κ.1 + a0)), (1, .int a1), (2, .int a2)] := hl
  have hx := X.1
  have hb := X.2.1
  obtain ⟨x, hx0⟩ : ∃ x, (ro, mo) = x := ⟨_, rfl⟩
  rw [hx0] at h
  have hK : x = (ro, mo) := hx0.symm
  unfold F_X11_house at h
  refine lv_aload_n hx hb dX11_house_0 rfl (lv_at hl 0 rfl) ?_
  refine lv_iload_n hx hb dX11_house_1 rfl (lv_at hl 1 rfl) ?_
  obtain ⟨_, hut1, h⟩ := Option.bind_eq_some_iff.mp h
  obtain ⟨t2, ht2, h⟩ := Option.bind_eq_some_iff.mp h
  refine xr_callV (rest := []) X O (T_X11_isHouse l κ a0 a1 M _ _ ht2) lk_X11_139 hut1 (Nat.le_of_ble_eq_true rfl) rfl hl.1 rfl (Nat.le_of_ble_eq_true rfl) dX11_house_2 ⟨Nat.le_of_ble_eq_true rfl, Nat.le_of_ble_eq_true rfl⟩ (fun H locs O => ?_)
  refine W.eq (g2 := F0 m 5 ls [.int t2.1]) rfl ?_
  refine lv_if_ne (tgt := 11) hx hb dX11_house_5 (by decide) (fun hc5 => ?_) (fun hc5 => ?_)
  · rw [if_neg hc5] at h
    refine lv_iload_n hx hb dX11_house_11 rfl (lv_at hl 2 rfl) ?_
    by_cases hs12_0 : a2 = (0 : Int32)
    · rw [if_pos hs12_0] at h
      refine xr_tabIn (tgt := 40) (off := 28) X dX11_house_12 hs12_0 (by decide +kernel) (by decide +kernel) (by decide +kernel) (by decide) ?_
      refine lv_aload_n hx hb dX11_house_40 rfl (lv_at hl 0 rfl) ?_
      obtain ⟨t3, ht3, h⟩ := Option.bind_eq_some_iff.mp h
      refine xr_getP X O ht3 fl_X11_26 dX11_house_41 ?_
      obtain ⟨t4, ht4, h⟩ := Option.bind_eq_some_iff.mp h
      refine xr_getP X O ht4 fl_X11_142 dX11_house_44 ?_
      refine lv_iload_n hx hb dX11_house_47 rfl (lv_at hl 1 rfl) ?_
      obtain ⟨t5, ht5, h⟩ := Option.bind_eq_some_iff.mp h
      refine xr_aldI X O ht5 dX11_house_48 ?_
      rw [← Option.some.inj h] at hK
      have hK : (t5, t2.2) = (ro, mo) := hK
      obtain ⟨hK1, hK2⟩ := Prod.mk.inj hK
      rw [hK2] at O
      refine xr_top (w := .int ro) (by rw [hK1]) ?_
      exact xr_iret X hr hlk O dX11_house_49
    rw [if_neg hs12_0] at h
    by_cases hs12_1 : a2 = (1 : Int32)
    · rw [if_pos hs12_1] at h
      refine xr_tabIn (tgt := 50) (off := 38) X dX11_house_12 hs12_1 (by decide +kernel) (by decide +kernel) (by decide +kernel) (by decide) ?_
      refine lv_aload_n hx hb dX11_house_50 rfl (lv_at hl 0 rfl) ?_
      obtain ⟨t6, ht6, h⟩ := Option.bind_eq_some_iff.mp h
      refine xr_getP X O ht6 fl_X11_26 dX11_house_51 ?_
      obtain ⟨t7, ht7, h⟩ := Option.bind_eq_some_iff.mp h
      refine xr_getP X O ht7 fl_X11_145 dX11_house_54 ?_
      refine lv_iload_n hx hb dX11_house_57 rfl (lv_at hl 1 rfl) ?_
      obtain ⟨t8, ht8, h⟩ := Option.bind_eq_some_iff.mp h
      refine xr_aldI X O ht8 dX11_house_58 ?_
      rw [← Option.some.inj h] at hK
      have hK : (t8, t2.2) = (ro, mo) := hK
      obtain ⟨hK1, hK2⟩ := Prod.mk.inj hK
      rw [hK2] at O
      refine xr_top (w := .int ro) (by rw [hK1]) ?_
      exact xr_iret X hr hlk O dX11_house_59
    rw [if_neg hs12_1] at h
    by_cases hs12_2 : a2 = (2 : Int32)
    · rw [if_pos hs12_2] at h
      refine xr_tabIn (tgt := 60) (off := 48) X dX11_house_12 hs12_2 (by decide +kernel) (by decide +kernel) (by decide +kernel) (by decide) ?_
      refine lv_aload_n hx hb dX11_house_60 rfl (lv_at hl 0 rfl) ?_
      obtain ⟨t9, ht9, h⟩ := Option.bind_eq_some_iff.mp h
      refine xr_getP X O ht9 fl_X11_26 dX11_house_61 ?_
      obtain ⟨t10, ht10, h⟩ := Option.bind_eq_some_iff.mp h
      refine xr_getI X O ht10 fl_X11_148 (Or.inl rfl) dX11_house_64 ?_
      refine lv_iload_n hx hb dX11_house_67 rfl (lv_at hl 1 rfl) ?_
      refine lv_ishr hx hb dX11_house_68 ?_
      refine lv_iconst (v := (1 : Int32)) hx hb dX11_house_69 (by decide) ?_
      refine lv_iand hx hb dX11_house_70 ?_
      rw [← Option.some.inj h] at hK
      have hK : (((t10 >>> (a1 &&& 31)) &&& (1 : Int32)), t2.2) = (ro, mo) := hK
      obtain ⟨hK1, hK2⟩ := Prod.mk.inj hK
      rw [hK2] at O
      refine xr_top (w := .int ro) (by rw [hK1]) ?_
      exact xr_iret X hr hlk O dX11_house_71
    rw [if_neg hs12_2] at h
    have ihs12_0 := xr_nei (k := 0) (by decide) hs12_0
    have ihs12_1 := xr_nei (k := 1) (by decide) hs12_1
    have ihs12_2 := xr_nei (k := 2) (by decide) hs12_2
    refine lv_tableOut (tgt := 72) hx hb dX11_house_12 (by omega) (by decide) ?_
    refine lv_bipush (v := (-2 : Int32)) hx hb dX11_house_72 (by decide) ?_
    rw [← Option.some.inj h] at hK
    have hK : ((-2 : Int32), t2.2) = (ro, mo) := hK
    obtain ⟨hK1, hK2⟩ := Prod.mk.inj hK
    rw [hK2] at O
    refine xr_top (w := .int ro) (by rw [hK1]) ?_
    exact xr_iret X hr hlk O dX11_house_74
  rw [if_pos hc5] at h
  refine lv_bipush (v := (-2 : Int32)) hx hb dX11_house_8 (by decide) ?_
  rw [← Option.some.inj h] at hK
  have hK : ((-2 : Int32), t2.2) = (ro, mo) := hK
  obtain ⟨hK1, hK2⟩ := Prod.mk.inj hK
  rw [hK2] at O
  refine xr_top (w := .int ro) (by rw [hK1]) ?_
  exact xr_iret X hr hlk O dX11_house_10
def F_X11_plot (a0 : Nat) (a1 : Int32) (a2 : Int32) (M : xM) : Option (Int32 × xM) :=
if a1 < 0 then (
some ((-2 : Int32), M))
else (
(xgP M a0 11 2).bind fun t1 =>
(xgI M t1 3 5).bind fun t2 =>
if a1 < t2 then (
if a2 = (0 : Int32) then (
(xgP M a0 11 2).bind fun t3 =>
(xgP M t3 3 12).bind fun t4 =>
(xaI M 20 t4 a1).bind fun t5 =>
some (t5, M))
else if a2 = (1 : Int32) then (
(xgP M a0 11 2).bind fun t6 =>
(xgP M t6 3 13).bind fun t7 =>
(xaI M 20 t7 a1).bind fun t8 =>
some (t8, M))
else if a2 = (2 : Int32) then (
(xgP M a0 11 2).bind fun t9 =>
(xgP M t9 3 14).bind fun t10 =>
(xaI M 20 t10 a1).bind fun t11 =>
some (t11, M))
else (
some ((-2 : Int32), M)))
else (
some ((-2 : Int32), M)))
set_option maxRecDepth 100000 in
set_option maxHeartbeats 4000000 in
theorem T_X11_plot (l : Launch) (κ : xQ) (a0 : Nat) (a1 : Int32) (a2 : Int32) (M : xM) (ro : Int32) (mo : xM) (h : F_X11_plot a0 a1 a2 M = some (ro, mo)) : xC l yX11_plot cX11_plot 3 (some .int) 2 0 0 κ [.ref (κ.1 + a0), .int a1, .int a2] M (some (.int ro)) mo := by
  refine xC_of rfl (Nat.le_of_ble_eq_true rfl) fun p e s m args below meth c X hr hlk hnm H locs ls O hl => ?_
  have X : xX p s m args c cX11_plot 3 RX11 κ := X
  have hl : lv_has ls 3 [(0, .ref (κ.1 + a0)), (1, .int a1), (2, .int a2)] := hl
  have hx := X.1
  have hb := X.2.1
  obtain ⟨x, hx0⟩ : ∃ x, (ro, mo) = x := ⟨_, rfl⟩
  rw [hx0] at h
  have hK : x = (ro, mo) := hx0.symm
  unfold F_X11_plot at h
  refine lv_iload_n hx hb dX11_plot_0 rfl (lv_at hl 1 rfl) ?_
  refine lv_if_lt (tgt := 15) hx hb dX11_plot_1 (by decide) (fun hc1 => ?_) (fun hc1 => ?_)
  · rw [if_pos hc1] at h
    refine lv_bipush (v := (-2 : Int32)) hx hb dX11_plot_15 (by decide) ?_
    rw [← Option.some.inj h] at hK
    have hK : ((-2 : Int32), M) = (ro, mo) := hK
    obtain ⟨hK1, hK2⟩ := Prod.mk.inj hK
    rw [hK2] at O
    refine xr_top (w := .int ro) (by rw [hK1]) ?_
    exact xr_iret X hr hlk O dX11_plot_17
  rw [if_neg hc1] at h
  refine lv_iload_n hx hb dX11_plot_4 rfl (lv_at hl 1 rfl) ?_
  refine lv_aload_n hx hb dX11_plot_5 rfl (lv_at hl 0 rfl) ?_
  obtain ⟨t1, ht1, h⟩ := Option.bind_eq_some_iff.mp h
  refine xr_getP X O ht1 fl_X11_19 dX11_plot_6 ?_
  obtain ⟨t2, ht2, h⟩ := Option.bind_eq_some_iff.mp h
  refine xr_getI X O ht2 fl_X11_151 (Or.inl rfl) dX11_plot_9 ?_
  refine lv_icmp_lt (tgt := 18) hx hb dX11_plot_12 (by decide) (fun hc12 => ?_) (fun hc12 => ?_)
  · rw [if_pos hc12] at h
    refine lv_iload_n hx hb dX11_plot_18 rfl (lv_at hl 2 rfl) ?_
    by_cases hs19_0 : a2 = (0 : Int32)
    · rw [if_pos hs19_0] at h
      refine xr_tabIn (tgt := 44) (off := 25) X dX11_plot_19 hs19_0 (by decide +kernel) (by decide +kernel) (by decide +kernel) (by decide) ?_
      refine lv_aload_n hx hb dX11_plot_44 rfl (lv_at hl 0 rfl) ?_
      obtain ⟨t3, ht3, h⟩ := Option.bind_eq_some_iff.mp h
      refine xr_getP X O ht3 fl_X11_19 dX11_plot_45 ?_
      obtain ⟨t4, ht4, h⟩ := Option.bind_eq_some_iff.mp h
      refine xr_getP X O ht4 fl_X11_154 dX11_plot_48 ?_
      refine lv_iload_n hx hb dX11_plot_51 rfl (lv_at hl 1 rfl) ?_
      obtain ⟨t5, ht5, h⟩ := Option.bind_eq_some_iff.mp h
      refine xr_aldI X O ht5 dX11_plot_52 ?_
      rw [← Option.some.inj h] at hK
      have hK : (t5, M) = (ro, mo) := hK
      obtain ⟨hK1, hK2⟩ := Prod.mk.inj hK
      rw [hK2] at O
      refine xr_top (w := .int ro) (by rw [hK1]) ?_
      exact xr_iret X hr hlk O dX11_plot_53
    rw [if_neg hs19_0] at h
    by_cases hs19_1 : a2 = (1 : Int32)
    · rw [if_pos hs19_1] at h
      refine xr_tabIn (tgt := 54) (off := 35) X dX11_plot_19 hs19_1 (by decide +kernel) (by decide +kernel) (by decide +kernel) (by decide) ?_
      refine lv_aload_n hx hb dX11_plot_54 rfl (lv_at hl 0 rfl) ?_
      obtain ⟨t6, ht6, h⟩ := Option.bind_eq_some_iff.mp h
      refine xr_getP X O ht6 fl_X11_19 dX11_plot_55 ?_
      obtain ⟨t7, ht7, h⟩ := Option.bind_eq_some_iff.mp h
      refine xr_getP X O ht7 fl_X11_157 dX11_plot_58 ?_
      refine lv_iload_n hx hb dX11_plot_61 rfl (lv_at hl 1 rfl) ?_
      obtain ⟨t8, ht8, h⟩ := Option.bind_eq_some_iff.mp h
      refine xr_aldI X O ht8 dX11_plot_62 ?_
      rw [← Option.some.inj h] at hK
      have hK : (t8, M) = (ro, mo) := hK
      obtain ⟨hK1, hK2⟩ := Prod.mk.inj hK
      rw [hK2] at O
      refine xr_top (w := .int ro) (by rw [hK1]) ?_
      exact xr_iret X hr hlk O dX11_plot_63
    rw [if_neg hs19_1] at h
    by_cases hs19_2 : a2 = (2 : Int32)
    · rw [if_pos hs19_2] at h
      refine xr_tabIn (tgt := 64) (off := 45) X dX11_plot_19 hs19_2 (by decide +kernel) (by decide +kernel) (by decide +kernel) (by decide) ?_
      refine lv_aload_n hx hb dX11_plot_64 rfl (lv_at hl 0 rfl) ?_
      obtain ⟨t9, ht9, h⟩ := Option.bind_eq_some_iff.mp h
      refine xr_getP X O ht9 fl_X11_19 dX11_plot_65 ?_
      obtain ⟨t10, ht10, h⟩ := Option.bind_eq_some_iff.mp h
      refine xr_getP X O ht10 fl_X11_160 dX11_plot_68 ?_
      refine lv_iload_n hx hb dX11_plot_71 rfl (lv_at hl 1 rfl) ?_
      obtain ⟨t11, ht11, h⟩ := Option.bind_eq_some_iff.mp h
      refine xr_aldI X O ht11 dX11_plot_72 ?_
      rw [← Option.some.inj h] at hK
      have hK : (t11, M) = (ro, mo) := hK
      obtain ⟨hK1, hK2⟩ := Prod.mk.inj hK
      rw [hK2] at O
      refine xr_top (w := .int ro) (by rw [hK1]) ?_
      exact xr_iret X hr hlk O dX11_plot_73
    rw [if_neg hs19_2] at h
    have ihs19_0 := xr_nei (k := 0) (by decide) hs19_0
    have ihs19_1 := xr_nei (k := 1) (by decide) hs19_1
    have ihs19_2 := xr_nei (k := 2) (by decide) hs19_2
    refine lv_tableOut (tgt := 74) hx hb dX11_plot_19 (by omega) (by decide) ?_
    refine lv_bipush (v := (-2 : Int32)) hx hb dX11_plot_74 (by decide) ?_
    rw [← Option.some.inj h] at hK
    have hK : ((-2 : Int32), M) = (ro, mo) := hK
    obtain ⟨hK1, hK2⟩ := Prod.mk.inj hK
    rw [hK2] at O
    refine xr_top (w := .int ro) (by rw [hK1]) ?_
    exact xr_iret X hr hlk O dX11_plot_76
  rw [if_neg hc12] at h
  refine lv_bipush (v := (-2 : Int32)) hx hb dX11_plot_15 (by decide) ?_
  rw [← Option.some.inj h] at hK
  have hK : ((-2 : Int32), M) = (ro, mo) := hK
  obtain ⟨hK1, hK2⟩ := Prod.mk.inj hK
  rw [hK2] at O
  refine xr_top (w := .int ro) (by rw [hK1]) ?_
  exact xr_iret X hr hlk O dX11_plot_17
def F_X11_level_11 (M : xM) : Option (Int32 × xM) :=
some ((-3 : Int32), M)
def F_X11_level (a0 : Nat) (a1 : Int32) (M : xM) : Option (Int32 × xM) :=
if a1 < 0 then (
F_X11_level_11 M)
else (
if a1 ≤ (999 : Int32) then (
(xgP M a0 11 5).bind fun t1 =>
(xgP M a0 11 2).bind fun t2 =>
(xgP M a0 11 3).bind fun t3 =>
(xgI M t3 0 5).bind fun t4 =>
(xck M t1 8).bind fun _ =>
(F_X8_tideAt t1 t2 a1 t4 M).bind fun t6 =>
some (t6.1, t6.2))
else (
F_X11_level_11 M))
set_option maxRecDepth 100000 in
set_option maxHeartbeats 4000000 in
theorem F_X11_level_11_ok (X : xX p s m args c cX11_level 2 RX11 κ) (hr : meth.sig.returnType = (some .int)) (hlk : meth.locks = false) {ro : Int32} {mo : xM} (M : xM) (x : Int32 × xM) (h : F_X11_level_11 M = some x) (hK : (fun o => o = (ro, mo)) x) (H : Heap) (locs : List Loc) (ls : Array Slot) (O : xO κ s M H locs) (hl : lv_has ls 2 []) : W p l e (xRm 5 0 0) s m args below meth c H locs 0 0 (xQf below args s 0 0 κ (some (.int ro)) mo) (F0 m 11 ls []) := by
  unfold F_X11_level_11 at h
  have hx := X.1
  have hb := X.2.1
  refine lv_bipush (v := (-3 : Int32)) hx hb dX11_level_11 (by decide) ?_
  refine lv_goto (tgt := 35) hx hb dX11_level_13 (by decide) ?_
  rw [← Option.some.inj h] at hK
  have hK : ((-3 : Int32), M) = (ro, mo) := hK
  obtain ⟨hK1, hK2⟩ := Prod.mk.inj hK
  rw [hK2] at O
  refine xr_top (w := .int ro) (by rw [hK1]) ?_
  exact xr_iret X hr hlk O dX11_level_35
set_option maxRecDepth 100000 in
set_option maxHeartbeats 4000000 in
theorem T_X11_level (l : Launch) (κ : xQ) (a0 : Nat) (a1 : Int32) (M : xM) (ro : Int32) (mo : xM) (h : F_X11_level a0 a1 M = some (ro, mo)) : xC l yX11_level cX11_level 2 (some .int) 5 0 0 κ [.ref (κ.1 + a0), .int a1] M (some (.int ro)) mo := by
  refine xC_of rfl (Nat.le_of_ble_eq_true rfl) fun p e s m args below meth c X hr hlk hnm H locs ls O hl => ?_
  have X : xX p s m args c cX11_level 2 RX11 κ := X
  have hl : lv_has ls 2 [(0, .ref (κ.1 + a0)), (1, .int a1)] := hl
  have hx := X.1
  have hb := X.2.1
  obtain ⟨x, hx0⟩ : ∃ x, (ro, mo) = x := ⟨_, rfl⟩
  rw [hx0] at h
  have hK : x = (ro, mo) := hx0.symm
  unfold F_X11_level at h
  refine lv_iload_n hx hb dX11_level_0 rfl (lv_at hl 1 rfl) ?_
  refine lv_if_lt (tgt := 11) hx hb dX11_level_1 (by decide) (fun hc1 => ?_) (fun hc1 => ?_)
  · rw [if_pos hc1] at h
    exact F_X11_level_11_ok X hr hlk  M _ h hK H locs ls O (lv_sub hl [] rfl)
  rw [if_neg hc1] at h
  refine lv_iload_n hx hb dX11_level_4 rfl (lv_at hl 1 rfl) ?_
  refine lv_sipush (v := (999 : Int32)) hx hb dX11_level_5 (by decide) ?_
  refine lv_icmp_le (tgt := 16) hx hb dX11_level_8 (by decide) (fun hc8 => ?_) (fun hc8 => ?_)
  · rw [if_pos hc8] at h
    refine lv_aload_n hx hb dX11_level_16 rfl (lv_at hl 0 rfl) ?_
    obtain ⟨t1, ht1, h⟩ := Option.bind_eq_some_iff.mp h
    refine xr_getP X O ht1 fl_X11_36 dX11_level_17 ?_
    refine lv_aload_n hx hb dX11_level_20 rfl (lv_at hl 0 rfl) ?_
    obtain ⟨t2, ht2, h⟩ := Option.bind_eq_some_iff.mp h
    refine xr_getP X O ht2 fl_X11_19 dX11_level_21 ?_
    refine lv_iload_n hx hb dX11_level_24 rfl (lv_at hl 1 rfl) ?_
    refine lv_aload_n hx hb dX11_level_25 rfl (lv_at hl 0 rfl) ?_
    obtain ⟨t3, ht3, h⟩ := Option.bind_eq_some_iff.mp h
    refine xr_getP X O ht3 fl_X11_26 dX11_level_26 ?_
    obtain ⟨t4, ht4, h⟩ := Option.bind_eq_some_iff.mp h
    refine xr_getI X O ht4 fl_X11_163 (Or.inl rfl) dX11_level_29 ?_
    obtain ⟨_, hut5, h⟩ := Option.bind_eq_some_iff.mp h
    obtain ⟨t6, ht6, h⟩ := Option.bind_eq_some_iff.mp h
    refine xr_callV (rest := []) X O (T_X8_tideAt l κ t1 t2 a1 t4 M _ _ ht6) lk_X11_166 hut5 (Nat.le_of_ble_eq_true rfl) rfl hl.1 rfl (Nat.le_of_ble_eq_true rfl) dX11_level_32 ⟨Nat.le_of_ble_eq_true rfl, Nat.le_of_ble_eq_true rfl⟩ (fun H locs O => ?_)
    refine W.eq (g2 := F0 m 35 ls [.int t6.1]) rfl ?_
    rw [← Option.some.inj h] at hK
    have hK : (t6.1, t6.2) = (ro, mo) := hK
    obtain ⟨hK1, hK2⟩ := Prod.mk.inj hK
    rw [hK2] at O
    refine xr_top (w := .int ro) (by rw [hK1]) ?_
    exact xr_iret X hr hlk O dX11_level_35
  rw [if_neg hc8] at h
  exact F_X11_level_11_ok X hr hlk  M _ h hK H locs ls O (lv_sub hl [] rfl)
def F_X11_isLevel_18 (M : xM) : Option (Int32 × xM) :=
(xz (0 : Int32)).bind fun t2 =>
some (t2, M)
def F_X11_isLevel (a0 : Int64) (M : xM) : Option (Int32 × xM) :=
if (lg_cmp a0 (0 : Int64)) < 0 then (
F_X11_isLevel_18 M)
else (
if 0 < (lg_cmp a0 (10 : Int64)) then (
F_X11_isLevel_18 M)
else (
(xz (1 : Int32)).bind fun t1 =>
some (t1, M)))
set_option maxRecDepth 100000 in
set_option maxHeartbeats 4000000 in
theorem F_X11_isLevel_18_ok (X : xX p s m args c cX11_isLevel 2 RX11 κ) (hr : meth.sig.returnType = (some .boolean)) (hlk : meth.locks = false) {ro : Int32} {mo : xM} (M : xM) (x : Int32 × xM) (h : F_X11_isLevel_18 M = some x) (hK : (fun o => o = (ro, mo)) x) (H : Heap) (locs : List Loc) (ls : Array Slot) (O : xO κ s M H locs) (hl : lv_has ls 2 []) : W p l e (xRm 2 0 0) s m args below meth c H locs 0 0 (xQf below args s 0 0 κ (some (.int ro)) mo) (F0 m 18 ls []) := by
  unfold F_X11_isLevel_18 at h
  have hx := X.1
  have hb := X.2.1
  refine lv_iconst (v := (0 : Int32)) hx hb dX11_isLevel_18 (by decide) ?_
  obtain ⟨t2, ht2, h⟩ := Option.bind_eq_some_iff.mp h
  rw [← Option.some.inj h] at hK
  have hK : (t2, M) = (ro, mo) := hK
  obtain ⟨hK1, hK2⟩ := Prod.mk.inj hK
  rw [hK1] at ht2
  rw [hK2] at O
  exact xr_zret X hr hlk O ht2 dX11_isLevel_19
set_option maxRecDepth 100000 in
set_option maxHeartbeats 4000000 in
theorem T_X11_isLevel (l : Launch) (κ : xQ) (a0 : Int64) (M : xM) (ro : Int32) (mo : xM) (h : F_X11_isLevel a0 M = some (ro, mo)) : xC l yX11_isLevel cX11_isLevel 2 (some .boolean) 2 0 0 κ [.long a0] M (some (.int ro)) mo := by
  refine xC_of rfl (Nat.le_of_ble_eq_true rfl) fun p e s m args below meth c X hr hlk hnm H locs ls O hl => ?_
  have X : xX p s m args c cX11_isLevel 2 RX11 κ := X
  have hl : lv_has ls 2 [(0, .long a0)] := hl
  have hx := X.1
  have hb := X.2.1
  obtain ⟨x, hx0⟩ : ∃ x, (ro, mo) = x := ⟨_, rfl⟩
  rw [hx0] at h
  have hK : x = (ro, mo) := hx0.symm
  unfold F_X11_isLevel at h
  refine lv_lload_n hx hb dX11_isLevel_0 rfl (lv_at hl 0 rfl) ?_
  refine lv_lconst (v := (0 : Int64)) hx hb dX11_isLevel_1 (by decide) ?_
  refine W.lcmp hx hb dX11_isLevel_2 ?_
  refine lv_if_lt (tgt := 18) hx hb dX11_isLevel_3 (by decide) (fun hc3 => ?_) (fun hc3 => ?_)
  · rw [if_pos hc3] at h
    exact F_X11_isLevel_18_ok X hr hlk  M _ h hK H locs ls O (lv_sub hl [] rfl)
  rw [if_neg hc3] at h
  refine lv_lload_n hx hb dX11_isLevel_6 rfl (lv_at hl 0 rfl) ?_
  refine lv_ldc2 (v := (10 : Int64)) hx hb X.2.2.2.1 (X.2.2.2.2.1 _ ct_X11_365) dX11_isLevel_7 ?_
  refine W.lcmp hx hb dX11_isLevel_10 ?_
  refine lv_if_gt (tgt := 18) hx hb dX11_isLevel_11 (by decide) (fun hc11 => ?_) (fun hc11 => ?_)
  · rw [if_pos hc11] at h
    exact F_X11_isLevel_18_ok X hr hlk  M _ h hK H locs ls O (lv_sub hl [] rfl)
  rw [if_neg hc11] at h
  refine lv_iconst (v := (1 : Int32)) hx hb dX11_isLevel_14 (by decide) ?_
  refine lv_goto (tgt := 19) hx hb dX11_isLevel_15 (by decide) ?_
  obtain ⟨t1, ht1, h⟩ := Option.bind_eq_some_iff.mp h
  rw [← Option.some.inj h] at hK
  have hK : (t1, M) = (ro, mo) := hK
  obtain ⟨hK1, hK2⟩ := Prod.mk.inj hK
  rw [hK1] at ht1
  rw [hK2] at O
  exact xr_zret X hr hlk O ht1 dX11_isLevel_19
def F_X11_wet (a0 : Nat) (a1 : Int32) (M : xM) : Option (Int32 × xM) :=
(F_X11_isLevel a1.toInt64 M).bind fun t1 =>
if t1.1 = 0 then (
some ((-3 : Int32), t1.2))
else (
(xgP t1.2 a0 11 2).bind fun t2 =>
(xgP t1.2 a0 11 3).bind fun t3 =>
(xgP t1.2 t3 0 0).bind fun t4 =>
(F_X8_wetAt t2 t4 a1 t1.2).bind fun t5 =>
some (t5.1, t5.2))
set_option maxRecDepth 100000 in
set_option maxHeartbeats 4000000 in
theorem T_X11_wet (l : Launch) (κ : xQ) (a0 : Nat) (a1 : Int32) (M : xM) (ro : Int32) (mo : xM) (h : F_X11_wet a0 a1 M = some (ro, mo)) : xC l yX11_wet cX11_wet 2 (some .int) 4 0 0 κ [.ref (κ.1 + a0), .int a1] M (some (.int ro)) mo := by
  refine xC_of rfl (Nat.le_of_ble_eq_true rfl) fun p e s m args below meth c X hr hlk hnm H locs ls O hl => ?_
  have X : xX p s m args c cX11_wet 2 RX11 κ := X
  have hl : lv_has ls 2 [(0, .ref (κ.1 + a0)), (1, .int a1)] := hl
  have hx := X.1
  have hb := X.2.1
  obtain ⟨x, hx0⟩ : ∃ x, (ro, mo) = x := ⟨_, rfl⟩
  rw [hx0] at h
  have hK : x = (ro, mo) := hx0.symm
  unfold F_X11_wet at h
  refine lv_iload_n hx hb dX11_wet_0 rfl (lv_at hl 1 rfl) ?_
  refine lv_i2l (v := a1.toInt64) hx hb dX11_wet_1 rfl ?_
  obtain ⟨t1, ht1, h⟩ := Option.bind_eq_some_iff.mp h
  refine xr_callS (rest := []) X O (T_X11_isLevel l κ a1.toInt64 M _ _ ht1) lk_X11_170 (Nat.le_of_ble_eq_true rfl) rfl hl.1 rfl (Nat.le_of_ble_eq_true rfl) dX11_wet_2 ⟨Nat.le_of_ble_eq_true rfl, Nat.le_of_ble_eq_true rfl⟩ (fun H locs O => ?_)
  refine W.eq (g2 := F0 m 5 ls [.int t1.1]) rfl ?_
  refine lv_if_eq (tgt := 26) hx hb dX11_wet_5 (by decide) (fun hc5 => ?_) (fun hc5 => ?_)
  · rw [if_pos hc5] at h
    refine lv_bipush (v := (-3 : Int32)) hx hb dX11_wet_26 (by decide) ?_
    rw [← Option.some.inj h] at hK
    have hK : ((-3 : Int32), t1.2) = (ro, mo) := hK
    obtain ⟨hK1, hK2⟩ := Prod.mk.inj hK
    rw [hK2] at O
    refine xr_top (w := .int ro) (by rw [hK1]) ?_
    exact xr_iret X hr hlk O dX11_wet_28
  rw [if_neg hc5] at h
  refine lv_aload_n hx hb dX11_wet_8 rfl (lv_at hl 0 rfl) ?_
  obtain ⟨t2, ht2, h⟩ := Option.bind_eq_some_iff.mp h
  refine xr_getP X O ht2 fl_X11_19 dX11_wet_9 ?_
  refine lv_aload_n hx hb dX11_wet_12 rfl (lv_at hl 0 rfl) ?_
  obtain ⟨t3, ht3, h⟩ := Option.bind_eq_some_iff.mp h
  refine xr_getP X O ht3 fl_X11_26 dX11_wet_13 ?_
  obtain ⟨t4, ht4, h⟩ := Option.bind_eq_some_iff.mp h
  refine xr_getP X O ht4 fl_X11_136 dX11_wet_16 ?_
  refine lv_iload_n hx hb dX11_wet_19 rfl (lv_at hl 1 rfl) ?_
  obtain ⟨t5, ht5, h⟩ := Option.bind_eq_some_iff.mp h
  refine xr_callS (rest := []) X O (T_X8_wetAt l κ t2 t4 a1 t1.2 _ _ ht5) lk_X11_174 (Nat.le_of_ble_eq_true rfl) rfl hl.1 rfl (Nat.le_of_ble_eq_true rfl) dX11_wet_20 ⟨Nat.le_of_ble_eq_true rfl, Nat.le_of_ble_eq_true rfl⟩ (fun H locs O => ?_)
  refine W.eq (g2 := F0 m 23 ls [.int t5.1]) rfl ?_
  refine lv_goto (tgt := 28) hx hb dX11_wet_23 (by decide) ?_
  rw [← Option.some.inj h] at hK
  have hK : (t5.1, t5.2) = (ro, mo) := hK
  obtain ⟨hK1, hK2⟩ := Prod.mk.inj hK
  rw [hK2] at O
  refine xr_top (w := .int ro) (by rw [hK1]) ?_
  exact xr_iret X hr hlk O dX11_wet_28
def F_X11_minutes_54 (v0 : Nat) (M : xM) : Option (Int32 × xM) :=
(xgP M v0 11 6).bind fun t10 =>
(xck M t10 5).bind fun _ =>
(F_X5_confirm t10 M).bind fun t12 =>
(xgP t12 v0 11 3).bind fun t13 =>
(xgI t12 t13 0 4).bind fun t14 =>
(F_J6_bitCount_0f7a4 t14 t12).bind fun t15 =>
some (t15.1, t15.2)
def F_X11_minutes_27b (v0 : Nat) (v1 : Int32) : (Int32 × xM) → Option ((Int32 × xM) ⊕ (Int32 × xM)) := fun ⟨v2, M⟩ =>
if v1 ≤ v2 then (
(F_X11_minutes_54 v0 M).map Sum.inr)
else (
(xgP M v0 11 5).bind fun t5 =>
(xgP M v0 11 2).bind fun t6 =>
(xgP M v0 11 3).bind fun t7 =>
(xck M t5 8).bind fun _ =>
(F_X8_tick t5 t6 t7 M).bind fun t9 =>
some (.inl ((v2 + 1), t9.2)))
def F_X11_minutes_27 (v0 : Nat) (v1 : Int32) (v2 : Int32) (M : xM) : Option (Int32 × xM) := xit (F_X11_minutes_27b v0 v1) xFU (v2, M)
def F_X11_minutes (a0 : Nat) (a1 : Int32) (M : xM) : Option (Int32 × xM) :=
if a1 < (1 : Int32) then (
some ((-3 : Int32), M))
else (
if a1 ≤ (99 : Int32) then (
(xgP M a0 11 6).bind fun t1 =>
(xgP M a0 11 3).bind fun t2 =>
(xck M t1 5).bind fun _ =>
(F_X5_keep t1 t2 M).bind fun t4 =>
F_X11_minutes_27 a0 a1 (0 : Int32) t4)
else (
some ((-3 : Int32), M)))
set_option maxRecDepth 100000 in
set_option maxHeartbeats 4000000 in
theorem F_X11_minutes_54_ok (X : xX p s m args c cX11_minutes 3 RX11 κ) (hr : meth.sig.returnType = (some .int)) (hlk : meth.locks = false) {ro : Int32} {mo : xM} (v0 : Nat) (M : xM) (x : Int32 × xM) (h : F_X11_minutes_54 v0 M = some x) (hK : (fun o => o = (ro, mo)) x) (H : Heap) (locs : List Loc) (ls : Array Slot) (O : xO κ s M H locs) (hl : lv_has ls 3 [(0, .ref (κ.1 + v0))]) : W p l e (xRm 7 0 0) s m args below meth c H locs 0 0 (xQf below args s 0 0 κ (some (.int ro)) mo) (F0 m 54 ls []) := by
  unfold F_X11_minutes_54 at h
  have hx := X.1
  have hb := X.2.1
  refine lv_aload_n hx hb dX11_minutes_54 rfl (lv_at hl 0 rfl) ?_
  obtain ⟨t10, ht10, h⟩ := Option.bind_eq_some_iff.mp h
  refine xr_getP X O ht10 fl_X11_43 dX11_minutes_55 ?_
  obtain ⟨_, hut11, h⟩ := Option.bind_eq_some_iff.mp h
  obtain ⟨t12, ht12, h⟩ := Option.bind_eq_some_iff.mp h
  refine xr_callV (rest := []) X O (T_X5_confirm l κ t10 M _ ht12) lk_X11_185 hut11 (Nat.le_of_ble_eq_true rfl) rfl hl.1 rfl (Nat.le_of_ble_eq_true rfl) dX11_minutes_58 ⟨Nat.le_of_ble_eq_true rfl, Nat.le_of_ble_eq_true rfl⟩ (fun H locs O => ?_)
  refine W.eq (g2 := F0 m 61 ls []) rfl ?_
  refine lv_aload_n hx hb dX11_minutes_61 rfl (lv_at hl 0 rfl) ?_
  obtain ⟨t13, ht13, h⟩ := Option.bind_eq_some_iff.mp h
  refine xr_getP X O ht13 fl_X11_26 dX11_minutes_62 ?_
  obtain ⟨t14, ht14, h⟩ := Option.bind_eq_some_iff.mp h
  refine xr_getI X O ht14 fl_X11_148 (Or.inl rfl) dX11_minutes_65 ?_
  obtain ⟨t15, ht15, h⟩ := Option.bind_eq_some_iff.mp h
  refine xr_callS (rest := []) X O (T_J6_bitCount_0f7a4 l κ t14 t12 _ _ ht15) lk_X11_188 (Nat.le_of_ble_eq_true rfl) rfl hl.1 rfl (Nat.le_of_ble_eq_true rfl) dX11_minutes_68 ⟨Nat.le_of_ble_eq_true rfl, Nat.le_of_ble_eq_true rfl⟩ (fun H locs O => ?_)
  refine W.eq (g2 := F0 m 71 ls [.int t15.1]) rfl ?_
  rw [← Option.some.inj h] at hK
  have hK : (t15.1, t15.2) = (ro, mo) := hK
  obtain ⟨hK1, hK2⟩ := Prod.mk.inj hK
  rw [hK2] at O
  refine xr_top (w := .int ro) (by rw [hK1]) ?_
  exact xr_iret X hr hlk O dX11_minutes_71
set_option maxRecDepth 100000 in
set_option maxHeartbeats 4000000 in
theorem F_X11_minutes_27_bok (X : xX p s m args c cX11_minutes 3 RX11 κ) (hr : meth.sig.returnType = (some .int)) (hlk : meth.locks = false) {ro : Int32} {mo : xM} (v0 : Nat) (v1 : Int32) (v2 : Int32) {W27 : Int32 × xM → Prop} (hW27 : ∀ (v2 : Int32) (M : xM), W27 (v2, M) → ∀ (H : Heap) (locs : List Loc) (ls : Array Slot), xO κ s M H locs → lv_has ls 3 [(0, .ref (κ.1 + v0)), (1, .int v1), (2, .int v2)] → W p l e (xRm 7 0 0) s m args below meth c H locs 0 0 (xQf below args s 0 0 κ (some (.int ro)) mo) (F0 m 27 ls [])) (M : xM) (x : (Int32 × xM) ⊕ (Int32 × xM)) (h : F_X11_minutes_27b v0 v1 (v2, M) = some x) (hK : (xKl W27 (fun o => o = (ro, mo))) x) (H : Heap) (locs : List Loc) (ls : Array Slot) (O : xO κ s M H locs) (hl : lv_has ls 3 [(0, .ref (κ.1 + v0)), (1, .int v1), (2, .int v2)]) : W p l e (xRm 7 0 0) s m args below meth c H locs 0 0 (xQf below args s 0 0 κ (some (.int ro)) mo) (F0 m 27 ls []) := by
  unfold F_X11_minutes_27b at h
  dsimp only at h
  have hx := X.1
  have hb := X.2.1
  refine lv_iload_n hx hb dX11_minutes_27 rfl (lv_at hl 2 rfl) ?_
  refine lv_iload_n hx hb dX11_minutes_28 rfl (lv_at hl 1 rfl) ?_
  refine lv_icmp_ge (tgt := 54) hx hb dX11_minutes_29 (by decide) (fun hc29 => ?_) (fun hc29 => ?_)
  · rw [if_pos hc29] at h
    obtain ⟨_, hw0, ew0⟩ := Option.map_eq_some_iff.mp h
    rw [← ew0] at hK
    have h := hw0
    exact F_X11_minutes_54_ok X hr hlk v0 M _ h hK H locs ls O (lv_sub hl [0] rfl)
  rw [if_neg hc29] at h
  refine lv_aload_n hx hb dX11_minutes_32 rfl (lv_at hl 0 rfl) ?_
  obtain ⟨t5, ht5, h⟩ := Option.bind_eq_some_iff.mp h
  refine xr_getP X O ht5 fl_X11_36 dX11_minutes_33 ?_
  refine lv_aload_n hx hb dX11_minutes_36 rfl (lv_at hl 0 rfl) ?_
  obtain ⟨t6, ht6, h⟩ := Option.bind_eq_some_iff.mp h
  refine xr_getP X O ht6 fl_X11_19 dX11_minutes_37 ?_
  refine lv_aload_n hx hb dX11_minutes_40 rfl (lv_at hl 0 rfl) ?_
  obtain ⟨t7, ht7, h⟩ := Option.bind_eq_some_iff.mp h
  refine xr_getP X O ht7 fl_X11_26 dX11_minutes_41 ?_
  obtain ⟨_, hut8, h⟩ := Option.bind_eq_some_iff.mp h
  obtain ⟨t9, ht9, h⟩ := Option.bind_eq_some_iff.mp h
  refine xr_callV (rest := []) X O (T_X8_tick l κ t5 t6 t7 M _ _ ht9) lk_X11_181 hut8 (Nat.le_of_ble_eq_true rfl) rfl hl.1 rfl (Nat.le_of_ble_eq_true rfl) dX11_minutes_44 ⟨Nat.le_of_ble_eq_true rfl, Nat.le_of_ble_eq_true rfl⟩ (fun H locs O => ?_)
  refine W.eq (g2 := F0 m 47 ls [.int t9.1]) rfl ?_
  refine lv_pop hx hb dX11_minutes_47 rfl ?_
  refine lv_iinc (v := (v2 + 1)) (lv' := [(2, .int (v2 + 1)), (0, .ref (κ.1 + v0)), (1, .int v1)]) hx hb dX11_minutes_48 hl (k := 2) rfl rfl (by decide) rfl (fun ls hl => ?_)
  refine lv_goto (tgt := 27) hx hb dX11_minutes_51 (by decide) ?_
  rw [← Option.some.inj h] at hK
  exact hW27 (v2 + 1) t9.2 hK H locs ls O (lv_sub hl [1, 2, 0] rfl)
set_option maxRecDepth 100000 in
set_option maxHeartbeats 4000000 in
theorem F_X11_minutes_27_ok (X : xX p s m args c cX11_minutes 3 RX11 κ) (hr : meth.sig.returnType = (some .int)) (hlk : meth.locks = false) {ro : Int32} {mo : xM} (v0 : Nat) (v1 : Int32) (v2 : Int32) (M : xM) (x : Int32 × xM) (h : F_X11_minutes_27 v0 v1 v2 M = some x) (hK : (fun o => o = (ro, mo)) x) (H : Heap) (locs : List Loc) (ls : Array Slot) (O : xO κ s M H locs) (hl : lv_has ls 3 [(0, .ref (κ.1 + v0)), (1, .int v1), (2, .int v2)]) : W p l e (xRm 7 0 0) s m args below meth c H locs 0 0 (xQf below args s 0 0 κ (some (.int ro)) mo) (F0 m 27 ls []) := by
  refine xit_K (Wh := fun x => ∀ (H : Heap) (locs : List Loc) (ls : Array Slot), xO κ s x.2 H locs → lv_has ls 3 [(0, .ref (κ.1 + v0)), (1, .int v1), (2, .int x.1)] → W p l e (xRm 7 0 0) s m args below meth c H locs 0 0 (xQf below args s 0 0 κ (some (.int ro)) mo) (F0 m 27 ls [])) (Kp := (fun o => o = (ro, mo))) ?_ xFU (v2, M) x h hK H locs ls O hl
  intro y x h hK H locs ls O hl
  exact F_X11_minutes_27_bok X hr hlk v0 v1 y.1 (fun _ _ hw => hw) y.2 x h hK H locs ls O hl
set_option maxRecDepth 100000 in
set_option maxHeartbeats 4000000 in
theorem T_X11_minutes (l : Launch) (κ : xQ) (a0 : Nat) (a1 : Int32) (M : xM) (ro : Int32) (mo : xM) (h : F_X11_minutes a0 a1 M = some (ro, mo)) : xC l yX11_minutes cX11_minutes 3 (some .int) 7 0 0 κ [.ref (κ.1 + a0), .int a1] M (some (.int ro)) mo := by
  refine xC_of rfl (Nat.le_of_ble_eq_true rfl) fun p e s m args below meth c X hr hlk hnm H locs ls O hl => ?_
  have X : xX p s m args c cX11_minutes 3 RX11 κ := X
  have hl : lv_has ls 3 [(0, .ref (κ.1 + a0)), (1, .int a1)] := hl
  have hx := X.1
  have hb := X.2.1
  obtain ⟨x, hx0⟩ : ∃ x, (ro, mo) = x := ⟨_, rfl⟩
  rw [hx0] at h
  have hK : x = (ro, mo) := hx0.symm
  unfold F_X11_minutes at h
  refine lv_iload_n hx hb dX11_minutes_0 rfl (lv_at hl 1 rfl) ?_
  refine lv_iconst (v := (1 : Int32)) hx hb dX11_minutes_1 (by decide) ?_
  refine lv_icmp_lt (tgt := 11) hx hb dX11_minutes_2 (by decide) (fun hc2 => ?_) (fun hc2 => ?_)
  · rw [if_pos hc2] at h
    refine lv_bipush (v := (-3 : Int32)) hx hb dX11_minutes_11 (by decide) ?_
    rw [← Option.some.inj h] at hK
    have hK : ((-3 : Int32), M) = (ro, mo) := hK
    obtain ⟨hK1, hK2⟩ := Prod.mk.inj hK
    rw [hK2] at O
    refine xr_top (w := .int ro) (by rw [hK1]) ?_
    exact xr_iret X hr hlk O dX11_minutes_13
  rw [if_neg hc2] at h
  refine lv_iload_n hx hb dX11_minutes_5 rfl (lv_at hl 1 rfl) ?_
  refine lv_bipush (v := (99 : Int32)) hx hb dX11_minutes_6 (by decide) ?_
  refine lv_icmp_le (tgt := 14) hx hb dX11_minutes_8 (by decide) (fun hc8 => ?_) (fun hc8 => ?_)
  · rw [if_pos hc8] at h
    refine lv_aload_n hx hb dX11_minutes_14 rfl (lv_at hl 0 rfl) ?_
    obtain ⟨t1, ht1, h⟩ := Option.bind_eq_some_iff.mp h
    refine xr_getP X O ht1 fl_X11_43 dX11_minutes_15 ?_
    refine lv_aload_n hx hb dX11_minutes_18 rfl (lv_at hl 0 rfl) ?_
    obtain ⟨t2, ht2, h⟩ := Option.bind_eq_some_iff.mp h
    refine xr_getP X O ht2 fl_X11_26 dX11_minutes_19 ?_
    obtain ⟨_, hut3, h⟩ := Option.bind_eq_some_iff.mp h
    obtain ⟨t4, ht4, h⟩ := Option.bind_eq_some_iff.mp h
    refine xr_callV (rest := []) X O (T_X5_keep l κ t1 t2 M _ ht4) lk_X11_178 hut3 (Nat.le_of_ble_eq_true rfl) rfl hl.1 rfl (Nat.le_of_ble_eq_true rfl) dX11_minutes_22 ⟨Nat.le_of_ble_eq_true rfl, Nat.le_of_ble_eq_true rfl⟩ (fun H locs O => ?_)
    refine W.eq (g2 := F0 m 25 ls []) rfl ?_
    refine lv_iconst (v := (0 : Int32)) hx hb dX11_minutes_25 (by decide) ?_
    refine lv_istore_n (lv' := [(2, .int (0 : Int32)), (0, .ref (κ.1 + a0)), (1, .int a1)]) hx hb dX11_minutes_26 rfl hl (by decide) rfl (fun ls hl => ?_)
    exact F_X11_minutes_27_ok X hr hlk a0 a1 (0 : Int32) t4 _ h hK H locs ls O (lv_sub hl [1, 2, 0] rfl)
  rw [if_neg hc8] at h
  refine lv_bipush (v := (-3 : Int32)) hx hb dX11_minutes_11 (by decide) ?_
  rw [← Option.some.inj h] at hK
  have hK : ((-3 : Int32), M) = (ro, mo) := hK
  obtain ⟨hK1, hK2⟩ := Prod.mk.inj hK
  rw [hK2] at O
  refine xr_top (w := .int ro) (by rw [hK1]) ?_
  exact xr_iret X hr hlk O dX11_minutes_13
def F_X11_confirmed (a0 : Nat) (a1 : Int32) (M : xM) : Option (Int32 × xM) :=
(xgP M a0 11 6).bind fun t1 =>
(xck M t1 5).bind fun _ =>
(F_X5_confirm t1 M).bind fun t3 =>
some (a1, t3)
set_option maxRecDepth 100000 in
set_option maxHeartbeats 4000000 in
theorem T_X11_confirmed (l : Launch) (κ : xQ) (a0 : Nat) (a1 : Int32) (M : xM) (ro : Int32) (mo : xM) (h : F_X11_confirmed a0 a1 M = some (ro, mo)) : xC l yX11_confirmed cX11_confirmed 2 (some .int) 4 0 0 κ [.ref (κ.1 + a0), .int a1] M (some (.int ro)) mo := by
  refine xC_of rfl (Nat.le_of_ble_eq_true rfl) fun p e s m args below meth c X hr hlk hnm H locs ls O hl => ?_
  have X : xX p s m args c cX11_confirmed 2 RX11 κ := X
  have hl : lv_has ls 2 [(0, .ref (κ.1 + a0)), (1, .int a1)] := hl
  have hx := X.1
  have hb := X.2.1
  obtain ⟨x, hx0⟩ : ∃ x, (ro, mo) = x := ⟨_, rfl⟩
  rw [hx0] at h
  have hK : x = (ro, mo) := hx0.symm
  unfold F_X11_confirmed at h
  refine lv_aload_n hx hb dX11_confirmed_0 rfl (lv_at hl 0 rfl) ?_
  obtain ⟨t1, ht1, h⟩ := Option.bind_eq_some_iff.mp h
  refine xr_getP X O ht1 fl_X11_43 dX11_confirmed_1 ?_
  obtain ⟨_, hut2, h⟩ := Option.bind_eq_some_iff.mp h
  obtain ⟨t3, ht3, h⟩ := Option.bind_eq_some_iff.mp h
  refine xr_callV (rest := []) X O (T_X5_confirm l κ t1 M _ ht3) lk_X11_185 hut2 (Nat.le_of_ble_eq_true rfl) rfl hl.1 rfl (Nat.le_of_ble_eq_true rfl) dX11_confirmed_4 ⟨Nat.le_of_ble_eq_true rfl, Nat.le_of_ble_eq_true rfl⟩ (fun H locs O => ?_)
  refine W.eq (g2 := F0 m 7 ls []) rfl ?_
  refine lv_iload_n hx hb dX11_confirmed_7 rfl (lv_at hl 1 rfl) ?_
  rw [← Option.some.inj h] at hK
  have hK : (a1, t3) = (ro, mo) := hK
  obtain ⟨hK1, hK2⟩ := Prod.mk.inj hK
  rw [hK2] at O
  refine xr_top (w := .int ro) (by rw [hK1]) ?_
  exact xr_iret X hr hlk O dX11_confirmed_8
def F_X11_raise (a0 : Nat) (a1 : Int32) (M : xM) : Option (Int32 × xM) :=
(xgP M a0 11 6).bind fun t1 =>
(xgP M a0 11 3).bind fun t2 =>
(xck M t1 5).bind fun _ =>
(F_X5_keep t1 t2 M).bind fun t4 =>
(xgP t4 a0 11 3).bind fun t5 =>
(xgP t4 a0 11 2).bind fun t6 =>
(xck t4 t6 3).bind fun _ =>
(F_X3_cells t6 t4).bind fun t8 =>
(xck t8.2 t5 0).bind fun _ =>
(F_X0_heap t5 a1 t8.1 t8.2).bind fun t10 =>
if t10.1 = 0 then (
(xgP t10.2 a0 11 3).bind fun t11 =>
(xgP t10.2 t11 0 0).bind fun t12 =>
(xaI t10.2 20 t12 a1).bind fun t13 =>
(xck t10.2 a0 11).bind fun _ =>
(F_X11_confirmed a0 t13 t10.2).bind fun t15 =>
some (t15.1, t15.2))
else (
some (((-10 : Int32) - t10.1), t10.2))
set_option maxRecDepth 100000 in
set_option maxHeartbeats 4000000 in
theorem T_X11_raise (l : Launch) (κ : xQ) (a0 : Nat) (a1 : Int32) (M : xM) (ro : Int32) (mo : xM) (h : F_X11_raise a0 a1 M = some (ro, mo)) : xC l yX11_raise cX11_raise 3 (some .int) 5 0 0 κ [.ref (κ.1 + a0), .int a1] M (some (.int ro)) mo := by
  refine xC_of rfl (Nat.le_of_ble_eq_true rfl) fun p e s m args below meth c X hr hlk hnm H locs ls O hl => ?_
  have X : xX p s m args c cX11_raise 3 RX11 κ := X
  have hl : lv_has ls 3 [(0, .ref (κ.1 + a0)), (1, .int a1)] := hl
  have hx := X.1
  have hb := X.2.1
  obtain ⟨x, hx0⟩ : ∃ x, (ro, mo) = x := ⟨_, rfl⟩
  rw [hx0] at h
  have hK : x = (ro, mo) := hx0.symm
  unfold F_X11_raise at h
  refine lv_aload_n hx hb dX11_raise_0 rfl (lv_at hl 0 rfl) ?_
  obtain ⟨t1, ht1, h⟩ := Option.bind_eq_some_iff.mp h
  refine xr_getP X O ht1 fl_X11_43 dX11_raise_1 ?_
  refine lv_aload_n hx hb dX11_raise_4 rfl (lv_at hl 0 rfl) ?_
  obtain ⟨t2, ht2, h⟩ := Option.bind_eq_some_iff.mp h
  refine xr_getP X O ht2 fl_X11_26 dX11_raise_5 ?_
  obtain ⟨_, hut3, h⟩ := Option.bind_eq_some_iff.mp h
  obtain ⟨t4, ht4, h⟩ := Option.bind_eq_some_iff.mp h
  refine xr_callV (rest := []) X O (T_X5_keep l κ t1 t2 M _ ht4) lk_X11_178 hut3 (Nat.le_of_ble_eq_true rfl) rfl hl.1 rfl (Nat.le_of_ble_eq_true rfl) dX11_raise_8 ⟨Nat.le_of_ble_eq_true rfl, Nat.le_of_ble_eq_true rfl⟩ (fun H locs O => ?_)
  refine W.eq (g2 := F0 m 11 ls []) rfl ?_
  refine lv_aload_n hx hb dX11_raise_11 rfl (lv_at hl 0 rfl) ?_
  obtain ⟨t5, ht5, h⟩ := Option.bind_eq_some_iff.mp h
  refine xr_getP X O ht5 fl_X11_26 dX11_raise_12 ?_
  refine lv_iload_n hx hb dX11_raise_15 rfl (lv_at hl 1 rfl) ?_
  refine lv_aload_n hx hb dX11_raise_16 rfl (lv_at hl 0 rfl) ?_
  obtain ⟨t6, ht6, h⟩ := Option.bind_eq_some_iff.mp h
  refine xr_getP X O ht6 fl_X11_19 dX11_raise_17 ?_
  obtain ⟨_, hut7, h⟩ := Option.bind_eq_some_iff.mp h
  obtain ⟨t8, ht8, h⟩ := Option.bind_eq_some_iff.mp h
  refine xr_callV (rest := [.int a1, .ref (κ.1 + t5)]) X O (T_X3_cells l κ t6 t4 _ _ ht8) lk_X11_194 hut7 (Nat.le_of_ble_eq_true rfl) rfl hl.1 rfl (Nat.le_of_ble_eq_true rfl) dX11_raise_20 ⟨Nat.le_of_ble_eq_true rfl, Nat.le_of_ble_eq_true rfl⟩ (fun H locs O => ?_)
  refine W.eq (g2 := F0 m 23 ls [.int t8.1, .int a1, .ref (κ.1 + t5)]) rfl ?_
  obtain ⟨_, hut9, h⟩ := Option.bind_eq_some_iff.mp h
  obtain ⟨t10, ht10, h⟩ := Option.bind_eq_some_iff.mp h
  refine xr_callV (rest := []) X O (T_X0_heap l κ t5 a1 t8.1 t8.2 _ _ ht10) lk_X11_198 hut9 (Nat.le_of_ble_eq_true rfl) rfl hl.1 rfl (Nat.le_of_ble_eq_true rfl) dX11_raise_23 ⟨Nat.le_of_ble_eq_true rfl, Nat.le_of_ble_eq_true rfl⟩ (fun H locs O => ?_)
  refine W.eq (g2 := F0 m 26 ls [.int t10.1]) rfl ?_
  refine lv_istore_n (lv' := [(2, .int t10.1), (0, .ref (κ.1 + a0)), (1, .int a1)]) hx hb dX11_raise_26 rfl hl (by decide) rfl (fun ls hl => ?_)
  refine lv_iload_n hx hb dX11_raise_27 rfl (lv_at hl 0 rfl) ?_
  refine lv_if_eq (tgt := 38) hx hb dX11_raise_28 (by decide) (fun hc28 => ?_) (fun hc28 => ?_)
  · rw [if_pos hc28] at h
    refine lv_aload_n hx hb dX11_raise_38 rfl (lv_at hl 1 rfl) ?_
    refine lv_aload_n hx hb dX11_raise_39 rfl (lv_at hl 1 rfl) ?_
    obtain ⟨t11, ht11, h⟩ := Option.bind_eq_some_iff.mp h
    refine xr_getP X O ht11 fl_X11_26 dX11_raise_40 ?_
    obtain ⟨t12, ht12, h⟩ := Option.bind_eq_some_iff.mp h
    refine xr_getP X O ht12 fl_X11_136 dX11_raise_43 ?_
    refine lv_iload_n hx hb dX11_raise_46 rfl (lv_at hl 2 rfl) ?_
    obtain ⟨t13, ht13, h⟩ := Option.bind_eq_some_iff.mp h
    refine xr_aldI X O ht13 dX11_raise_47 ?_
    obtain ⟨_, hut14, h⟩ := Option.bind_eq_some_iff.mp h
    obtain ⟨t15, ht15, h⟩ := Option.bind_eq_some_iff.mp h
    refine xr_callV (rest := []) X O (T_X11_confirmed l κ a0 t13 t10.2 _ _ ht15) lk_X11_202 hut14 (Nat.le_of_ble_eq_true rfl) rfl hl.1 rfl (Nat.le_of_ble_eq_true rfl) dX11_raise_48 ⟨Nat.le_of_ble_eq_true rfl, Nat.le_of_ble_eq_true rfl⟩ (fun H locs O => ?_)
    refine W.eq (g2 := F0 m 51 ls [.int t15.1]) rfl ?_
    rw [← Option.some.inj h] at hK
    have hK : (t15.1, t15.2) = (ro, mo) := hK
    obtain ⟨hK1, hK2⟩ := Prod.mk.inj hK
    rw [hK2] at O
    refine xr_top (w := .int ro) (by rw [hK1]) ?_
    exact xr_iret X hr hlk O dX11_raise_51
  rw [if_neg hc28] at h
  refine lv_bipush (v := (-10 : Int32)) hx hb dX11_raise_31 (by decide) ?_
  refine lv_iload_n hx hb dX11_raise_33 rfl (lv_at hl 0 rfl) ?_
  refine lv_isub hx hb dX11_raise_34 ?_
  refine lv_goto (tgt := 51) hx hb dX11_raise_35 (by decide) ?_
  rw [← Option.some.inj h] at hK
  have hK : (((-10 : Int32) - t10.1), t10.2) = (ro, mo) := hK
  obtain ⟨hK1, hK2⟩ := Prod.mk.inj hK
  rw [hK2] at O
  refine xr_top (w := .int ro) (by rw [hK1]) ?_
  exact xr_iret X hr hlk O dX11_raise_51
def F_X11_dig (a0 : Nat) (a1 : Int32) (M : xM) : Option (Int32 × xM) :=
(xgP M a0 11 6).bind fun t1 =>
(xgP M a0 11 3).bind fun t2 =>
(xck M t1 5).bind fun _ =>
(F_X5_keep t1 t2 M).bind fun t4 =>
(xgP t4 a0 11 3).bind fun t5 =>
(xgP t4 a0 11 2).bind fun t6 =>
(xck t4 t6 3).bind fun _ =>
(F_X3_cells t6 t4).bind fun t8 =>
(xck t8.2 t5 0).bind fun _ =>
(F_X0_scoop t5 a1 t8.1 t8.2).bind fun t10 =>
if t10.1 = 0 then (
(xgP t10.2 a0 11 3).bind fun t11 =>
(xgP t10.2 t11 0 0).bind fun t12 =>
(xaI t10.2 20 t12 a1).bind fun t13 =>
(xck t10.2 a0 11).bind fun _ =>
(F_X11_confirmed a0 t13 t10.2).bind fun t15 =>
some (t15.1, t15.2))
else (
some (((-10 : Int32) - t10.1), t10.2))
set_option maxRecDepth 100000 in
set_option maxHeartbeats 4000000 in
theorem T_X11_dig (l : Launch) (κ : xQ) (a0 : Nat) (a1 : Int32) (M : xM) (ro : Int32) (mo : xM) (h : F_X11_dig a0 a1 M = some (ro, mo)) : xC l yX11_dig cX11_dig 3 (some .int) 5 0 0 κ [.ref (κ.1 + a0), .int a1] M (some (.int ro)) mo := by
  refine xC_of rfl (Nat.le_of_ble_eq_true rfl) fun p e s m args below meth c X hr hlk hnm H locs ls O hl => ?_
  have X : xX p s m args c cX11_dig 3 RX11 κ := X
  have hl : lv_has ls 3 [(0, .ref (κ.1 + a0)), (1, .int a1)] := hl
  have hx := X.1
  have hb := X.2.1
  obtain ⟨x, hx0⟩ : ∃ x, (ro, mo) = x := ⟨_, rfl⟩
  rw [hx0] at h
  have hK : x = (ro, mo) := hx0.symm
  unfold F_X11_dig at h
  refine lv_aload_n hx hb dX11_dig_0 rfl (lv_at hl 0 rfl) ?_
  obtain ⟨t1, ht1, h⟩ := Option.bind_eq_some_iff.mp h
  refine xr_getP X O ht1 fl_X11_43 dX11_dig_1 ?_
  refine lv_aload_n hx hb dX11_dig_4 rfl (lv_at hl 0 rfl) ?_
  obtain ⟨t2, ht2, h⟩ := Option.bind_eq_some_iff.mp h
  refine xr_getP X O ht2 fl_X11_26 dX11_dig_5 ?_
  obtain ⟨_, hut3, h⟩ := Option.bind_eq_some_iff.mp h
  obtain ⟨t4, ht4, h⟩ := Option.bind_eq_some_iff.mp h
  refine xr_callV (rest := []) X O (T_X5_keep l κ t1 t2 M _ ht4) lk_X11_178 hut3 (Nat.le_of_ble_eq_true rfl) rfl hl.1 rfl (Nat.le_of_ble_eq_true rfl) dX11_dig_8 ⟨Nat.le_of_ble_eq_true rfl, Nat.le_of_ble_eq_true rfl⟩ (fun H locs O => ?_)
  refine W.eq (g2 := F0 m 11 ls []) rfl ?_
  refine lv_aload_n hx hb dX11_dig_11 rfl (lv_at hl 0 rfl) ?_
  obtain ⟨t5, ht5, h⟩ := Option.bind_eq_some_iff.mp h
  refine xr_getP X O ht5 fl_X11_26 dX11_dig_12 ?_
  refine lv_iload_n hx hb dX11_dig_15 rfl (lv_at hl 1 rfl) ?_
  refine lv_aload_n hx hb dX11_dig_16 rfl (lv_at hl 0 rfl) ?_
  obtain ⟨t6, ht6, h⟩ := Option.bind_eq_some_iff.mp h
  refine xr_getP X O ht6 fl_X11_19 dX11_dig_17 ?_
  obtain ⟨_, hut7, h⟩ := Option.bind_eq_some_iff.mp h
  obtain ⟨t8, ht8, h⟩ := Option.bind_eq_some_iff.mp h
  refine xr_callV (rest := [.int a1, .ref (κ.1 + t5)]) X O (T_X3_cells l κ t6 t4 _ _ ht8) lk_X11_194 hut7 (Nat.le_of_ble_eq_true rfl) rfl hl.1 rfl (Nat.le_of_ble_eq_true rfl) dX11_dig_20 ⟨Nat.le_of_ble_eq_true rfl, Nat.le_of_ble_eq_true rfl⟩ (fun H locs O => ?_)
  refine W.eq (g2 := F0 m 23 ls [.int t8.1, .int a1, .ref (κ.1 + t5)]) rfl ?_
  obtain ⟨_, hut9, h⟩ := Option.bind_eq_some_iff.mp h
  obtain ⟨t10, ht10, h⟩ := Option.bind_eq_some_iff.mp h
  refine xr_callV (rest := []) X O (T_X0_scoop l κ t5 a1 t8.1 t8.2 _ _ ht10) lk_X11_205 hut9 (Nat.le_of_ble_eq_true rfl) rfl hl.1 rfl (Nat.le_of_ble_eq_true rfl) dX11_dig_23 ⟨Nat.le_of_ble_eq_true rfl, Nat.le_of_ble_eq_true rfl⟩ (fun H locs O => ?_)
  refine W.eq (g2 := F0 m 26 ls [.int t10.1]) rfl ?_
  refine lv_istore_n (lv' := [(2, .int t10.1), (0, .ref (κ.1 + a0)), (1, .int a1)]) hx hb dX11_dig_26 rfl hl (by decide) rfl (fun ls hl => ?_)
  refine lv_iload_n hx hb dX11_dig_27 rfl (lv_at hl 0 rfl) ?_
  refine lv_if_eq (tgt := 38) hx hb dX11_dig_28 (by decide) (fun hc28 => ?_) (fun hc28 => ?_)
  · rw [if_pos hc28] at h
    refine lv_aload_n hx hb dX11_dig_38 rfl (lv_at hl 1 rfl) ?_
    refine lv_aload_n hx hb dX11_dig_39 rfl (lv_at hl 1 rfl) ?_
    obtain ⟨t11, ht11, h⟩ := Option.bind_eq_some_iff.mp h
    refine xr_getP X O ht11 fl_X11_26 dX11_dig_40 ?_
    obtain ⟨t12, ht12, h⟩ := Option.bind_eq_some_iff.mp h
    refine xr_getP X O ht12 fl_X11_136 dX11_dig_43 ?_
    refine lv_iload_n hx hb dX11_dig_46 rfl (lv_at hl 2 rfl) ?_
    obtain ⟨t13, ht13, h⟩ := Option.bind_eq_some_iff.mp h
    refine xr_aldI X O ht13 dX11_dig_47 ?_
    obtain ⟨_, hut14, h⟩ := Option.bind_eq_some_iff.mp h
    obtain ⟨t15, ht15, h⟩ := Option.bind_eq_some_iff.mp h
    refine xr_callV (rest := []) X O (T_X11_confirmed l κ a0 t13 t10.2 _ _ ht15) lk_X11_202 hut14 (Nat.le_of_ble_eq_true rfl) rfl hl.1 rfl (Nat.le_of_ble_eq_true rfl) dX11_dig_48 ⟨Nat.le_of_ble_eq_true rfl, Nat.le_of_ble_eq_true rfl⟩ (fun H locs O => ?_)
    refine W.eq (g2 := F0 m 51 ls [.int t15.1]) rfl ?_
    rw [← Option.some.inj h] at hK
    have hK : (t15.1, t15.2) = (ro, mo) := hK
    obtain ⟨hK1, hK2⟩ := Prod.mk.inj hK
    rw [hK2] at O
    refine xr_top (w := .int ro) (by rw [hK1]) ?_
    exact xr_iret X hr hlk O dX11_dig_51
  rw [if_neg hc28] at h
  refine lv_bipush (v := (-10 : Int32)) hx hb dX11_dig_31 (by decide) ?_
  refine lv_iload_n hx hb dX11_dig_33 rfl (lv_at hl 0 rfl) ?_
  refine lv_isub hx hb dX11_dig_34 ?_
  refine lv_goto (tgt := 51) hx hb dX11_dig_35 (by decide) ?_
  rw [← Option.some.inj h] at hK
  have hK : (((-10 : Int32) - t10.1), t10.2) = (ro, mo) := hK
  obtain ⟨hK1, hK2⟩ := Prod.mk.inj hK
  rw [hK2] at O
  refine xr_top (w := .int ro) (by rw [hK1]) ?_
  exact xr_iret X hr hlk O dX11_dig_51
def F_X11_build (a0 : Nat) (a1 : Int32) (a2 : Int32) (M : xM) : Option (Int32 × xM) :=
(xgP M a0 11 6).bind fun t1 =>
(xgP M a0 11 3).bind fun t2 =>
(xck M t1 5).bind fun _ =>
(F_X5_keep t1 t2 M).bind fun t4 =>
(xgP t4 a0 11 3).bind fun t5 =>
(xgP t4 a0 11 2).bind fun t6 =>
(xck t4 t6 3).bind fun _ =>
(F_X3_cells t6 t4).bind fun t8 =>
(xck t8.2 t5 0).bind fun _ =>
(F_X0_settle t5 a1 a2 t8.1 t8.2).bind fun t10 =>
if t10.1 = 0 then (
(xgP t10.2 a0 11 3).bind fun t11 =>
(xgI t10.2 t11 0 3).bind fun t12 =>
(xck t10.2 a0 11).bind fun _ =>
(F_X11_confirmed a0 (t12 - (1 : Int32)) t10.2).bind fun t14 =>
some (t14.1, t14.2))
else (
some (((-10 : Int32) - t10.1), t10.2))
set_option maxRecDepth 100000 in
set_option maxHeartbeats 4000000 in
theorem T_X11_build (l : Launch) (κ : xQ) (a0 : Nat) (a1 : Int32) (a2 : Int32) (M : xM) (ro : Int32) (mo : xM) (h : F_X11_build a0 a1 a2 M = some (ro, mo)) : xC l yX11_build cX11_build 4 (some .int) 5 0 0 κ [.ref (κ.1 + a0), .int a1, .int a2] M (some (.int ro)) mo := by
  refine xC_of rfl (Nat.le_of_ble_eq_true rfl) fun p e s m args below meth c X hr hlk hnm H locs ls O hl => ?_
  have X : xX p s m args c cX11_build 4 RX11 κ := X
  have hl : lv_has ls 4 [(0, .ref (κ.1 + a0)), (1, .int a1), (2, .int a2)] := hl
  have hx := X.1
  have hb := X.2.1
  obtain ⟨x, hx0⟩ : ∃ x, (ro, mo) = x := ⟨_, rfl⟩
  rw [hx0] at h
  have hK : x = (ro, mo) := hx0.symm
  unfold F_X11_build at h
  refine lv_aload_n hx hb dX11_build_0 rfl (lv_at hl 0 rfl) ?_
  obtain ⟨t1, ht1, h⟩ := Option.bind_eq_some_iff.mp h
  refine xr_getP X O ht1 fl_X11_43 dX11_build_1 ?_
  refine lv_aload_n hx hb dX11_build_4 rfl (lv_at hl 0 rfl) ?_
  obtain ⟨t2, ht2, h⟩ := Option.bind_eq_some_iff.mp h
  refine xr_getP X O ht2 fl_X11_26 dX11_build_5 ?_
  obtain ⟨_, hut3, h⟩ := Option.bind_eq_some_iff.mp h
  obtain ⟨t4, ht4, h⟩ := Option.bind_eq_some_iff.mp h
  refine xr_callV (rest := []) X O (T_X5_keep l κ t1 t2 M _ ht4) lk_X11_178 hut3 (Nat.le_of_ble_eq_true rfl) rfl hl.1 rfl (Nat.le_of_ble_eq_true rfl) dX11_build_8 ⟨Nat.le_of_ble_eq_true rfl, Nat.le_of_ble_eq_true rfl⟩ (fun H locs O => ?_)
  refine W.eq (g2 := F0 m 11 ls []) rfl ?_
  refine lv_aload_n hx hb dX11_build_11 rfl (lv_at hl 0 rfl) ?_
  obtain ⟨t5, ht5, h⟩ := Option.bind_eq_some_iff.mp h
  refine xr_getP X O ht5 fl_X11_26 dX11_build_12 ?_
  refine lv_iload_n hx hb dX11_build_15 rfl (lv_at hl 1 rfl) ?_
  refine lv_iload_n hx hb dX11_build_16 rfl (lv_at hl 2 rfl) ?_
  refine lv_aload_n hx hb dX11_build_17 rfl (lv_at hl 0 rfl) ?_
  obtain ⟨t6, ht6, h⟩ := Option.bind_eq_some_iff.mp h
  refine xr_getP X O ht6 fl_X11_19 dX11_build_18 ?_
  obtain ⟨_, hut7, h⟩ := Option.bind_eq_some_iff.mp h
  obtain ⟨t8, ht8, h⟩ := Option.bind_eq_some_iff.mp h
  refine xr_callV (rest := [.int a2, .int a1, .ref (κ.1 + t5)]) X O (T_X3_cells l κ t6 t4 _ _ ht8) lk_X11_194 hut7 (Nat.le_of_ble_eq_true rfl) rfl hl.1 rfl (Nat.le_of_ble_eq_true rfl) dX11_build_21 ⟨Nat.le_of_ble_eq_true rfl, Nat.le_of_ble_eq_true rfl⟩ (fun H locs O => ?_)
  refine W.eq (g2 := F0 m 24 ls [.int t8.1, .int a2, .int a1, .ref (κ.1 + t5)]) rfl ?_
  obtain ⟨_, hut9, h⟩ := Option.bind_eq_some_iff.mp h
  obtain ⟨t10, ht10, h⟩ := Option.bind_eq_some_iff.mp h
  refine xr_callV (rest := []) X O (T_X0_settle l κ t5 a1 a2 t8.1 t8.2 _ _ ht10) lk_X11_208 hut9 (Nat.le_of_ble_eq_true rfl) rfl hl.1 rfl (Nat.le_of_ble_eq_true rfl) dX11_build_24 ⟨Nat.le_of_ble_eq_true rfl, Nat.le_of_ble_eq_true rfl⟩ (fun H locs O => ?_)
  refine W.eq (g2 := F0 m 27 ls [.int t10.1]) rfl ?_
  refine lv_istore_n (lv' := [(3, .int t10.1), (0, .ref (κ.1 + a0)), (1, .int a1), (2, .int a2)]) hx hb dX11_build_27 rfl hl (by decide) rfl (fun ls hl => ?_)
  refine lv_iload_n hx hb dX11_build_28 rfl (lv_at hl 0 rfl) ?_
  refine lv_if_eq (tgt := 39) hx hb dX11_build_29 (by decide) (fun hc29 => ?_) (fun hc29 => ?_)
  · rw [if_pos hc29] at h
    refine lv_aload_n hx hb dX11_build_39 rfl (lv_at hl 1 rfl) ?_
    refine lv_aload_n hx hb dX11_build_40 rfl (lv_at hl 1 rfl) ?_
    obtain ⟨t11, ht11, h⟩ := Option.bind_eq_some_iff.mp h
    refine xr_getP X O ht11 fl_X11_26 dX11_build_41 ?_
    obtain ⟨t12, ht12, h⟩ := Option.bind_eq_some_iff.mp h
    refine xr_getI X O ht12 fl_X11_212 (Or.inl rfl) dX11_build_44 ?_
    refine lv_iconst (v := (1 : Int32)) hx hb dX11_build_47 (by decide) ?_
    refine lv_isub hx hb dX11_build_48 ?_
    obtain ⟨_, hut13, h⟩ := Option.bind_eq_some_iff.mp h
    obtain ⟨t14, ht14, h⟩ := Option.bind_eq_some_iff.mp h
    refine xr_callV (rest := []) X O (T_X11_confirmed l κ a0 (t12 - (1 : Int32)) t10.2 _ _ ht14) lk_X11_202 hut13 (Nat.le_of_ble_eq_true rfl) rfl hl.1 rfl (Nat.le_of_ble_eq_true rfl) dX11_build_49 ⟨Nat.le_of_ble_eq_true rfl, Nat.le_of_ble_eq_true rfl⟩ (fun H locs O => ?_)
    refine W.eq (g2 := F0 m 52 ls [.int t14.1]) rfl ?_
    rw [← Option.some.inj h] at hK
    have hK : (t14.1, t14.2) = (ro, mo) := hK
    obtain ⟨hK1, hK2⟩ := Prod.mk.inj hK
    rw [hK2] at O
    refine xr_top (w := .int ro) (by rw [hK1]) ?_
    exact xr_iret X hr hlk O dX11_build_52
  rw [if_neg hc29] at h
  refine lv_bipush (v := (-10 : Int32)) hx hb dX11_build_32 (by decide) ?_
  refine lv_iload_n hx hb dX11_build_34 rfl (lv_at hl 0 rfl) ?_
  refine lv_isub hx hb dX11_build_35 ?_
  refine lv_goto (tgt := 52) hx hb dX11_build_36 (by decide) ?_
  rw [← Option.some.inj h] at hK
  have hK : (((-10 : Int32) - t10.1), t10.2) = (ro, mo) := hK
  obtain ⟨hK1, hK2⟩ := Prod.mk.inj hK
  rw [hK2] at O
  refine xr_top (w := .int ro) (by rw [hK1]) ?_
  exact xr_iret X hr hlk O dX11_build_52
def F_X11_moon (a0 : Nat) (a1 : Int32) (M : xM) : Option (Int32 × xM) :=
(xgP M a0 11 6).bind fun t1 =>
(xgP M a0 11 3).bind fun t2 =>
(xck M t1 5).bind fun _ =>
(F_X5_keep t1 t2 M).bind fun t4 =>
(xgP t4 a0 11 3).bind fun t5 =>
(xgI t4 t5 0 5).bind fun t6 =>
(xgP t4 a0 11 3).bind fun t7 =>
(xck t4 t7 0).bind fun _ =>
(F_X0_changeMoon t7 a1 t4).bind fun t9 =>
if t9.1 = 0 then (
(xck t9.2 a0 11).bind fun _ =>
(F_X11_confirmed a0 t6 t9.2).bind fun t11 =>
some (t11.1, t11.2))
else (
some (((-10 : Int32) - t9.1), t9.2))
set_option maxRecDepth 100000 in
set_option maxHeartbeats 4000000 in
theorem T_X11_moon (l : Launch) (κ : xQ) (a0 : Nat) (a1 : Int32) (M : xM) (ro : Int32) (mo : xM) (h : F_X11_moon a0 a1 M = some (ro, mo)) : xC l yX11_moon cX11_moon 4 (some .int) 5 0 0 κ [.ref (κ.1 + a0), .int a1] M (some (.int ro)) mo := by
  refine xC_of rfl (Nat.le_of_ble_eq_true rfl) fun p e s m args below meth c X hr hlk hnm H locs ls O hl => ?_
  have X : xX p s m args c cX11_moon 4 RX11 κ := X
  have hl : lv_has ls 4 [(0, .ref (κ.1 + a0)), (1, .int a1)] := hl
  have hx := X.1
  have hb := X.2.1
  obtain ⟨x, hx0⟩ : ∃ x, (ro, mo) = x := ⟨_, rfl⟩
  rw [hx0] at h
  have hK : x = (ro, mo) := hx0.symm
  unfold F_X11_moon at h
  refine lv_aload_n hx hb dX11_moon_0 rfl (lv_at hl 0 rfl) ?_
  obtain ⟨t1, ht1, h⟩ := Option.bind_eq_some_iff.mp h
  refine xr_getP X O ht1 fl_X11_43 dX11_moon_1 ?_
  refine lv_aload_n hx hb dX11_moon_4 rfl (lv_at hl 0 rfl) ?_
  obtain ⟨t2, ht2, h⟩ := Option.bind_eq_some_iff.mp h
  refine xr_getP X O ht2 fl_X11_26 dX11_moon_5 ?_
  obtain ⟨_, hut3, h⟩ := Option.bind_eq_some_iff.mp h
  obtain ⟨t4, ht4, h⟩ := Option.bind_eq_some_iff.mp h
  refine xr_callV (rest := []) X O (T_X5_keep l κ t1 t2 M _ ht4) lk_X11_178 hut3 (Nat.le_of_ble_eq_true rfl) rfl hl.1 rfl (Nat.le_of_ble_eq_true rfl) dX11_moon_8 ⟨Nat.le_of_ble_eq_true rfl, Nat.le_of_ble_eq_true rfl⟩ (fun H locs O => ?_)
  refine W.eq (g2 := F0 m 11 ls []) rfl ?_
  refine lv_aload_n hx hb dX11_moon_11 rfl (lv_at hl 0 rfl) ?_
  obtain ⟨t5, ht5, h⟩ := Option.bind_eq_some_iff.mp h
  refine xr_getP X O ht5 fl_X11_26 dX11_moon_12 ?_
  obtain ⟨t6, ht6, h⟩ := Option.bind_eq_some_iff.mp h
  refine xr_getI X O ht6 fl_X11_163 (Or.inl rfl) dX11_moon_15 ?_
  refine lv_istore_n (lv' := [(2, .int t6), (0, .ref (κ.1 + a0)), (1, .int a1)]) hx hb dX11_moon_18 rfl hl (by decide) rfl (fun ls hl => ?_)
  refine lv_aload_n hx hb dX11_moon_19 rfl (lv_at hl 1 rfl) ?_
  obtain ⟨t7, ht7, h⟩ := Option.bind_eq_some_iff.mp h
  refine xr_getP X O ht7 fl_X11_26 dX11_moon_20 ?_
  refine lv_iload_n hx hb dX11_moon_23 rfl (lv_at hl 2 rfl) ?_
  obtain ⟨_, hut8, h⟩ := Option.bind_eq_some_iff.mp h
  obtain ⟨t9, ht9, h⟩ := Option.bind_eq_some_iff.mp h
  refine xr_callV (rest := []) X O (T_X0_changeMoon l κ t7 a1 t4 _ _ ht9) lk_X11_215 hut8 (Nat.le_of_ble_eq_true rfl) rfl hl.1 rfl (Nat.le_of_ble_eq_true rfl) dX11_moon_24 ⟨Nat.le_of_ble_eq_true rfl, Nat.le_of_ble_eq_true rfl⟩ (fun H locs O => ?_)
  refine W.eq (g2 := F0 m 27 ls [.int t9.1]) rfl ?_
  refine lv_istore_n (lv' := [(3, .int t9.1), (2, .int t6), (0, .ref (κ.1 + a0)), (1, .int a1)]) hx hb dX11_moon_27 rfl hl (by decide) rfl (fun ls hl => ?_)
  refine lv_iload_n hx hb dX11_moon_28 rfl (lv_at hl 0 rfl) ?_
  refine lv_if_eq (tgt := 39) hx hb dX11_moon_29 (by decide) (fun hc29 => ?_) (fun hc29 => ?_)
  · rw [if_pos hc29] at h
    refine lv_aload_n hx hb dX11_moon_39 rfl (lv_at hl 2 rfl) ?_
    refine lv_iload_n hx hb dX11_moon_40 rfl (lv_at hl 1 rfl) ?_
    obtain ⟨_, hut10, h⟩ := Option.bind_eq_some_iff.mp h
    obtain ⟨t11, ht11, h⟩ := Option.bind_eq_some_iff.mp h
    refine xr_callV (rest := []) X O (T_X11_confirmed l κ a0 t6 t9.2 _ _ ht11) lk_X11_202 hut10 (Nat.le_of_ble_eq_true rfl) rfl hl.1 rfl (Nat.le_of_ble_eq_true rfl) dX11_moon_41 ⟨Nat.le_of_ble_eq_true rfl, Nat.le_of_ble_eq_true rfl⟩ (fun H locs O => ?_)
    refine W.eq (g2 := F0 m 44 ls [.int t11.1]) rfl ?_
    rw [← Option.some.inj h] at hK
    have hK : (t11.1, t11.2) = (ro, mo) := hK
    obtain ⟨hK1, hK2⟩ := Prod.mk.inj hK
    rw [hK2] at O
    refine xr_top (w := .int ro) (by rw [hK1]) ?_
    exact xr_iret X hr hlk O dX11_moon_44
  rw [if_neg hc29] at h
  refine lv_bipush (v := (-10 : Int32)) hx hb dX11_moon_32 (by decide) ?_
  refine lv_iload_n hx hb dX11_moon_34 rfl (lv_at hl 0 rfl) ?_
  refine lv_isub hx hb dX11_moon_35 ?_
  refine lv_goto (tgt := 44) hx hb dX11_moon_36 (by decide) ?_
  rw [← Option.some.inj h] at hK
  have hK : (((-10 : Int32) - t9.1), t9.2) = (ro, mo) := hK
  obtain ⟨hK1, hK2⟩ := Prod.mk.inj hK
  rw [hK2] at O
  refine xr_top (w := .int ro) (by rw [hK1]) ?_
  exact xr_iret X hr hlk O dX11_moon_44
def F_X11_undo (a0 : Nat) (a1 : Int32) (M : xM) : Option (Int32 × xM) :=
if a1 < (1 : Int32) then (
some ((-3 : Int32), M))
else (
if (10 : Int32) < a1 then (
some ((-3 : Int32), M))
else (
(xgP M a0 11 6).bind fun t1 =>
(xgI M t1 5 0).bind fun t2 =>
if a1 ≤ t2 then (
(xgP M a0 11 6).bind fun t3 =>
(xgP M a0 11 3).bind fun t4 =>
(xck M t3 5).bind fun _ =>
(F_X5_bringBack t3 a1 t4 M).bind fun t6 =>
(xgP t6 a0 11 6).bind fun t7 =>
(xgI t6 t7 5 0).bind fun t8 =>
some (t8, t6))
else (
some ((-3 : Int32), M))))
set_option maxRecDepth 100000 in
set_option maxHeartbeats 4000000 in
theorem T_X11_undo (l : Launch) (κ : xQ) (a0 : Nat) (a1 : Int32) (M : xM) (ro : Int32) (mo : xM) (h : F_X11_undo a0 a1 M = some (ro, mo)) : xC l yX11_undo cX11_undo 2 (some .int) 4 0 0 κ [.ref (κ.1 + a0), .int a1] M (some (.int ro)) mo := by
  refine xC_of rfl (Nat.le_of_ble_eq_true rfl) fun p e s m args below meth c X hr hlk hnm H locs ls O hl => ?_
  have X : xX p s m args c cX11_undo 2 RX11 κ := X
  have hl : lv_has ls 2 [(0, .ref (κ.1 + a0)), (1, .int a1)] := hl
  have hx := X.1
  have hb := X.2.1
  obtain ⟨x, hx0⟩ : ∃ x, (ro, mo) = x := ⟨_, rfl⟩
  rw [hx0] at h
  have hK : x = (ro, mo) := hx0.symm
  unfold F_X11_undo at h
  refine lv_iload_n hx hb dX11_undo_0 rfl (lv_at hl 1 rfl) ?_
  refine lv_iconst (v := (1 : Int32)) hx hb dX11_undo_1 (by decide) ?_
  refine lv_icmp_lt (tgt := 22) hx hb dX11_undo_2 (by decide) (fun hc2 => ?_) (fun hc2 => ?_)
  · rw [if_pos hc2] at h
    refine lv_bipush (v := (-3 : Int32)) hx hb dX11_undo_22 (by decide) ?_
    rw [← Option.some.inj h] at hK
    have hK : ((-3 : Int32), M) = (ro, mo) := hK
    obtain ⟨hK1, hK2⟩ := Prod.mk.inj hK
    rw [hK2] at O
    refine xr_top (w := .int ro) (by rw [hK1]) ?_
    exact xr_iret X hr hlk O dX11_undo_24
  rw [if_neg hc2] at h
  refine lv_iload_n hx hb dX11_undo_5 rfl (lv_at hl 1 rfl) ?_
  refine lv_bipush (v := (10 : Int32)) hx hb dX11_undo_6 (by decide) ?_
  refine lv_icmp_gt (tgt := 22) hx hb dX11_undo_8 (by decide) (fun hc8 => ?_) (fun hc8 => ?_)
  · rw [if_pos hc8] at h
    refine lv_bipush (v := (-3 : Int32)) hx hb dX11_undo_22 (by decide) ?_
    rw [← Option.some.inj h] at hK
    have hK : ((-3 : Int32), M) = (ro, mo) := hK
    obtain ⟨hK1, hK2⟩ := Prod.mk.inj hK
    rw [hK2] at O
    refine xr_top (w := .int ro) (by rw [hK1]) ?_
    exact xr_iret X hr hlk O dX11_undo_24
  rw [if_neg hc8] at h
  refine lv_iload_n hx hb dX11_undo_11 rfl (lv_at hl 1 rfl) ?_
  refine lv_aload_n hx hb dX11_undo_12 rfl (lv_at hl 0 rfl) ?_
  obtain ⟨t1, ht1, h⟩ := Option.bind_eq_some_iff.mp h
  refine xr_getP X O ht1 fl_X11_43 dX11_undo_13 ?_
  obtain ⟨t2, ht2, h⟩ := Option.bind_eq_some_iff.mp h
  refine xr_getI X O ht2 fl_X11_218 (Or.inl rfl) dX11_undo_16 ?_
  refine lv_icmp_le (tgt := 25) hx hb dX11_undo_19 (by decide) (fun hc19 => ?_) (fun hc19 => ?_)
  · rw [if_pos hc19] at h
    refine lv_aload_n hx hb dX11_undo_25 rfl (lv_at hl 0 rfl) ?_
    obtain ⟨t3, ht3, h⟩ := Option.bind_eq_some_iff.mp h
    refine xr_getP X O ht3 fl_X11_43 dX11_undo_26 ?_
    refine lv_iload_n hx hb dX11_undo_29 rfl (lv_at hl 1 rfl) ?_
    refine lv_aload_n hx hb dX11_undo_30 rfl (lv_at hl 0 rfl) ?_
    obtain ⟨t4, ht4, h⟩ := Option.bind_eq_some_iff.mp h
    refine xr_getP X O ht4 fl_X11_26 dX11_undo_31 ?_
    obtain ⟨_, hut5, h⟩ := Option.bind_eq_some_iff.mp h
    obtain ⟨t6, ht6, h⟩ := Option.bind_eq_some_iff.mp h
    refine xr_callV (rest := []) X O (T_X5_bringBack l κ t3 a1 t4 M _ ht6) lk_X11_221 hut5 (Nat.le_of_ble_eq_true rfl) rfl hl.1 rfl (Nat.le_of_ble_eq_true rfl) dX11_undo_34 ⟨Nat.le_of_ble_eq_true rfl, Nat.le_of_ble_eq_true rfl⟩ (fun H locs O => ?_)
    refine W.eq (g2 := F0 m 37 ls []) rfl ?_
    refine lv_aload_n hx hb dX11_undo_37 rfl (lv_at hl 0 rfl) ?_
    obtain ⟨t7, ht7, h⟩ := Option.bind_eq_some_iff.mp h
    refine xr_getP X O ht7 fl_X11_43 dX11_undo_38 ?_
    obtain ⟨t8, ht8, h⟩ := Option.bind_eq_some_iff.mp h
    refine xr_getI X O ht8 fl_X11_218 (Or.inl rfl) dX11_undo_41 ?_
    rw [← Option.some.inj h] at hK
    have hK : (t8, t6) = (ro, mo) := hK
    obtain ⟨hK1, hK2⟩ := Prod.mk.inj hK
    rw [hK2] at O
    refine xr_top (w := .int ro) (by rw [hK1]) ?_
    exact xr_iret X hr hlk O dX11_undo_44
  rw [if_neg hc19] at h
  refine lv_bipush (v := (-3 : Int32)) hx hb dX11_undo_22 (by decide) ?_
  rw [← Option.some.inj h] at hK
  have hK : ((-3 : Int32), M) = (ro, mo) := hK
  obtain ⟨hK1, hK2⟩ := Prod.mk.inj hK
  rw [hK2] at O
  refine xr_top (w := .int ro) (by rw [hK1]) ?_
  exact xr_iret X hr hlk O dX11_undo_24
def F_X11_isTray_13 (M : xM) : Option (Int32 × xM) :=
(xz (0 : Int32)).bind fun t2 =>
some (t2, M)
def F_X11_isTray (a0 : Int32) (M : xM) : Option (Int32 × xM) :=
if a0 < 0 then (
F_X11_isTray_13 M)
else (
if (4 : Int32) ≤ a0 then (
F_X11_isTray_13 M)
else (
(xz (1 : Int32)).bind fun t1 =>
some (t1, M)))
set_option maxRecDepth 100000 in
set_option maxHeartbeats 4000000 in
theorem F_X11_isTray_13_ok (X : xX p s m args c cX11_isTray 1 RX11 κ) (hr : meth.sig.returnType = (some .boolean)) (hlk : meth.locks = false) {ro : Int32} {mo : xM} (M : xM) (x : Int32 × xM) (h : F_X11_isTray_13 M = some x) (hK : (fun o => o = (ro, mo)) x) (H : Heap) (locs : List Loc) (ls : Array Slot) (O : xO κ s M H locs) (hl : lv_has ls 1 []) : W p l e (xRm 2 0 0) s m args below meth c H locs 0 0 (xQf below args s 0 0 κ (some (.int ro)) mo) (F0 m 13 ls []) := by
  unfold F_X11_isTray_13 at h
  have hx := X.1
  have hb := X.2.1
  refine lv_iconst (v := (0 : Int32)) hx hb dX11_isTray_13 (by decide) ?_
  obtain ⟨t2, ht2, h⟩ := Option.bind_eq_some_iff.mp h
  rw [← Option.some.inj h] at hK
  have hK : (t2, M) = (ro, mo) := hK
  obtain ⟨hK1, hK2⟩ := Prod.mk.inj hK
  rw [hK1] at ht2
  rw [hK2] at O
  exact xr_zret X hr hlk O ht2 dX11_isTray_14
set_option maxRecDepth 100000 in
set_option maxHeartbeats 4000000 in
theorem T_X11_isTray (l : Launch) (κ : xQ) (a0 : Int32) (M : xM) (ro : Int32) (mo : xM) (h : F_X11_isTray a0 M = some (ro, mo)) : xC l yX11_isTray cX11_isTray 1 (some .boolean) 2 0 0 κ [.int a0] M (some (.int ro)) mo := by
  refine xC_of rfl (Nat.le_of_ble_eq_true rfl) fun p e s m args below meth c X hr hlk hnm H locs ls O hl => ?_
  have X : xX p s m args c cX11_isTray 1 RX11 κ := X
  have hl : lv_has ls 1 [(0, .int a0)] := hl
  have hx := X.1
  have hb := X.2.1
  obtain ⟨x, hx0⟩ : ∃ x, (ro, mo) = x := ⟨_, rfl⟩
  rw [hx0] at h
  have hK : x = (ro, mo) := hx0.symm
  unfold F_X11_isTray at h
  refine lv_iload_n hx hb dX11_isTray_0 rfl (lv_at hl 0 rfl) ?_
  refine lv_if_lt (tgt := 13) hx hb dX11_isTray_1 (by decide) (fun hc1 => ?_) (fun hc1 => ?_)
  · rw [if_pos hc1] at h
    exact F_X11_isTray_13_ok X hr hlk  M _ h hK H locs ls O (lv_sub hl [] rfl)
  rw [if_neg hc1] at h
  refine lv_iload_n hx hb dX11_isTray_4 rfl (lv_at hl 0 rfl) ?_
  refine lv_iconst (v := (4 : Int32)) hx hb dX11_isTray_5 (by decide) ?_
  refine lv_icmp_ge (tgt := 13) hx hb dX11_isTray_6 (by decide) (fun hc6 => ?_) (fun hc6 => ?_)
  · rw [if_pos hc6] at h
    exact F_X11_isTray_13_ok X hr hlk  M _ h hK H locs ls O (lv_sub hl [] rfl)
  rw [if_neg hc6] at h
  refine lv_iconst (v := (1 : Int32)) hx hb dX11_isTray_9 (by decide) ?_
  refine lv_goto (tgt := 14) hx hb dX11_isTray_10 (by decide) ?_
  obtain ⟨t1, ht1, h⟩ := Option.bind_eq_some_iff.mp h
  rw [← Option.some.inj h] at hK
  have hK : (t1, M) = (ro, mo) := hK
  obtain ⟨hK1, hK2⟩ := Prod.mk.inj hK
  rw [hK1] at ht1
  rw [hK2] at O
  exact xr_zret X hr hlk O ht1 dX11_isTray_14
def F_X11_refusedTray (a0 : Nat) (a1 : Int32) (M : xM) : Option (Int32 × xM) :=
(F_X11_isTray a1 M).bind fun t1 =>
if t1.1 = 0 then (
some ((-2 : Int32), t1.2))
else (
(xgP t1.2 a0 11 7).bind fun t2 =>
(xaP t1.2 40 t2 a1).bind fun t3 =>
(xgI t1.2 t3 10 0).bind fun t4 =>
if t4 = (-1 : Int32) then (
some ((-6 : Int32), t1.2))
else (
some ((0 : Int32), t1.2)))
set_option maxRecDepth 100000 in
set_option maxHeartbeats 4000000 in
theorem T_X11_refusedTray (l : Launch) (κ : xQ) (a0 : Nat) (a1 : Int32) (M : xM) (ro : Int32) (mo : xM) (h : F_X11_refusedTray a0 a1 M = some (ro, mo)) : xC l yX11_refusedTray cX11_refusedTray 2 (some .int) 3 0 0 κ [.ref (κ.1 + a0), .int a1] M (some (.int ro)) mo := by
  refine xC_of rfl (Nat.le_of_ble_eq_true rfl) fun p e s m args below meth c X hr hlk hnm H locs ls O hl => ?_
  have X : xX p s m args c cX11_refusedTray 2 RX11 κ := X
  have hl : lv_has ls 2 [(0, .ref (κ.1 + a0)), (1, .int a1)] := hl
  have hx := X.1
  have hb := X.2.1
  obtain ⟨x, hx0⟩ : ∃ x, (ro, mo) = x := ⟨_, rfl⟩
  rw [hx0] at h
  have hK : x = (ro, mo) := hx0.symm
  unfold F_X11_refusedTray at h
  refine lv_iload_n hx hb dX11_refusedTray_0 rfl (lv_at hl 1 rfl) ?_
  obtain ⟨t1, ht1, h⟩ := Option.bind_eq_some_iff.mp h
  refine xr_callS (rest := []) X O (T_X11_isTray l κ a1 M _ _ ht1) lk_X11_341 (Nat.le_of_ble_eq_true rfl) rfl hl.1 rfl (Nat.le_of_ble_eq_true rfl) dX11_refusedTray_1 ⟨Nat.le_of_ble_eq_true rfl, Nat.le_of_ble_eq_true rfl⟩ (fun H locs O => ?_)
  refine W.eq (g2 := F0 m 4 ls [.int t1.1]) rfl ?_
  refine lv_if_ne (tgt := 10) hx hb dX11_refusedTray_4 (by decide) (fun hc4 => ?_) (fun hc4 => ?_)
  · rw [if_neg hc4] at h
    refine lv_aload_n hx hb dX11_refusedTray_10 rfl (lv_at hl 0 rfl) ?_
    obtain ⟨t2, ht2, h⟩ := Option.bind_eq_some_iff.mp h
    refine xr_getP X O ht2 fl_X11_49 dX11_refusedTray_11 ?_
    refine lv_iload_n hx hb dX11_refusedTray_14 rfl (lv_at hl 1 rfl) ?_
    obtain ⟨t3, ht3, h⟩ := Option.bind_eq_some_iff.mp h
    refine xr_aldP (t0 := 6) (C := RX10) X O ht3 (by simp [xRk]) dX11_refusedTray_15 ?_
    obtain ⟨t4, ht4, h⟩ := Option.bind_eq_some_iff.mp h
    refine xr_getI X O ht4 fl_X11_232 (Or.inl rfl) dX11_refusedTray_16 ?_
    refine lv_iconst (v := (-1 : Int32)) hx hb dX11_refusedTray_19 (by decide) ?_
    refine lv_icmp_ne (tgt := 28) hx hb dX11_refusedTray_20 (by decide) (fun hc20 => ?_) (fun hc20 => ?_)
    · rw [if_neg hc20] at h
      refine lv_iconst (v := (0 : Int32)) hx hb dX11_refusedTray_28 (by decide) ?_
      rw [← Option.some.inj h] at hK
      have hK : ((0 : Int32), t1.2) = (ro, mo) := hK
      obtain ⟨hK1, hK2⟩ := Prod.mk.inj hK
      rw [hK2] at O
      refine xr_top (w := .int ro) (by rw [hK1]) ?_
      exact xr_iret X hr hlk O dX11_refusedTray_29
    rw [if_pos hc20] at h
    refine lv_bipush (v := (-6 : Int32)) hx hb dX11_refusedTray_23 (by decide) ?_
    refine lv_goto (tgt := 29) hx hb dX11_refusedTray_25 (by decide) ?_
    rw [← Option.some.inj h] at hK
    have hK : ((-6 : Int32), t1.2) = (ro, mo) := hK
    obtain ⟨hK1, hK2⟩ := Prod.mk.inj hK
    rw [hK2] at O
    refine xr_top (w := .int ro) (by rw [hK1]) ?_
    exact xr_iret X hr hlk O dX11_refusedTray_29
  rw [if_pos hc4] at h
  refine lv_bipush (v := (-2 : Int32)) hx hb dX11_refusedTray_7 (by decide) ?_
  rw [← Option.some.inj h] at hK
  have hK : ((-2 : Int32), t1.2) = (ro, mo) := hK
  obtain ⟨hK1, hK2⟩ := Prod.mk.inj hK
  rw [hK2] at O
  refine xr_top (w := .int ro) (by rw [hK1]) ?_
  exact xr_iret X hr hlk O dX11_refusedTray_9
def F_X11_doDeeds_37 (v3 : Int32) (M : xM) : Option (Int32 × xM) :=
some (v3, M)
def F_X11_doDeeds_2b (v0 : Nat) (v1 : Nat) (v2 : Nat) : (Int32 × xM) → Option ((Int32 × xM) ⊕ (Int32 × xM)) := fun ⟨v3, M⟩ =>
(xgI M v1 10 0).bind fun t1 =>
if t1 ≤ v3 then (
(F_X11_doDeeds_37 v3 M).map Sum.inr)
else (
(xgP M v0 11 5).bind fun t2 =>
(xgP M v0 11 2).bind fun t3 =>
(xgP M v1 10 2).bind fun t4 =>
(xaJ M t4 v3).bind fun t5 =>
(xck M t2 8).bind fun _ =>
(F_X8_attempt t2 t3 v2 t5 M).bind fun t7 =>
if t7.1 = 0 then (
some (.inl ((v3 + 1), t7.2)))
else (
(F_X11_doDeeds_37 v3 t7.2).map Sum.inr))
def F_X11_doDeeds_2 (v0 : Nat) (v1 : Nat) (v2 : Nat) (v3 : Int32) (M : xM) : Option (Int32 × xM) := xit (F_X11_doDeeds_2b v0 v1 v2) xFU (v3, M)
def F_X11_doDeeds (a0 : Nat) (a1 : Nat) (a2 : Nat) (M : xM) : Option (Int32 × xM) :=
F_X11_doDeeds_2 a0 a1 a2 (0 : Int32) M
set_option maxRecDepth 100000 in
set_option maxHeartbeats 4000000 in
theorem F_X11_doDeeds_37_ok (X : xX p s m args c cX11_doDeeds 4 RX11 κ) (hr : meth.sig.returnType = (some .int)) (hlk : meth.locks = false) {ro : Int32} {mo : xM} (v3 : Int32) (M : xM) (x : Int32 × xM) (h : F_X11_doDeeds_37 v3 M = some x) (hK : (fun o => o = (ro, mo)) x) (H : Heap) (locs : List Loc) (ls : Array Slot) (O : xO κ s M H locs) (hl : lv_has ls 4 [(3, .int v3)]) : W p l e (xRm 8 0 0) s m args below meth c H locs 0 0 (xQf below args s 0 0 κ (some (.int ro)) mo) (F0 m 37 ls []) := by
  unfold F_X11_doDeeds_37 at h
  have hx := X.1
  have hb := X.2.1
  refine lv_iload_n hx hb dX11_doDeeds_37 rfl (lv_at hl 0 rfl) ?_
  rw [← Option.some.inj h] at hK
  have hK : (v3, M) = (ro, mo) := hK
  obtain ⟨hK1, hK2⟩ := Prod.mk.inj hK
  rw [hK2] at O
  refine xr_top (w := .int ro) (by rw [hK1]) ?_
  exact xr_iret X hr hlk O dX11_doDeeds_38
set_option maxRecDepth 100000 in
set_option maxHeartbeats 4000000 in
theorem F_X11_doDeeds_2_bok (X : xX p s m args c cX11_doDeeds 4 RX11 κ) (hr : meth.sig.returnType = (some .int)) (hlk : meth.locks = false) {ro : Int32} {mo : xM} (v0 : Nat) (v1 : Nat) (v2 : Nat) (v3 : Int32) {W2 : Int32 × xM → Prop} (hW2 : ∀ (v3 : Int32) (M : xM), W2 (v3, M) → ∀ (H : Heap) (locs : List Loc) (ls : Array Slot), xO κ s M H locs → lv_has ls 4 [(0, .ref (κ.1 + v0)), (1, .ref (κ.1 + v1)), (2, .ref (κ.1 + v2)), (3, .int v3)] → W p l e (xRm 8 0 0) s m args below meth c H locs 0 0 (xQf below args s 0 0 κ (some (.int ro)) mo) (F0 m 2 ls [])) (M : xM) (x : (Int32 × xM) ⊕ (Int32 × xM)) (h : F_X11_doDeeds_2b v0 v1 v2 (v3, M) = some x) (hK : (xKl W2 (fun o => o = (ro, mo))) x) (H : Heap) (locs : List Loc) (ls : Array Slot) (O : xO κ s M H locs) (hl : lv_has ls 4 [(0, .ref (κ.1 + v0)), (1, .ref (κ.1 + v1)), (2, .ref (κ.1 + v2)), (3, .int v3)]) : W p l e (xRm 8 0 0) s m args below meth c H locs 0 0 (xQf below args s 0 0 κ (some (.int ro)) mo) (F0 m 2 ls []) := by
  unfold F_X11_doDeeds_2b at h
  dsimp only at h
  have hx := X.1
  have hb := X.2.1
  refine lv_iload_n hx hb dX11_doDeeds_2 rfl (lv_at hl 3 rfl) ?_
  refine lv_aload_n hx hb dX11_doDeeds_3 rfl (lv_at hl 1 rfl) ?_
  obtain ⟨t1, ht1, h⟩ := Option.bind_eq_some_iff.mp h
  refine xr_getI X O ht1 fl_X11_232 (Or.inl rfl) dX11_doDeeds_4 ?_
  refine lv_icmp_ge (tgt := 37) hx hb dX11_doDeeds_7 (by decide) (fun hc7 => ?_) (fun hc7 => ?_)
  · rw [if_pos hc7] at h
    obtain ⟨_, hw0, ew0⟩ := Option.map_eq_some_iff.mp h
    rw [← ew0] at hK
    have h := hw0
    exact F_X11_doDeeds_37_ok X hr hlk v3 M _ h hK H locs ls O (lv_sub hl [3] rfl)
  rw [if_neg hc7] at h
  refine lv_aload_n hx hb dX11_doDeeds_10 rfl (lv_at hl 0 rfl) ?_
  obtain ⟨t2, ht2, h⟩ := Option.bind_eq_some_iff.mp h
  refine xr_getP X O ht2 fl_X11_36 dX11_doDeeds_11 ?_
  refine lv_aload_n hx hb dX11_doDeeds_14 rfl (lv_at hl 0 rfl) ?_
  obtain ⟨t3, ht3, h⟩ := Option.bind_eq_some_iff.mp h
  refine xr_getP X O ht3 fl_X11_19 dX11_doDeeds_15 ?_
  refine lv_aload_n hx hb dX11_doDeeds_18 rfl (lv_at hl 2 rfl) ?_
  refine lv_aload_n hx hb dX11_doDeeds_19 rfl (lv_at hl 1 rfl) ?_
  obtain ⟨t4, ht4, h⟩ := Option.bind_eq_some_iff.mp h
  refine xr_getP X O ht4 fl_X11_233 dX11_doDeeds_20 ?_
  refine lv_iload_n hx hb dX11_doDeeds_23 rfl (lv_at hl 3 rfl) ?_
  obtain ⟨t5, ht5, h⟩ := Option.bind_eq_some_iff.mp h
  refine xr_aldJ X O ht5 dX11_doDeeds_24 ?_
  obtain ⟨_, hut6, h⟩ := Option.bind_eq_some_iff.mp h
  obtain ⟨t7, ht7, h⟩ := Option.bind_eq_some_iff.mp h
  refine xr_callV (rest := []) X O (T_X8_attempt l κ t2 t3 v2 t5 M _ _ ht7) lk_X11_237 hut6 (Nat.le_of_ble_eq_true rfl) rfl hl.1 rfl (Nat.le_of_ble_eq_true rfl) dX11_doDeeds_25 ⟨Nat.le_of_ble_eq_true rfl, Nat.le_of_ble_eq_true rfl⟩ (fun H locs O => ?_)
  refine W.eq (g2 := F0 m 28 ls [.int t7.1]) rfl ?_
  refine lv_if_ne (tgt := 37) hx hb dX11_doDeeds_28 (by decide) (fun hc28 => ?_) (fun hc28 => ?_)
  · rw [if_neg hc28] at h
    obtain ⟨_, hw0, ew0⟩ := Option.map_eq_some_iff.mp h
    rw [← ew0] at hK
    have h := hw0
    exact F_X11_doDeeds_37_ok X hr hlk v3 t7.2 _ h hK H locs ls O (lv_sub hl [3] rfl)
  rw [if_pos hc28] at h
  refine lv_iinc (v := (v3 + 1)) (lv' := [(3, .int (v3 + 1)), (0, .ref (κ.1 + v0)), (1, .ref (κ.1 + v1)), (2, .ref (κ.1 + v2))]) hx hb dX11_doDeeds_31 hl (k := 3) rfl rfl (by decide) rfl (fun ls hl => ?_)
  refine lv_goto (tgt := 2) hx hb dX11_doDeeds_34 (by decide) ?_
  rw [← Option.some.inj h] at hK
  exact hW2 (v3 + 1) t7.2 hK H locs ls O (lv_sub hl [1, 2, 3, 0] rfl)
set_option maxRecDepth 100000 in
set_option maxHeartbeats 4000000 in
theorem F_X11_doDeeds_2_ok (X : xX p s m args c cX11_doDeeds 4 RX11 κ) (hr : meth.sig.returnType = (some .int)) (hlk : meth.locks = false) {ro : Int32} {mo : xM} (v0 : Nat) (v1 : Nat) (v2 : Nat) (v3 : Int32) (M : xM) (x : Int32 × xM) (h : F_X11_doDeeds_2 v0 v1 v2 v3 M = some x) (hK : (fun o => o = (ro, mo)) x) (H : Heap) (locs : List Loc) (ls : Array Slot) (O : xO κ s M H locs) (hl : lv_has ls 4 [(0, .ref (κ.1 + v0)), (1, .ref (κ.1 + v1)), (2, .ref (κ.1 + v2)), (3, .int v3)]) : W p l e (xRm 8 0 0) s m args below meth c H locs 0 0 (xQf below args s 0 0 κ (some (.int ro)) mo) (F0 m 2 ls []) := by
  refine xit_K (Wh := fun x => ∀ (H : Heap) (locs : List Loc) (ls : Array Slot), xO κ s x.2 H locs → lv_has ls 4 [(0, .ref (κ.1 + v0)), (1, .ref (κ.1 + v1)), (2, .ref (κ.1 + v2)), (3, .int x.1)] → W p l e (xRm 8 0 0) s m args below meth c H locs 0 0 (xQf below args s 0 0 κ (some (.int ro)) mo) (F0 m 2 ls [])) (Kp := (fun o => o = (ro, mo))) ?_ xFU (v3, M) x h hK H locs ls O hl
  intro y x h hK H locs ls O hl
  exact F_X11_doDeeds_2_bok X hr hlk v0 v1 v2 y.1 (fun _ _ hw => hw) y.2 x h hK H locs ls O hl
set_option maxRecDepth 100000 in
set_option maxHeartbeats 4000000 in
theorem T_X11_doDeeds (l : Launch) (κ : xQ) (a0 : Nat) (a1 : Nat) (a2 : Nat) (M : xM) (ro : Int32) (mo : xM) (h : F_X11_doDeeds a0 a1 a2 M = some (ro, mo)) : xC l yX11_doDeeds cX11_doDeeds 4 (some .int) 8 0 0 κ [.ref (κ.1 + a0), .ref (κ.1 + a1), .ref (κ.1 + a2)] M (some (.int ro)) mo := by
  refine xC_of rfl (Nat.le_of_ble_eq_true rfl) fun p e s m args below meth c X hr hlk hnm H locs ls O hl => ?_
  have X : xX p s m args c cX11_doDeeds 4 RX11 κ := X
  have hl : lv_has ls 4 [(0, .ref (κ.1 + a0)), (1, .ref (κ.1 + a1)), (2, .ref (κ.1 + a2))] := hl
  have hx := X.1
  have hb := X.2.1
  obtain ⟨x, hx0⟩ : ∃ x, (ro, mo) = x := ⟨_, rfl⟩
  rw [hx0] at h
  have hK : x = (ro, mo) := hx0.symm
  unfold F_X11_doDeeds at h
  refine lv_iconst (v := (0 : Int32)) hx hb dX11_doDeeds_0 (by decide) ?_
  refine lv_istore_n (lv' := [(3, .int (0 : Int32)), (0, .ref (κ.1 + a0)), (1, .ref (κ.1 + a1)), (2, .ref (κ.1 + a2))]) hx hb dX11_doDeeds_1 rfl hl (by decide) rfl (fun ls hl => ?_)
  exact F_X11_doDeeds_2_ok X hr hlk a0 a1 a2 (0 : Int32) M _ h hK H locs ls O (lv_sub hl [1, 2, 3, 0] rfl)
end G
