theorem xF_at {z : Nat} {ts : List Nat} {I : Nat → Int32} {J : Nat → Int64} {P : Nat → Option Nat} {f t : Nat} (h : ts[f]? = some t) : (xF z ts I J P)[f]? = some (xfv z I J P f t) := by
  simp [xF, List.getElem?_mapIdx, h]
theorem xF_len {z : Nat} {ts : List Nat} {I : Nat → Int32} {J : Nat → Int64} {P : Nat → Option Nat} : (xF z ts I J P).length = ts.length := by simp [xF]
theorem xF_set {z : Nat} {ts : List Nat} {I I' : Nat → Int32} {J : Nat → Int64} {P P' : Nat → Option Nat} {f t : Nat} {v : Value} (h : ts[f]? = some t) (hv : v = xfv z I' J P' f t) (hI : ∀ j, j ≠ f → I' j = I j) (hP : ∀ j, j ≠ f → P' j = P j) : (xF z ts I J P).set f v = xF z ts I' J P' := by
  have hk : f < ts.length := (List.getElem?_eq_some_iff.mp h).1
  apply List.ext_getElem?
  intro j
  by_cases hj : j = f
  · subst hj
    rw [List.getElem?_set_self (by rw [xF_len]; exact hk), xF_at h, hv]
  · rw [List.getElem?_set_ne (fun e => hj e.symm)]
    simp only [xF, List.getElem?_mapIdx]
    cases ts[j]? with
    | none => rfl
    | some t' => simp [xfv, hI j hj, hP j hj]
theorem xE_obj {z : Nat} {cA : Nat → ClassId} {ci n : Nat} {I : Nat → Int32} {J : Nat → Int64} {P : Nat → Option Nat} (h : ci < 20) : xE z cA (ci, n) I J P = .inr (ci, xF z (xts ci) I J P) := by simp [xE, h]
theorem xE_i {z : Nat} {cA : Nat → ClassId} {t n : Nat} {I : Nat → Int32} {J : Nat → Int64} {P : Nat → Option Nat} (h1 : ¬ t < 20) (h2 : t < 24) : xE z cA (t, n) I J P = .inl (cA t, n, .inl I) := by simp [xE, h1, h2]
theorem xE_j {z : Nat} {cA : Nat → ClassId} {n : Nat} {I : Nat → Int32} {J : Nat → Int64} {P : Nat → Option Nat} : xE z cA (24, n) I J P = .inl (cA 24, n, .inr (.inl J)) := by simp [xE]
theorem xE_q {z : Nat} {cA : Nat → ClassId} {t n : Nat} {I : Nat → Int32} {J : Nat → Int64} {P : Nat → Option Nat} (h1 : 24 < t) : xE z cA (t, n) I J P = .inl (cA t, n, .inr (.inr (.inr (.inr (fun i => (P i).map (z + ·)))))) := by
  simp [xE, show ¬ t < 20 by omega, show ¬ t < 24 by omega, show ¬ t = 24 by omega]
theorem xk_of {M : xM} {k ci : Nat} (h : (M.1[k]?).map Prod.fst = some ci) : ∃ n, M.1[k]? = some (ci, n) := by
  cases hk : M.1[k]? with
  | none => rw [hk] at h; cases h
  | some sh => rw [hk] at h; obtain ⟨a, b⟩ := sh; cases h; exact ⟨b, rfl⟩
theorem xln_of {M : xM} {t k n : Nat} (h : xln M t k = some n) : M.1[k]? = some (t, n) := by
  unfold xln at h
  split at h
  · next sh hs =>
    split at h
    · next e => cases h; rw [hs, ← e]
    · cases h
  · cases h
theorem xin_of {i : Int32} {n : Nat} (h : 0 ≤ i ∧ i.toNatClampNeg < n) : vp_in i n := by
  intro q
  rcases q with q | q
  · exact absurd h.1 (Int32.not_le.mpr q)
  · omega
/-! ===== classes and fields as the tables have them ===== -/
def xCL (ci : Nat) (C : String) (T : u_T) (N : Nat) (ty : Nat → FieldType) : Prop :=
  vwCl[ci]? = some (C, T, N) ∧ ci < 20 ∧ (∀ w ∈ u_ws C T N, w ∈ xw) ∧ (∀ k, k < N → parseFieldDescriptor (T k).2.2.1 = some (ty k)) ∧ (∀ a, a < N → ∀ b, b < N → a ≠ b → (T a).2.1 ≠ (T b).2.1) ∧ (xts ci).length = N
def xtk (t : FieldType) : Nat := match t with
  | .int => 0
  | .boolean => 3
  | .object _ => 2
  | .array _ => 2
  | _ => 9
def xFL (own : String) (idx ci f kd : Nat) (fin : Bool) : Prop := ∃ (C : String) (T : u_T) (N : Nat) (ty : Nat → FieldType), xCL ci C T N ty ∧ f < N ∧ Cond.fieldLink own idx (T f).1 (T f).2.1 (T f).2.2.1 ∈ xw ∧ (xts ci)[f]? = some kd ∧ xtk (ty f) = kd ∧ (T f).2.2.2 = fin ∧ (fin = true → (T f).1 = own ∨ True) ∧ (T f).1 = C
/-! ===== what holds while a method runs ===== -/
def xSC0 (κ : xQ) (SC : List (String × Nat × String × List Int32)) (U : State) : Prop := ∀ (i : Nat) (q : String × Nat × String × List Int32), SC[i]? = some q → vk_R q.1 q.2.1 q.2.2.1 (κ.2.2.2.1 i) U ∧ xT1 (xA κ) (κ.2.2.2.1 i) (κ.2.2.2.2 i) q.2.2.2 U U.heap
def xSC : List (String × Nat × String × List Int32) := [
  (RX7, 84, ";:+-*()[]=<>", [59, 58, 43, 45, 42, 40, 41, 91, 93, 61, 60, 62]),
  (RX7, 121, "shore", [115, 104, 111, 114, 101]),
  (RX7, 127, "rows", [114, 111, 119, 115]),
  (RX7, 129, "columns", [99, 111, 108, 117, 109, 110, 115]),
  (RX7, 139, "sand", [115, 97, 110, 100]),
  (RX7, 143, "house", [104, 111, 117, 115, 101]),
  (RX7, 188, "owner", [111, 119, 110, 101, 114]),
  (RX7, 148, "plot", [112, 108, 111, 116]),
  (RX7, 199, "minutes", [109, 105, 110, 117, 116, 101, 115]),
  (RX7, 201, "worth", [119, 111, 114, 116, 104]),
  (RX7, 153, "paper", [112, 97, 112, 101, 114]),
  (RX7, 158, "owes", [111, 119, 101, 115]),
  (RX7, 163, "moon", [109, 111, 111, 110]),
  (RX7, 167, "gale", [103, 97, 108, 101]),
  (RX7, 171, "tide", [116, 105, 100, 101]),
  (RX7, 261, "minute", [109, 105, 110, 117, 116, 101]),
  (RX7, 263, "row", [114, 111, 119]),
  (RX7, 265, "height", [104, 101, 105, 103, 104, 116]),
  (RX7, 267, "level", [108, 101, 118, 101, 108]),
  (RX7, 269, "near", [110, 101, 97, 114]),
  (RX7, 256, "if", [105, 102]),
  (RX7, 290, "not", [110, 111, 116]),
  (RX7, 288, "and", [97, 110, 100]),
  (RX7, 283, "or", [111, 114]),
  (RX7, 274, "then", [116, 104, 101, 110]),
  (RX7, 276, "else", [101, 108, 115, 101]),
  (RX7, 278, "end", [101, 110, 100]),
  (RX7, 177, "washes", [119, 97, 115, 104, 101, 115]),
  (RX12, 89, " shore rows columns sand house owner plot minutes worth paper owes moon gale tide washes if then else end minute row height level near and or not ", [32, 115, 104, 111, 114, 101, 32, 114, 111, 119, 115, 32, 99, 111, 108, 117, 109, 110, 115, 32, 115, 97, 110, 100, 32, 104, 111, 117, 115, 101, 32, 111, 119, 110, 101, 114, 32, 112, 108, 111, 116, 32, 109, 105, 110, 117, 116, 101, 115, 32, 119, 111, 114, 116, 104, 32, 112, 97, 112, 101, 114, 32, 111, 119, 101, 115, 32, 109, 111, 111, 110, 32, 103, 97, 108, 101, 32, 116, 105, 100, 101, 32, 119, 97, 115, 104, 101, 115, 32, 105, 102, 32, 116, 104, 101, 110, 32, 101, 108, 115, 101, 32, 101, 110, 100, 32, 109, 105, 110, 117, 116, 101, 32, 114, 111, 119, 32, 104, 101, 105, 103, 104, 116, 32, 108, 101, 118, 101, 108, 32, 110, 101, 97, 114, 32, 97, 110, 100, 32, 111, 114, 32, 110, 111, 116, 32]),
  (RX12, 127, ";:+-*()[]=<>", [59, 58, 43, 45, 42, 40, 41, 91, 93, 61, 60, 62])]
def xStr (κ : xQ) (U : State) : Prop := xSC0 κ xSC U ∧ va_Z "java/lang/String" "COMPACT_STRINGS" "Z" (.int 1) (xA κ) U U.heap ∧ va_Zq "jdk/internal/util/Preconditions" "SIOOBE_FORMATTER" "Ljava/util/function/BiFunction;" (xA κ) U U.heap ∧ va_AO RX0 U ∧ va_AO RX3 U ∧ va_AO RX10 U
def xX (p : Program) (s : State) (m : MethodId) (args : Array Value) (c : Code) (cc : ByteArray) (nL : Nat) (own : String) (κ : xQ) : Prop :=
  p.tables.exec = Jvm.exec ∧ c.code = cc ∧ c.maxLocals = nL ∧ s.vm.findClass own = some m.cls ∧ (∀ w ∈ xw, w.before args s = true) ∧ xK κ s ∧ xStr κ s
def xO (κ : xQ) (s : State) (M : xM) (H : Heap) (locs : List Loc) : Prop := xR κ M H ∧ va_S (xA κ) s.heap H locs
section XR
variable {p : Program} {l : Launch} {e : Env} {R : Room} {s : State} {m : MethodId} {args : Array Value} {below : List Frame} {meth : Method} {c : Code} {H : Heap} {locs : List Loc} {cells slots : Nat} {Q : State → Prop}
variable {cc : ByteArray} {nL : Nat} {own : String} {κ : xQ} {M M' : xM} {pc : Nat} {ls : Array Slot} {rest : List Value}
theorem xr_top {v w : Value} (h : v = w) (k : W p l e R s m args below meth c H locs cells slots Q (F0 m pc ls (w :: rest))) : W p l e R s m args below meth c H locs cells slots Q (F0 m pc ls (v :: rest)) := h ▸ k
theorem xr_getI (X : xX p s m args c cc nL own κ) (O : xO κ s M H locs) {k ci f kd idx : Nat} {fin : Bool} {v : Int32} (hv : xgI M k ci f = some v) (fl : xFL own idx ci f kd fin) (hkd : kd = 0 ∨ kd = 3) (hdg : decode cc pc = .ok (.getfield idx, 3))
    (kk : W p l e R s m args below meth c H locs cells slots Q (F0 m (pc + 3) ls (.int v :: rest))) : W p l e R s m args below meth c H locs cells slots Q (F0 m pc ls (.ref (κ.1 + k) :: rest)) := by
  obtain ⟨C, T, N, ty, ⟨hc, h20, hin, hty, hnm, hN⟩, hf, hl, hk, -, -, -, hT⟩ := fl
  unfold xgI at hv
  split at hv
  · next hs =>
    cases hv
    obtain ⟨n, hs⟩ := xk_of hs
    have hw := xWs_at (z := κ.1) (cA := κ.2.1) hs
    rw [xE_obj h20] at hw
    refine va_get (D := κ.2.2.1) (ci := ci) (v := .int (M.2.1 k f)) X.1 X.2.1 X.2.2.2.2.1 hin X.2.2.2.1 X.2.2.2.2.2.1 O.1.1 k hw hc f hf (X.2.2.2.2.1 _ hl) (fun _ h => h) ?_ hdg kk
    rw [xF_at hk]
    simp [xfv, hkd]
  · cases hv
theorem xr_getP (X : xX p s m args c cc nL own κ) (O : xO κ s M H locs) {k ci f idx : Nat} {fin : Bool} {v : Nat} (hv : xgP M k ci f = some v) (fl : xFL own idx ci f 2 fin) (hdg : decode cc pc = .ok (.getfield idx, 3))
    (kk : W p l e R s m args below meth c H locs cells slots Q (F0 m (pc + 3) ls (.ref (κ.1 + v) :: rest))) : W p l e R s m args below meth c H locs cells slots Q (F0 m pc ls (.ref (κ.1 + k) :: rest)) := by
  obtain ⟨C, T, N, ty, ⟨hc, h20, hin, hty, hnm, hN⟩, hf, hl, hk, -, -, -, hT⟩ := fl
  unfold xgP at hv
  split at hv
  · next hs =>
    obtain ⟨n, hs⟩ := xk_of hs
    have hw := xWs_at (z := κ.1) (cA := κ.2.1) hs
    rw [xE_obj h20] at hw
    refine va_get (D := κ.2.2.1) (ci := ci) (v := .ref (κ.1 + v)) X.1 X.2.1 X.2.2.2.2.1 hin X.2.2.2.1 X.2.2.2.2.2.1 O.1.1 k hw hc f hf (X.2.2.2.2.1 _ hl) (fun _ h => h) ?_ hdg kk
    rw [xF_at hk]
    simp [xfv, hv, va_rf]
  · cases hv
theorem xr_aldI (X : xX p s m args c cc nL own κ) (O : xO κ s M H locs) {k : Nat} {i v : Int32} (hv : xaI M 20 k i = some v) (hdg : decode cc pc = .ok (.iaload, 1))
    (kk : W p l e R s m args below meth c H locs cells slots Q (F0 m (pc + 1) ls (.int v :: rest))) : W p l e R s m args below meth c H locs cells slots Q (F0 m pc ls (.int i :: .ref (κ.1 + k) :: rest)) := by
  obtain ⟨n, hn, hv⟩ := Option.bind_eq_some_iff.mp hv
  split at hv
  · next hi =>
    cases hv
    have hw := xWs_at (z := κ.1) (cA := κ.2.1) (xln_of hn)
    rw [xE_i (by decide) (by decide)] at hw
    exact va_iald X.1 X.2.1 X.2.2.2.2.2.1 O.1.1 k 0 hw rfl (xin_of hi) hdg kk
  · cases hv
theorem xr_aldB (X : xX p s m args c cc nL own κ) (O : xO κ s M H locs) {k : Nat} {i v : Int32} (hv : xaI M 21 k i = some v) (hdg : decode cc pc = .ok (.baload, 1))
    (kk : W p l e R s m args below meth c H locs cells slots Q (F0 m (pc + 1) ls (.int v :: rest))) : W p l e R s m args below meth c H locs cells slots Q (F0 m pc ls (.int i :: .ref (κ.1 + k) :: rest)) := by
  obtain ⟨n, hn, hv⟩ := Option.bind_eq_some_iff.mp hv
  split at hv
  · next hi =>
    cases hv
    have hw := xWs_at (z := κ.1) (cA := κ.2.1) (xln_of hn)
    rw [xE_i (by decide) (by decide)] at hw
    exact va_bald X.1 X.2.1 X.2.2.2.2.2.1 O.1.1 k 1 hw rfl (xin_of hi) hdg kk
  · cases hv
theorem xr_aldZ (X : xX p s m args c cc nL own κ) (O : xO κ s M H locs) {k : Nat} {i v : Int32} (hv : xaI M 22 k i = some v) (hdg : decode cc pc = .ok (.baload, 1))
    (kk : W p l e R s m args below meth c H locs cells slots Q (F0 m (pc + 1) ls (.int v :: rest))) : W p l e R s m args below meth c H locs cells slots Q (F0 m pc ls (.int i :: .ref (κ.1 + k) :: rest)) := by
  obtain ⟨n, hn, hv⟩ := Option.bind_eq_some_iff.mp hv
  split at hv
  · next hi =>
    cases hv
    have hw := xWs_at (z := κ.1) (cA := κ.2.1) (xln_of hn)
    rw [xE_i (by decide) (by decide)] at hw
    exact va_zald X.1 X.2.1 X.2.2.2.2.2.1 O.1.1 k 2 hw rfl (xin_of hi) hdg kk
  · cases hv
theorem xr_aldJ (X : xX p s m args c cc nL own κ) (O : xO κ s M H locs) {k : Nat} {i : Int32} {v : Int64} (hv : xaJ M k i = some v) (hdg : decode cc pc = .ok (.laload, 1))
    (kk : W p l e R s m args below meth c H locs cells slots Q (F0 m (pc + 1) ls (.long v :: rest))) : W p l e R s m args below meth c H locs cells slots Q (F0 m pc ls (.int i :: .ref (κ.1 + k) :: rest)) := by
  obtain ⟨n, hn, hv⟩ := Option.bind_eq_some_iff.mp hv
  split at hv
  · next hi =>
    cases hv
    have hw := xWs_at (z := κ.1) (cA := κ.2.1) (xln_of hn)
    rw [xE_j] at hw
    exact va_lald X.1 X.2.1 X.2.2.2.2.2.1 O.1.1 k 3 hw rfl (xin_of hi) hdg kk
  · cases hv
/-- the array kinds of references: (kind, its place among the types, its class' name) -/
def xRk (t t0 : Nat) (C : String) : Prop := (t = 30 ∧ t0 = 4 ∧ C = RX0) ∨ (t = 33 ∧ t0 = 5 ∧ C = RX3) ∨ (t = 40 ∧ t0 = 6 ∧ C = RX10)
theorem xRk_ty {t t0 : Nat} {C : String} (h : xRk t t0 C) (cA : Nat → ClassId) : (xtys cA)[t0]? = some (cA t, .object C) ∧ 24 < t := by
  rcases h with ⟨rfl, rfl, rfl⟩ | ⟨rfl, rfl, rfl⟩ | ⟨rfl, rfl, rfl⟩ <;> exact ⟨rfl, by decide⟩
theorem xr_aldP (X : xX p s m args c cc nL own κ) (O : xO κ s M H locs) {t t0 k v : Nat} {C : String} {i : Int32} (hv : xaP M t k i = some v) (ht : xRk t t0 C) (hdg : decode cc pc = .ok (.aaload, 1))
    (kk : W p l e R s m args below meth c H locs cells slots Q (F0 m (pc + 1) ls (.ref (κ.1 + v) :: rest))) : W p l e R s m args below meth c H locs cells slots Q (F0 m pc ls (.int i :: .ref (κ.1 + k) :: rest)) := by
  obtain ⟨n, hn, hv⟩ := Option.bind_eq_some_iff.mp hv
  split at hv
  · next hi =>
    have hw := xWs_at (z := κ.1) (cA := κ.2.1) (xln_of hn)
    rw [xE_q (xRk_ty ht κ.2.1).2] at hw
    refine va_aldq X.1 X.2.1 X.2.2.2.2.2.1 O.1.1 k t0 hw (xRk_ty ht κ.2.1).1 (xin_of hi) hdg ?_
    rw [hv]
    exact kk
  · cases hv
theorem xr_aldLen (X : xX p s m args c cc nL own κ) (O : xO κ s M H locs) {t k : Nat} {v : Int32} (hv : xal M t k = some v) (ht : t = 20 ∨ t = 21 ∨ t = 24) (hdg : decode cc pc = .ok (.arraylength, 1))
    (kk : W p l e R s m args below meth c H locs cells slots Q (F0 m (pc + 1) ls (.int v :: rest))) : W p l e R s m args below meth c H locs cells slots Q (F0 m pc ls (.ref (κ.1 + k) :: rest)) := by
  obtain ⟨n, hn, hv2⟩ := Option.map_eq_some_iff.mp hv
  have hw := xWs_at (z := κ.1) (cA := κ.2.1) (xln_of hn)
  rcases ht with rfl | rfl | rfl
  · rw [xE_i (by decide) (by decide)] at hw
    exact va_alen X.1 X.2.1 X.2.2.2.2.2.1 O.1.1 k 0 hw rfl hv2 hdg kk
  · rw [xE_i (by decide) (by decide)] at hw
    exact va_alen X.1 X.2.1 X.2.2.2.2.2.1 O.1.1 k 1 hw rfl hv2 hdg kk
  · rw [xE_j] at hw
    exact va_alen X.1 X.2.1 X.2.2.2.2.2.1 O.1.1 k 3 hw rfl hv2 hdg kk
/-! ===== stores ===== -/
/-- the world behind a store into cell k -/
theorem xO_set {k fl : Nat} {sh : xS} {H1 : Heap} (O : xO κ s M H locs) (hs : M.1[k]? = some sh) (h1 : M'.1 = M.1) (hI : ∀ j, j ≠ k → M'.2.1 j = M.2.1 j) (hJ : ∀ j, j ≠ k → M'.2.2.1 j = M.2.2.1 j) (hP : ∀ j, j ≠ k → M'.2.2.2 j = M.2.2.2 j)
    (hat : va_at κ.2.2.1 vwCl (κ.1 + k, xE κ.1 κ.2.1 sh (M'.2.1 k) (M'.2.2.1 k) (M'.2.2.2 k)) H1) (hz : H1.size = H.size) (hq : ∀ q : Nat, q ≠ κ.1 + k → H1[q]? = H[q]?) : xO κ s M' H1 (locs ++ [⟨κ.1 + k, fl⟩]) := by
  refine ⟨⟨?_, ?_⟩, O.2.put hz hq (Nat.le_add_right _ _)⟩
  · rw [← xWs_set hs h1 hI hJ hP]
    exact O.1.1.set xWs_D (xWs_at hs) hat hq
  · rw [hz, h1]
    exact O.1.2
theorem xr_stI (X : xX p s m args c cc nL own κ) (O : xO κ s M H locs) {k : Nat} {i v : Int32} (hv : xsI M k i v = some M') (hdg : decode cc pc = .ok (.iastore, 1))
    (kk : ∀ (H : Heap) (locs : List Loc), xO κ s M' H locs → W p l e R s m args below meth c H locs cells slots Q (F0 m (pc + 1) ls rest)) : W p l e R s m args below meth c H locs cells slots Q (F0 m pc ls (.int v :: .int i :: .ref (κ.1 + k) :: rest)) := by
  obtain ⟨n, hn, hv⟩ := Option.bind_eq_some_iff.mp hv
  split at hv
  · next hi =>
    cases hv
    have hs := xln_of hn
    have hw := xWs_at (z := κ.1) (cA := κ.2.1) hs
    rw [xE_i (by decide) (by decide)] at hw
    have ha := O.1.1 k _ hw
    refine W.iast X.1 X.2.1 ha ((X.2.2.2.2.2.1.2 0 _ rfl).1 n (fun j => .int (M.2.1 k j))) (fun q => by cases q) (by show ¬ (i < 0 ∨ (arrV _ _ _).slots.size ≤ _); rw [arrV_size]; exact xin_of hi) rfl rfl hdg fun H1 e z oq => ?_
    refine kk H1 _ (xO_set O hs rfl (fun j hj => xu_ne hj) (fun _ _ => rfl) (fun _ _ => rfl) ?_ z oq)
    rw [xE_i (by decide) (by decide)]
    show H1[κ.1 + k]? = some (vp_cell _ _)
    rw [e, vp_cell_i, vp_cell_i, arrV_store]
    congr 2
    funext q
    by_cases hq : q = i.toNatClampNeg
    · simp [updV, xu, hq]
    · simp [updV, xu, hq]
  · cases hv
theorem xr_stB (X : xX p s m args c cc nL own κ) (O : xO κ s M H locs) {k : Nat} {i v : Int32} (hv : xsB M k i v = some M') (hdg : decode cc pc = .ok (.bastore, 1))
    (kk : ∀ (H : Heap) (locs : List Loc), xO κ s M' H locs → W p l e R s m args below meth c H locs cells slots Q (F0 m (pc + 1) ls rest)) : W p l e R s m args below meth c H locs cells slots Q (F0 m pc ls (.int v :: .int i :: .ref (κ.1 + k) :: rest)) := by
  obtain ⟨n, hn, hv⟩ := Option.bind_eq_some_iff.mp hv
  split at hv
  · next hi =>
    cases hv
    have hs := xln_of hn
    have hw := xWs_at (z := κ.1) (cA := κ.2.1) hs
    rw [xE_i (by decide) (by decide)] at hw
    have ha := O.1.1 k _ hw
    refine W.bast X.1 X.2.1 ha ((X.2.2.2.2.2.1.2 1 _ rfl).1 n (fun j => .int (M.2.1 k j))) (fun q => by cases q) (by show ¬ (i < 0 ∨ (arrV _ _ _).slots.size ≤ _); rw [arrV_size]; exact xin_of hi) rfl rfl hdg fun H1 e z oq => ?_
    refine kk H1 _ (xO_set O hs rfl (fun j hj => xu_ne hj) (fun _ _ => rfl) (fun _ _ => rfl) ?_ z oq)
    rw [xE_i (by decide) (by decide)]
    show H1[κ.1 + k]? = some (vp_cell _ _)
    rw [e, vp_cell_i, vp_cell_i, arrV_store]
    congr 2
    funext q
    by_cases hq : q = i.toNatClampNeg
    · simp [updV, xu, hq, narrow]
    · simp [updV, xu, hq]
  · cases hv
theorem xr_stZ (X : xX p s m args c cc nL own κ) (O : xO κ s M H locs) {k : Nat} {i v : Int32} (hv : xsZ M k i v = some M') (hdg : decode cc pc = .ok (.bastore, 1))
    (kk : ∀ (H : Heap) (locs : List Loc), xO κ s M' H locs → W p l e R s m args below meth c H locs cells slots Q (F0 m (pc + 1) ls rest)) : W p l e R s m args below meth c H locs cells slots Q (F0 m pc ls (.int v :: .int i :: .ref (κ.1 + k) :: rest)) := by
  obtain ⟨n, hn, hv⟩ := Option.bind_eq_some_iff.mp hv
  split at hv
  · next hi =>
    cases hv
    have hs := xln_of hn
    have hw := xWs_at (z := κ.1) (cA := κ.2.1) hs
    rw [xE_i (by decide) (by decide)] at hw
    have ha := O.1.1 k _ hw
    refine W.zast X.1 X.2.1 ha ((X.2.2.2.2.2.1.2 2 _ rfl).1 n (fun j => .int (M.2.1 k j))) (fun q => by cases q) (by show ¬ (i < 0 ∨ (arrV _ _ _).slots.size ≤ _); rw [arrV_size]; exact xin_of hi) rfl rfl hdg fun H1 e z oq => ?_
    refine kk H1 _ (xO_set O hs rfl (fun j hj => xu_ne hj) (fun _ _ => rfl) (fun _ _ => rfl) ?_ z oq)
    rw [xE_i (by decide) (by decide)]
    show H1[κ.1 + k]? = some (vp_cell _ _)
    rw [e, vp_cell_i, vp_cell_i, arrV_store]
    congr 2
    funext q
    by_cases hq : q = i.toNatClampNeg
    · simp [updV, xu, hq, narrow]
    · simp [updV, xu, hq]
  · cases hv
theorem xr_stJ (X : xX p s m args c cc nL own κ) (O : xO κ s M H locs) {k : Nat} {i : Int32} {v : Int64} (hv : xsJ M k i v = some M') (hdg : decode cc pc = .ok (.lastore, 1))
    (kk : ∀ (H : Heap) (locs : List Loc), xO κ s M' H locs → W p l e R s m args below meth c H locs cells slots Q (F0 m (pc + 1) ls rest)) : W p l e R s m args below meth c H locs cells slots Q (F0 m pc ls (.long v :: .int i :: .ref (κ.1 + k) :: rest)) := by
  obtain ⟨n, hn, hv⟩ := Option.bind_eq_some_iff.mp hv
  split at hv
  · next hi =>
    cases hv
    have hs := xln_of hn
    have hw := xWs_at (z := κ.1) (cA := κ.2.1) hs
    rw [xE_j] at hw
    have ha := O.1.1 k _ hw
    refine W.last X.1 X.2.1 ha ((X.2.2.2.2.2.1.2 3 _ rfl).1 n (fun j => .long (M.2.2.1 k j))) (fun q => by cases q) (by show ¬ (i < 0 ∨ (arrV _ _ _).slots.size ≤ _); rw [arrV_size]; exact xin_of hi) rfl rfl hdg fun H1 e z oq => ?_
    refine kk H1 _ (xO_set O hs rfl (fun _ _ => rfl) (fun j hj => xu_ne hj) (fun _ _ => rfl) ?_ z oq)
    rw [xE_j]
    show H1[κ.1 + k]? = some (vp_cell _ _)
    rw [e, vp_cell_l, vp_cell_l, arrV_store]
    congr 2
    funext q
    by_cases hq : q = i.toNatClampNeg
    · simp [updV, xu, hq]
    · simp [updV, xu, hq]
  · cases hv
theorem xr_stP (X : xX p s m args c cc nL own κ) (O : xO κ s M H locs) {t t0 ci k v : Nat} {C : String} {T : u_T} {N : Nat} {ty : Nat → FieldType} {i : Int32} (hv : xsP M t ci k i v = some M') (ht : xRk t t0 C) (hc : xCL ci C T N ty) (hdg : decode cc pc = .ok (.aastore, 1))
    (kk : ∀ (H : Heap) (locs : List Loc), xO κ s M' H locs → W p l e R s m args below meth c H locs cells slots Q (F0 m (pc + 1) ls rest)) : W p l e R s m args below meth c H locs cells slots Q (F0 m pc ls (.ref (κ.1 + v) :: .int i :: .ref (κ.1 + k) :: rest)) := by
  obtain ⟨n, hn, hv⟩ := Option.bind_eq_some_iff.mp hv
  obtain ⟨hc, h20, -⟩ := hc
  split at hv
  · next hi =>
    cases hv
    obtain ⟨hi, hvo⟩ := hi
    obtain ⟨nv, hvo⟩ := xk_of hvo
    have hs := xln_of hn
    have hw := xWs_at (z := κ.1) (cA := κ.2.1) hs
    have hw2 := xWs_at (z := κ.1) (cA := κ.2.1) hvo
    rw [xE_obj h20] at hw2
    have h24 := (xRk_ty ht κ.2.1).2
    rw [xE_q h24] at hw
    have ha := O.1.1 k _ hw
    obtain ⟨r', hr', cellV, g1, g2, g3, -⟩ := O.1.1 v _ hw2
    have hcls := (X.2.2.2.2.2.1.1 ci _ hc).2
    obtain ⟨kA, comp, k1, k2, k3, -⟩ := (X.2.2.2.2.2.1.2 t0 _ (xRk_ty ht κ.2.1).1).2
    have hcomp : comp = κ.2.2.1.1 ci := Option.some.inj (k3.symm.trans hcls.1)
    subst hcomp
    obtain ⟨kC, hkC, -⟩ := hcls.2
    refine W.aast X.1 X.2.1 ha (fun q h => by cases h) (fun h => by cases h) k1 k2 rfl hkC ⟨fun h => xin_of hi (Or.inl h), by show _ < (arrV _ _ _).slots.size; rw [arrV_size]; exact hi.2⟩ g1 (fun q h => by rw [g3] at h; cases h) (by rw [g2]; exact hkC) (by rw [g2]; exact va_assign hcls) rfl rfl hdg fun H1 e z oq => ?_
    refine kk H1 _ (xO_set O hs rfl (fun _ _ => rfl) (fun _ _ => rfl) (fun j hj => xu_ne hj) ?_ z oq)
    rw [xE_q h24]
    show H1[κ.1 + k]? = some (vp_cell _ _)
    rw [e, vp_cell_q, vp_cell_q, arrV_store]
    congr 2
    funext q
    by_cases hq : q = i.toNatClampNeg
    · simp [updV, xu, hq, va_rf]
    · simp [updV, xu, hq]
  · cases hv
end XR
