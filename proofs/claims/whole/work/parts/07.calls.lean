def xRm (d mc ms : Nat) : Room := { frames := d, cells := mc, slots := ms, locals := 64 * d }
def xU (κ : xQ) (M : xM) (U : State) : Prop := xR κ M U.heap ∧ xK κ U ∧ xStr κ U
/-- a method's contract, at one start: in memory M with these arguments it answers r and leaves M' -/
def xC (l : Launch) (y : MethodName) (cc : ByteArray) (nL : Nat) (ret : Option FieldType) (d mc ms : Nat) (κ : xQ) (av : List Value) (M : xM) (r : Option Value) (M' : xM) : Prop :=
  Met l y (.code y cc nL ret :: xw) (xRm d mc ms) (va_Pc av (xU κ M)) (fun _ st oc t => oc = .returned r ∧ xR κ M' t.heap ∧ va_F (xA κ) st t) mc ms (xA κ)
def xQf (below : List Frame) (args : Array Value) (s : State) (mc ms : Nat) (κ : xQ) (r : Option Value) (M' : xM) : State → Prop :=
  MQ below (fun _ st oc t => oc = .returned r ∧ xR κ M' t.heap ∧ va_F (xA κ) st t) args s mc ms (xA κ)
def xMT (y : MethodName) (cc : ByteArray) (nL : Nat) (ret : Option FieldType) (n : Nat) : Prop :=
  Cond.code y cc nL ret ∈ xw ∧ Cond.initialized y.cls ∈ xw ∧ (y.cls ≠ "java/lang/invoke/MethodHandle" ∧ y.cls ≠ "java/lang/invoke/VarHandle" ∧ (parseMethodDescriptor y.desc).map (fun d => d.parameters.length) = some n) ∧ nL ≤ 45
/-- a virtual call's words: caller's class, pool entry, callee, its class' number -/
def xLV (own : String) (idx : Nat) (y : MethodName) (cc : ByteArray) (nL : Nat) (ret : Option FieldType) (n ci : Nat) : Prop :=
  xMT y cc nL ret n ∧ Cond.methodLink own idx y ∈ xw ∧ Cond.instanceMethod y ∈ xw ∧ Cond.selects y.cls y y ∈ xw ∧ vwCl[ci]?.map Prod.fst = some y.cls ∧ ci < 20
def xLS (own : String) (idx : Nat) (y : MethodName) (cc : ByteArray) (nL : Nat) (ret : Option FieldType) (n : Nat) : Prop :=
  xMT y cc nL ret n ∧ Cond.methodLink own idx y ∈ xw ∧ Cond.static y ∈ xw
def xLI (own : String) (idx : Nat) (y : MethodName) (cc : ByteArray) (nL : Nat) (n : Nat) : Prop :=
  xMT y cc nL none n ∧ Cond.methodLink own idx y ∈ xw ∧ Cond.instanceMethod y ∈ xw ∧ y.name = "<init>"
def xck (M : xM) (k ci : Nat) : Option Unit := if (M.1[k]?).map Prod.fst = some ci then some () else none
def xz (r : Int32) : Option Int32 := if r = 0 ∨ r = 1 then some r else none
theorem xT1_to {A : Nat → Prop} {a v : Nat} {bs : List Int32} {u U : State} {H H1 : Heap} (h : xT1 A a v bs u H) (hvm : u.vm.Alike U.vm) (hq : ∀ a : Nat, a < H.size → ¬ A a → H1[a]? = H[a]?) : xT1 A a v bs U H1 :=
  ⟨(h.1.moved hvm).kept hq, (h.2.1.moved hvm).kept hq, (h.2.2.1.moved hvm).kept hq, (h.2.2.2.moved hvm).kept hq⟩
theorem xblind {av : List Value} {κ : xQ} {M : xM} : FrameBlind (va_Pc av (xU κ M)) := by
  intro a U g mk q
  obtain ⟨q0, q1, q2, q3⟩ := q
  exact ⟨q0, q1, va_K.moved (u := U) (U := U.calling g mk a) (Vm.Alike.refl U.vm) q2, ⟨fun i z hz => ⟨vk_R.same (u := U) (U := U.calling g mk a) rfl (q3.1 i z hz).1, xT1_to (u := U) (U := U.calling g mk a) (q3.1 i z hz).2 (Vm.Alike.refl U.vm) (fun _ _ _ => rfl)⟩, va_Z.moved (u := U) (U := U.calling g mk a) (Vm.Alike.refl U.vm) q3.2.1, va_Zq.moved (u := U) (U := U.calling g mk a) (Vm.Alike.refl U.vm) q3.2.2.1, va_AO.moved (u := U) (U := U.calling g mk a) (Vm.Alike.refl U.vm) q3.2.2.2.1, va_AO.moved (u := U) (U := U.calling g mk a) (Vm.Alike.refl U.vm) q3.2.2.2.2.1, va_AO.moved (u := U) (U := U.calling g mk a) (Vm.Alike.refl U.vm) q3.2.2.2.2.2⟩⟩
section XC
variable {p : Program} {l : Launch} {e : Env} {R : Room} {s : State} {m : MethodId} {args : Array Value} {below : List Frame} {meth : Method} {c : Code} {H : Heap} {locs : List Loc} {cells slots : Nat} {Q : State → Prop}
variable {cc : ByteArray} {nL : Nat} {own : String} {κ : xQ} {M M' : xM} {pc : Nat} {ls : Array Slot} {rest st0 : List Value}
theorem xpre (X : xX p s m args c cc nL own κ) (O : xO κ s M H locs) (av : List Value) : ∀ U : State, U.heap = H → s.WarmedH U.vm → va_Pc av (xU κ M) av.toArray U := by
  intro U hU hW
  refine ⟨rfl, by rw [hU]; exact O.1, va_K.moved hW.alike X.2.2.2.2.2.1, ⟨fun i z hz => ⟨vk_R.warm hW (X.2.2.2.2.2.2.1 i z hz).1, xT1_to (X.2.2.2.2.2.2.1 i z hz).2 hW.alike (fun a h1 h2 => by rw [hU]; exact O.2.2.1 a h1 h2)⟩, (X.2.2.2.2.2.2.2.1.moved hW.alike).kept (fun a h1 h2 => by rw [hU]; exact O.2.2.1 a h1 h2), (X.2.2.2.2.2.2.2.2.1.moved hW.alike).kept (fun a h1 h2 => by rw [hU]; exact O.2.2.1 a h1 h2), X.2.2.2.2.2.2.2.2.2.1.moved hW.alike, X.2.2.2.2.2.2.2.2.2.2.1.moved hW.alike, X.2.2.2.2.2.2.2.2.2.2.2.moved hW.alike⟩⟩
theorem xC_of {y : MethodName} {ret : Option FieldType} {d mc ms : Nat} {av : List Value} {r : Option Value} (hy : plainName y.cls = true) (hn : (lg_sl av).length ≤ nL)
    (body : ∀ (p : Program) (e : Env) (s : State) (m : MethodId) (args : Array Value) (below : List Frame) (meth : Method) (c : Code), xX p s m args c cc nL y.cls κ → meth.sig.returnType = ret → meth.locks = false → meth.name = y.name → ∀ (H : Heap) (locs : List Loc) (ls : Array Slot), xO κ s M H locs → lv_has ls nL (lv_args 0 av) →
      W p l e (xRm d mc ms) s m args below meth c H locs 0 0 (xQf below args s mc ms κ r M') (F0 m 0 ls [])) : xC l y cc nL ret d mc ms κ av M r M' := by
  refine Met.ofW (cc := cc) (maxL := nL) (ret := ret) hy rfl ?_
  intro p e s m args below meth c s₁ B hml hv
  obtain ⟨rfl, hR, hK, hT⟩ := hv
  have hts := atoms_spec (ws := .code y cc nL ret :: xw) B.pre
  rw [lg_entry_eq]
  exact body p e s m av.toArray below meth c ⟨B.exec, B.bytes, hml, findClass_of_methodNamed B.named, fun w h => hts w (List.mem_cons_of_mem _ h), hK, hT⟩ B.returns B.notSynchronized (name_of_methodNamed B.named B.method).1 s.heap [] _ ⟨hR, va_S.rf⟩ (lv_entry av hn)
theorem xr_iret (X : xX p s m args c cc nL own κ) (hr : meth.sig.returnType = some .int) (hlk : meth.locks = false) (O : xO κ s M H locs) {r : Int32} (hdg : decode cc pc = .ok (.ireturn, 1)) : W p l e R s m args below meth c H locs cells slots (xQf below args s cells slots κ (some (.int r)) M) (F0 m pc ls [.int r]) :=
  W.iret X.1 X.2.1 hr (fun t ht hW => ⟨rfl, by rw [ht]; exact O.1, O.2.F ht⟩) O.2.2.2 hdg hlk
theorem xr_zret (X : xX p s m args c cc nL own κ) (hr : meth.sig.returnType = some .boolean) (hlk : meth.locks = false) (O : xO κ s M H locs) {r v : Int32} (hz : xz r = some v) (hdg : decode cc pc = .ok (.ireturn, 1)) : W p l e R s m args below meth c H locs cells slots (xQf below args s cells slots κ (some (.int v)) M) (F0 m pc ls [.int r]) := by
  unfold xz at hz
  split at hz
  · next h =>
    cases hz
    exact W.zret X.1 X.2.1 hr (by rcases h with rfl | rfl <;> rfl) (fun t ht hW => ⟨rfl, by rw [ht]; exact O.1, O.2.F ht⟩) O.2.2.2 hdg hlk
  · cases hz
theorem xr_lret (X : xX p s m args c cc nL own κ) (hr : meth.sig.returnType = some .long) (hlk : meth.locks = false) (O : xO κ s M H locs) {r : Int64} (hdg : decode cc pc = .ok (.lreturn, 1)) : W p l e R s m args below meth c H locs cells slots (xQf below args s cells slots κ (some (.long r)) M) (F0 m pc ls [.long r]) :=
  W.lret X.1 X.2.1 hr (fun t ht hW => ⟨rfl, by rw [ht]; exact O.1, O.2.F ht⟩) O.2.2.2 hdg hlk
theorem xr_vret (X : xX p s m args c cc nL own κ) (hr : meth.sig.returnType = none) (hlk : meth.locks = false) (O : xO κ s M H locs) (hdg : decode cc pc = .ok (.return_, 1)) : W p l e R s m args below meth c H locs cells slots (xQf below args s cells slots κ none M) (F0 m pc ls []) :=
  W.vret X.1 X.2.1 hr (fun t ht hW => ⟨rfl, by rw [ht]; exact O.1, O.2.F ht⟩) O.2.2.2 hdg hlk
theorem xr_aret (X : xX p s m args c cc nL own κ) {rt : FieldType} (hr : meth.sig.returnType = some rt) (hrt : (∃ n, rt = .object n) ∨ ∃ t, rt = .array t) (hlk : meth.locks = false) (O : xO κ s M H locs) {v : Nat} (hdg : decode cc pc = .ok (.areturn, 1)) : W p l e R s m args below meth c H locs cells slots (xQf below args s cells slots κ (some (.ref v)) M) (F0 m pc ls [.ref v]) :=
  W.aret X.1 X.2.1 hr hrt (Or.inr ⟨_, rfl⟩) (fun t ht hW => ⟨rfl, by rw [ht]; exact O.1, O.2.F ht⟩) O.2.2.2 hdg hlk
theorem xr_run (O : xO κ s M H locs) {r : Option Value} {mc ms : Nat} (hr : va_Run p l e R s m args below meth c H locs cells slots mc ms (F0 m pc ls st0) rest (fun st oc t => oc = .returned r ∧ xR κ M' t.heap ∧ va_F (xA κ) st t) (xA κ))
    (kk : ∀ (H : Heap) (locs : List Loc), xO κ s M' H locs → W p l e R s m args below meth c H locs (cells + mc) (slots + ms) Q (F0 m (pc + 3) ls (r.toList ++ rest))) : W p l e R s m args below meth c H locs cells slots Q (F0 m pc ls st0) := by
  intro T hT X
  obtain ⟨v, st₀, t, T', L, h0, X', hL, e1, e2, ⟨hv, hR1, hz, hk⟩, st⟩ := hr T hT X
  cases hv
  rw [h0] at hz hk
  obtain ⟨t2, a1, b1⟩ := kk T'.heap (locs ++ L) ⟨by rw [e1]; exact hR1, ⟨Nat.le_trans O.2.1 (by rw [e1]; exact hz), fun q h1 h2 => by rw [e1, hk q (Nat.lt_of_lt_of_le h1 O.2.1) h2]; exact O.2.2.1 q h1 h2, fun q hq => by
    rcases List.mem_append.mp hq with h | h
    · exact O.2.2.2 q h
    · exact hL q h⟩⟩ T' rfl X'
  exact ⟨t2, st t2 a1, b1⟩
theorem xcallB (X : xX p s m args c cc nL own κ) {y : MethodName} {ccy : ByteArray} {nLy : Nat} {rety : Option FieldType} {n idx d d' mc ms mc0 ms0 : Nat} (mt : xMT y ccy nLy rety n) (ml : Cond.methodLink own idx y ∈ xw) (hd : d' + 1 ≤ d) : CallB (xRm d mc0 ms0) s args own idx y ccy nLy rety (.code y ccy nLy rety :: xw) (xRm d' mc ms) mc ms n :=
  callB_of n X.2.2.2.2.1 (xw_goodIn mt.1) rfl rfl rfl (X.2.2.2.2.1 _ mt.2.1) (X.2.2.2.2.1 _ ml) mt.2.2.1 ⟨hd, by have h := mt.2.2.2; show 8 + (nLy + 11) + 64 * d' ≤ 64 * d; omega⟩
theorem xr_callV (X : xX p s m args c cc nL own κ) (O : xO κ s M H locs) {y : MethodName} {ccy : ByteArray} {nLy : Nat} {rety : Option FieldType} {n idx ci k d d' mc ms mc0 ms0 : Nat} {As : List Value} {r : Option Value} (hM : xC l y ccy nLy rety d' mc ms κ (.ref (κ.1 + k) :: As) M r M') (lk : xLV own idx y ccy nLy rety n ci) (hrec : xck M k ci = some ()) (hd : d' + 1 ≤ d)
    (hlen : As.length = n) (hl : ls.size = nL) (hst : st0 = As.reverse ++ .ref (κ.1 + k) :: rest) (hrm : (rest.map fun v => v.category).sum ≤ 8) (hdg : decode cc pc = .ok (.invokevirtual idx, 3)) (hc0 : cells + mc ≤ mc0 ∧ slots + ms ≤ ms0)
    (kk : ∀ (H : Heap) (locs : List Loc), xO κ s M' H locs → W p l e (xRm d mc0 ms0) s m args below meth c H locs (cells + mc) (slots + ms) Q (F0 m (pc + 3) ls (r.toList ++ rest))) : W p l e (xRm d mc0 ms0) s m args below meth c H locs cells slots Q (F0 m pc ls st0) := by
  obtain ⟨mt, ml, hin, hse, hcl, h20⟩ := lk
  unfold xck at hrec
  split at hrec
  · next hs =>
    obtain ⟨nn, hs⟩ := xk_of hs
    have hw := xWs_at (z := κ.1) (cA := κ.2.1) hs
    rw [xE_obj h20] at hw
    cases hq : vwCl[ci]? with
    | none => rw [hq] at hcl; cases hcl
    | some q =>
      rw [hq] at hcl
      have hqy : q.1 = y.cls := Option.some.inj hcl
      have hrv := va_recv X.2.2.2.2.2.1 O.1.1 hq hw
      rw [hqy] at hrv
      exact xr_run O (va_runV (C := y.cls) (As := As) (rest := rest) ⟨X.1, X.2.1, X.2.2.1, X.2.2.2.1, X.2.2.2.2.1⟩ hM ⟨xcallB X mt ml hd, X.2.2.2.2.1 _ hin, X.2.2.2.2.1 _ hse⟩ ⟨xblind, hrv, xpre X O _⟩ rfl hlen hl hst (lv_room hrm) hdg hc0) kk
  · cases hrec
theorem xr_callS (X : xX p s m args c cc nL own κ) (O : xO κ s M H locs) {y : MethodName} {ccy : ByteArray} {nLy : Nat} {rety : Option FieldType} {n idx d d' mc ms mc0 ms0 : Nat} {As : List Value} {r : Option Value} (hM : xC l y ccy nLy rety d' mc ms κ As M r M') (lk : xLS own idx y ccy nLy rety n) (hd : d' + 1 ≤ d)
    (hlen : As.length = n) (hl : ls.size = nL) (hst : st0 = As.reverse ++ rest) (hrm : (rest.map fun v => v.category).sum ≤ 8) (hdg : decode cc pc = .ok (.invokestatic idx, 3)) (hc0 : cells + mc ≤ mc0 ∧ slots + ms ≤ ms0)
    (kk : ∀ (H : Heap) (locs : List Loc), xO κ s M' H locs → W p l e (xRm d mc0 ms0) s m args below meth c H locs (cells + mc) (slots + ms) Q (F0 m (pc + 3) ls (r.toList ++ rest))) : W p l e (xRm d mc0 ms0) s m args below meth c H locs cells slots Q (F0 m pc ls st0) := by
  obtain ⟨mt, ml, hin⟩ := lk
  exact xr_run O (va_runS (As := As) (rest := rest) ⟨X.1, X.2.1, X.2.2.1, X.2.2.2.1, X.2.2.2.2.1⟩ hM ⟨xcallB X mt ml hd, X.2.2.2.2.1 _ hin⟩ ⟨xblind, xpre X O _⟩ rfl hlen hl hst (lv_room hrm) hdg hc0) kk
theorem xr_callI (X : xX p s m args c cc nL own κ) (O : xO κ s M H locs) {y : MethodName} {ccy : ByteArray} {nLy : Nat} {n idx b d d' mc ms mc0 ms0 : Nat} {As : List Value} {r : Option Value} (hM : xC l y ccy nLy none d' mc ms κ (.ref b :: As) M r M') (lk : xLI own idx y ccy nLy n) (hd : d' + 1 ≤ d)
    (hlen : As.length = n) (hl : ls.size = nL) (hst : st0 = As.reverse ++ .ref b :: rest) (hrm : (rest.map fun v => v.category).sum ≤ 8) (hdg : decode cc pc = .ok (.invokespecial idx, 3)) (hc0 : cells + mc ≤ mc0 ∧ slots + ms ≤ ms0)
    (kk : ∀ (H : Heap) (locs : List Loc), xO κ s M' H locs → W p l e (xRm d mc0 ms0) s m args below meth c H locs (cells + mc) (slots + ms) Q (F0 m (pc + 3) ls (r.toList ++ rest))) : W p l e (xRm d mc0 ms0) s m args below meth c H locs cells slots Q (F0 m pc ls st0) := by
  obtain ⟨mt, ml, hin, hnm⟩ := lk
  exact xr_run O (va_runI (b := b) (As := As) (rest := rest) ⟨X.1, X.2.1, X.2.2.1, X.2.2.2.1, X.2.2.2.2.1⟩ hM ⟨xcallB X mt ml hd, hnm, X.2.2.2.2.1 _ hin⟩ ⟨xblind, xpre X O _⟩ rfl hlen hl hst (lv_room hrm) hdg hc0) kk
def xLA (own : String) (idx : Nat) : Prop := Cond.methodLink own idx arraycopyName ∈ xw ∧ Cond.native arraycopyName ∈ xw ∧ Cond.static arraycopyName ∈ xw ∧ Cond.initialized "java/lang/System" ∈ xw
theorem xr_acp (X : xX p s m args c cc nL own κ) (O : xO κ s M H locs) {a b idx d mc0 ms0 : Nat} {i j n : Int32} (hv : xcp M a i b j n = some M') (lk : xLA own idx) (hl : ls.size = nL) (hd : 2 ≤ d) (hrm : (rest.map fun v => v.category).sum ≤ 8) (hdg : decode cc pc = .ok (.invokestatic idx, 3))
    (kk : ∀ (H : Heap) (locs : List Loc), xO κ s M' H locs → W p l e (xRm d mc0 ms0) s m args below meth c H locs 0 slots Q (F0 m (pc + 3) ls rest)) : W p l e (xRm d mc0 ms0) s m args below meth c H locs 0 slots Q (F0 m pc ls (.int n :: .int j :: .ref (κ.1 + b) :: .int i :: .ref (κ.1 + a) :: rest)) := by
  obtain ⟨l1, l2, l3, l4⟩ := lk
  obtain ⟨la, hla, hv⟩ := Option.bind_eq_some_iff.mp hv
  obtain ⟨lb, hlb, hv⟩ := Option.bind_eq_some_iff.mp hv
  have hts := X.2.2.2.2.1
  split at hv
  · next hc =>
    cases hv
    obtain ⟨⟨hi, hj, hn⟩, h4, h5⟩ := hc
    have hsb := xln_of hlb
    have hwa := xWs_at (z := κ.1) (cA := κ.2.1) (xln_of hla)
    have hwb := xWs_at (z := κ.1) (cA := κ.2.1) hsb
    rw [xE_i (by decide) (by decide)] at hwa hwb
    refine xr_size fun g1 g2 => ?_
    refine va_copyi (H0 := s.heap) X.1 X.2.1 (by rw [X.2.2.1, hl]) X.2.2.2.1 (hts _ l1) (hts _ l2) (hts _ l3) (hts _ l4) X.2.2.2.2.2.1 O.1.1 xWs_D O.2 a b 0 0 hwa hwb rfl rfl rfl (Int32.not_lt.mpr hi) (Int32.not_lt.mpr hj) (Int32.not_lt.mpr hn) h4 h5 (fun _ _ => rfl) (by show 1 ≤ d; omega) (by show _ ≤ 64 * d; have h9 : nativeFrameWords "java/lang/System" "arraycopy" 5 + 11 ≤ 100 := (by decide +kernel); omega) hdg fun H1 locs1 hP1 hD1 hS1 => ?_
    refine xr_size fun g3 g4 => ?_
    refine kk H1 locs1 ⟨⟨?_, ?_⟩, hS1⟩
    · have hset := xWs_set (z := κ.1) (cA := κ.2.1) (M := M) (M' := (M.1, xur M.2.1 b (va_cpy (M.2.1 a) (M.2.1 b) i.toNatClampNeg j.toNatClampNeg n.toNatClampNeg), M.2.2.1, M.2.2.2)) hsb rfl (fun j hj => xur_ne hj) (fun _ _ => rfl) (fun _ _ => rfl)
      rw [xE_i (by decide) (by decide)] at hset
      rw [← hset]
      simp only [xur_eq]
      exact hP1
    · have := O.1.2
      show H1.size = κ.1 + M.1.length
      omega
  · cases hv
theorem xr_objI (X : xX p s m args c cc nL own κ) {idx a : Nat} (l1 : Cond.methodLink own idx objectInit ∈ xw) (l2 : Cond.instanceMethod objectInit ∈ xw) (l3 : Cond.code objectInit ⟨#[0xb1]⟩ 1 none ∈ xw) {d mc0 ms0 : Nat} (hl : ls.size = nL) (hd : 2 ≤ d) (hdg : decode cc pc = .ok (.invokespecial idx, 3))
    (kk : W p l e (xRm d mc0 ms0) s m args below meth c H locs cells slots Q (F0 m (pc + 3) ls [])) : W p l e (xRm d mc0 ms0) s m args below meth c H locs cells slots Q (F0 m pc ls [.ref a]) := by
  have hts := X.2.2.2.2.1
  refine W.objInit X.1 X.2.1 X.2.2.2.1 (hts _ l1) (hts _ l2) (hts _ l3) rfl (by rw [X.2.2.1]; exact hl) rfl hdg ?_ ?_ kk
  · show 1 ≤ d
    omega
  · show _ ≤ 64 * d
    have h9 : (F0 m pc ls [.ref a]).monitorRoom = 0 := rfl
    simp only [h9, List.map_nil, List.sum_nil]
    omega
end XC
