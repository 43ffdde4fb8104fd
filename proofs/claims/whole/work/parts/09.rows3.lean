theorem xr_nei {x y : Int32} {k : Int} (hk : y.toInt = k) (h : ¬ x = y) : x.toInt ≠ k := fun e => h (Int32.toInt_inj.mp (e.trans hk.symm))
section XR3
variable {p : Program} {l : Launch} {e : Env} {R : Room} {s : State} {m : MethodId} {args : Array Value} {below : List Frame} {meth : Method} {c : Code} {H : Heap} {locs : List Loc} {cells slots : Nat} {Q : State → Prop}
variable {cc : ByteArray} {nL : Nat} {own : String} {κ : xQ} {M M' : xM} {pc : Nat} {ls : Array Slot} {rest st0 : List Value}
theorem xr_tabIn (X : xX p s m args c cc nL own κ) {dflt lo hi : Int} {offs : Array Int} {len : Nat} {x k : Int32} {off : Int} {tgt : Nat} (hdg : decode cc pc = .ok (.tableswitch dflt lo hi offs, len)) (hx : x = k) (h1 : ¬ k.toInt < lo) (h2 : ¬ hi < k.toInt) (ho : offs[(k.toInt - lo).toNat]? = some off) (ht : (pc : Int) + off = (tgt : Int))
    (kk : W p l e R s m args below meth c H locs cells slots Q (F0 m tgt ls rest)) : W p l e R s m args below meth c H locs cells slots Q (F0 m pc ls (.int x :: rest)) := by
  subst hx
  exact lv_tableIn X.1 X.2.1 hdg h1 h2 ho ht kk
theorem xr_lupIn (X : xX p s m args c cc nL own κ) {dflt : Int} {ps : Array (Int × Int)} {len : Nat} {x k : Int32} {off : Int} {tgt : Nat} (hdg : decode cc pc = .ok (.lookupswitch dflt ps, len)) (hx : x = k) (hp : (ps.toList.zip (ps.toList.drop 1)).all (fun (a, next) => a.1 < next.1) = true) (ho : Op.lookupswitch.offset ps.toList dflt k.toInt = off) (ht : (pc : Int) + off = (tgt : Int))
    (kk : W p l e R s m args below meth c H locs cells slots Q (F0 m tgt ls rest)) : W p l e R s m args below meth c H locs cells slots Q (F0 m pc ls (.int x :: rest)) := by
  subst hx
  exact lv_lookup X.1 X.2.1 hdg hp ho ht kk
theorem xr_lupOut (X : xX p s m args c cc nL own κ) {dflt : Int} {ps : Array (Int × Int)} {len : Nat} {x : Int32} {off : Int} {tgt : Nat} (hdg : decode cc pc = .ok (.lookupswitch dflt ps, len)) (hp : (ps.toList.zip (ps.toList.drop 1)).all (fun (a, next) => a.1 < next.1) = true) (ho : Op.lookupswitch.offset ps.toList dflt x.toInt = off) (ht : (pc : Int) + off = (tgt : Int))
    (kk : W p l e R s m args below meth c H locs cells slots Q (F0 m tgt ls rest)) : W p l e R s m args below meth c H locs cells slots Q (F0 m pc ls (.int x :: rest)) :=
  lv_lookup X.1 X.2.1 hdg hp ho ht kk
end XR3
theorem xC_ofF {l : Launch} {cc : ByteArray} {nL : Nat} {κ : xQ} {M M' : xM} {y : MethodName} {ret : Option FieldType} {d mc ms : Nat} {av : List Value} {r : Option Value} (hy : plainFor y = true) (hn : (lg_sl av).length ≤ nL)
    (body : ∀ (p : Program) (e : Env) (s : State) (m : MethodId) (args : Array Value) (below : List Frame) (meth : Method) (c : Code), xX p s m args c cc nL y.cls κ → meth.sig.returnType = ret → meth.locks = false → meth.name = y.name → ∀ (H : Heap) (locs : List Loc) (ls : Array Slot), xO κ s M H locs → lv_has ls nL (lv_args 0 av) →
      W p l e (xRm d mc ms) s m args below meth c H locs 0 0 (xQf below args s mc ms κ r M') (F0 m 0 ls [])) : xC l y cc nL ret d mc ms κ av M r M' := by
  unfold xC Met
  refine MetFree.of_bodySF (code := cc) (maxLocals := nL) (ret := ret) hy ?_ ?_
  · intro args s m h hn
    obtain ⟨meth, c, h1, h2, h3, h4, h5, h6, -, -⟩ := Cond.code_spec hn (atoms_spec (ws := .code y cc nL ret :: xw) h _ List.mem_cons_self)
    exact ⟨meth, c, h1, h2, h3, h4, h5, h6⟩
  · intro p e s m args below meth c s₁ B hml hv _
    obtain ⟨rfl, hR, hK, hT⟩ := hv
    have hh0 : s₁.heap = s.heap := by rw [B.state]; rfl
    have hts := atoms_spec (ws := .code y cc nL ret :: xw) B.pre
    have k := body p e s m av.toArray below meth c ⟨B.exec, B.bytes, hml, findClass_of_methodNamed B.named, fun w h => hts w (List.mem_cons_of_mem _ h), hK, hT⟩ B.returns B.notSynchronized (name_of_methodNamed B.named B.method).1 s.heap [] _ ⟨hR, va_S.rf⟩ (lv_entry av hn)
    rw [← lg_entry_eq] at k
    obtain ⟨t, a1, o, b1, b2, b3⟩ := k s₁ hh0 (Stand.of_body B)
    exact ⟨t, o, a1, b1, b2, ⟨b3.1, b3.2⟩⟩
/-! ===== String constants ===== -/
def xso (i : Nat) : Option Unit := (xSC[i]?).map fun _ => ()
def xsl (i : Nat) : Option Int32 := (xSC[i]?).map fun q => Int32.ofNat q.2.2.2.length
def xsb (i : Nat) (k : Int32) : Option Int32 := (xSC[i]?).bind fun q => if 0 ≤ k ∧ k.toNatClampNeg < q.2.2.2.length then some (q.2.2.2.getD k.toNatClampNeg 0) else none
def xzc (r : Int32) : Option Int32 := if 0 ≤ r ∧ r ≤ 65535 then some r else none
theorem xzc_nar {r : Int32} (h : 0 ≤ r ∧ r ≤ 65535) : narrow .char (.int r) = .int r := by
  obtain ⟨j, hj, rfl⟩ := nI_of (x := r) (Int32.not_lt.mpr h.1)
  have h2 : (nI j).toInt ≤ (65535 : Int32).toInt := Int32.le_iff_toInt_le.mp h.2
  rw [nI_toInt hj] at h2
  have h3 : (65535 : Int32).toInt = 65535 := by decide
  exact (pk_charN (q := j) (by omega)).1
section XR4
variable {p : Program} {l : Launch} {e : Env} {R : Room} {s : State} {m : MethodId} {args : Array Value} {below : List Frame} {meth : Method} {c : Code} {H : Heap} {locs : List Loc} {cells slots : Nat} {Q : State → Prop}
variable {cc : ByteArray} {nL : Nat} {own : String} {κ : xQ} {M M' : xM} {pc : Nat} {ls : Array Slot} {rest st0 : List Value}
theorem xr_cret (X : xX p s m args c cc nL own κ) (hr : meth.sig.returnType = some .char) (hlk : meth.locks = false) (O : xO κ s M H locs) {r v : Int32} (hz : xzc r = some v) (hdg : decode cc pc = .ok (.ireturn, 1)) : W p l e R s m args below meth c H locs cells slots (xQf below args s cells slots κ (some (.int v)) M) (F0 m pc ls [.int r]) := by
  unfold xzc at hz
  split at hz
  · next h =>
    cases hz
    exact W.zret X.1 X.2.1 hr (xzc_nar h) (fun t ht hW => ⟨rfl, by rw [ht]; exact O.1, O.2.F ht⟩) O.2.2.2 hdg hlk
  · cases hz
theorem xr_bret (X : xX p s m args c cc nL own κ) (hr : meth.sig.returnType = some .byte) (hlk : meth.locks = false) (O : xO κ s M H locs) {r v : Int32} (hz : xz r = some v) (hdg : decode cc pc = .ok (.ireturn, 1)) : W p l e R s m args below meth c H locs cells slots (xQf below args s cells slots κ (some (.int v)) M) (F0 m pc ls [.int r]) := by
  unfold xz at hz
  split at hz
  · next h =>
    cases hz
    exact W.zret X.1 X.2.1 hr (by rcases h with rfl | rfl <;> rfl) (fun t ht hW => ⟨rfl, by rw [ht]; exact O.1, O.2.F ht⟩) O.2.2.2 hdg hlk
  · cases hz
theorem xso_of {i : Nat} {u : Unit} (h : xso i = some u) : ∃ q, xSC[i]? = some q := by
  obtain ⟨q, hq, -⟩ := Option.map_eq_some_iff.mp h
  exact ⟨q, hq⟩
theorem xr_sval (X : xX p s m args c cc nL own κ) (O : xO κ s M H locs) {i idx : Nat} {u : Unit} (hi : xso i = some u) (hl : Cond.fieldLink own idx "java/lang/String" "value" "[B" ∈ xw) (hdg : decode cc pc = .ok (.getfield idx, 3))
    (kk : W p l e R s m args below meth c H locs cells slots Q (F0 m (pc + 3) ls (.ref (κ.2.2.2.2 i) :: rest))) : W p l e R s m args below meth c H locs cells slots Q (F0 m pc ls (.ref (κ.2.2.2.1 i) :: rest)) := by
  obtain ⟨q, hq⟩ := xso_of hi
  exact vk_getf X.1 X.2.1 (X.2.2.2.2.2.2.1 i q hq).2.2.2.1 O.2 X.2.2.2.1 (X.2.2.2.2.1 _ hl) (fun _ h => h) hdg kk
theorem xr_scod (X : xX p s m args c cc nL own κ) (O : xO κ s M H locs) {i idx : Nat} {u : Unit} (hi : xso i = some u) (hl : Cond.fieldLink own idx "java/lang/String" "coder" "B" ∈ xw) (hdg : decode cc pc = .ok (.getfield idx, 3))
    (kk : W p l e R s m args below meth c H locs cells slots Q (F0 m (pc + 3) ls (.int 0 :: rest))) : W p l e R s m args below meth c H locs cells slots Q (F0 m pc ls (.ref (κ.2.2.2.1 i) :: rest)) := by
  obtain ⟨q, hq⟩ := xso_of hi
  exact vk_getf X.1 X.2.1 (X.2.2.2.2.2.2.1 i q hq).2.2.1 O.2 X.2.2.2.1 (X.2.2.2.2.1 _ hl) (fun _ h => h) hdg kk
theorem xr_slen (X : xX p s m args c cc nL own κ) (O : xO κ s M H locs) {i : Nat} {v : Int32} (hv : xsl i = some v) (hdg : decode cc pc = .ok (.arraylength, 1))
    (kk : W p l e R s m args below meth c H locs cells slots Q (F0 m (pc + 1) ls (.int v :: rest))) : W p l e R s m args below meth c H locs cells slots Q (F0 m pc ls (.ref (κ.2.2.2.2 i) :: rest)) := by
  obtain ⟨q, hq, rfl⟩ := Option.map_eq_some_iff.mp hv
  obtain ⟨cell, h1, h2, h3, h4, h5, h6, h7⟩ := (X.2.2.2.2.2.2.1 i q hq).2.2.2.2.kept O.2.2.1
  exact W.alen X.1 X.2.1 h1 h2 h5 rfl rfl hdg kk
theorem xr_sbal (X : xX p s m args c cc nL own κ) (O : xO κ s M H locs) {i : Nat} {k v : Int32} (hv : xsb i k = some v) (hdg : decode cc pc = .ok (.baload, 1))
    (kk : W p l e R s m args below meth c H locs cells slots Q (F0 m (pc + 1) ls (.int v :: rest))) : W p l e R s m args below meth c H locs cells slots Q (F0 m pc ls (.int k :: .ref (κ.2.2.2.2 i) :: rest)) := by
  obtain ⟨q, hq, hv⟩ := Option.bind_eq_some_iff.mp hv
  split at hv
  · next hk =>
    cases hv
    obtain ⟨cell, h1, h2, h3, h4, h5, h6, h7⟩ := (X.2.2.2.2.2.2.1 i q hq).2.2.2.2.kept O.2.2.1
    have h8 := xin_of hk
    refine W.bald X.1 X.2.1 h1 h2 h3 (fun z => h8 (z.elim Or.inl (fun z => Or.inr (Nat.le_trans h4 z)))) (h6 _ hk.2) rfl rfl hdg kk
  · cases hv
theorem xr_compact (X : xX p s m args c cc nL own κ) (O : xO κ s M H locs) {idx : Nat} (hl : Cond.fieldLink own idx "java/lang/String" "COMPACT_STRINGS" "Z" ∈ xw) (hdg : decode cc pc = .ok (.getstatic idx, 3))
    (kk : W p l e R s m args below meth c H locs cells slots Q (F0 m (pc + 3) ls (.int 1 :: rest))) : W p l e R s m args below meth c H locs cells slots Q (F0 m pc ls rest) :=
  va_gets X.1 X.2.1 X.2.2.2.2.2.2.2.1 O.2 X.2.2.2.1 (X.2.2.2.2.1 _ hl) (fun _ h => h) hdg kk
theorem xr_sioobe (X : xX p s m args c cc nL own κ) (O : xO κ s M H locs) {idx : Nat} (hl : Cond.fieldLink own idx "jdk/internal/util/Preconditions" "SIOOBE_FORMATTER" "Ljava/util/function/BiFunction;" ∈ xw) (hdg : decode cc pc = .ok (.getstatic idx, 3))
    (kk : ∀ t : Option Nat, W p l e R s m args below meth c H locs cells slots Q (F0 m (pc + 3) ls (va_rf t :: rest))) : W p l e R s m args below meth c H locs cells slots Q (F0 m pc ls rest) := by
  rcases X.2.2.2.2.2.2.2.2.1 with h | ⟨t, h⟩
  · exact va_gets X.1 X.2.1 h O.2 X.2.2.2.1 (X.2.2.2.2.1 _ hl) (fun _ h => h) hdg (kk none)
  · exact va_gets X.1 X.2.1 h O.2 X.2.2.2.1 (X.2.2.2.2.1 _ hl) (fun _ h => h) hdg (kk (some t))
theorem xr_callT (X : xX p s m args c cc nL own κ) (O : xO κ s M H locs) {y : MethodName} {ccy : ByteArray} {nLy : Nat} {rety : Option FieldType} {n idx i d d' mc ms mc0 ms0 : Nat} {As : List Value} {r : Option Value} {u : Unit} (hM : xC l y ccy nLy rety d' mc ms κ (.ref (κ.2.2.2.1 i) :: As) M r M') (lk : xLT own idx y ccy nLy rety n) (hrec : xso i = some u) (hd : d' + 1 ≤ d)
    (hlen : As.length = n) (hl : ls.size = nL) (hst : st0 = As.reverse ++ .ref (κ.2.2.2.1 i) :: rest) (hrm : (rest.map fun v => v.category).sum ≤ 8) (hdg : decode cc pc = .ok (.invokevirtual idx, 3)) (hc0 : cells + mc ≤ mc0 ∧ slots + ms ≤ ms0)
    (kk : ∀ (H : Heap) (locs : List Loc), xO κ s M' H locs → W p l e (xRm d mc0 ms0) s m args below meth c H locs (cells + mc) (slots + ms) Q (F0 m (pc + 3) ls (r.toList ++ rest))) : W p l e (xRm d mc0 ms0) s m args below meth c H locs cells slots Q (F0 m pc ls st0) := by
  obtain ⟨mt, ml, hin, hse, hcl⟩ := lk
  obtain ⟨q, hq⟩ := xso_of hrec
  obtain ⟨cell, h1, h2, h3, -⟩ := (X.2.2.2.2.2.2.1 i q hq).2.1.kept O.2.2.1
  have hrv : ∃ cellB : Cell, H[κ.2.2.2.1 i]? = some cellB ∧ cellB.vm.isStatics = false ∧ s.vm.findClass y.cls = some cellB.cls := ⟨cell, h1, h2, by rw [hcl]; exact h3⟩
  exact xr_run O (va_runV (C := y.cls) (As := As) (rest := rest) ⟨X.1, X.2.1, X.2.2.1, X.2.2.2.1, X.2.2.2.2.1⟩ hM ⟨xcallB X mt ml hd, X.2.2.2.2.1 _ hin, X.2.2.2.2.1 _ hse⟩ ⟨xblind, hrv, xpre X O _⟩ rfl hlen hl hst (lv_room hrm) hdg hc0) kk
end XR4
