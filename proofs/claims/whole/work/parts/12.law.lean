/-! THE CLAIM OUT OF ONE WALK OF THE LAW'S BODY. Your part is whole_start (and what it stands on); all else here is the same for every law, but numbers. -/
def R_law : String := "SandHoldLaw"
def lw_P (b : Addr) (xs : List Int32) (args : Array Value) (s : State) : Prop := args = #[.ref b] ∧ s.IntsAt b xs ∧ xs.length ≤ 3072 ∧ (Jvm.Cond.and given_1 narrow_1).before args s = true
def lw_Q (_ : Array Value) (s : State) (o : Outcome) (t : State) : Prop := o = .returned (some (.int 1)) ∧ Framed s o t [] 600000 7302250
def lw_Z (below : List Frame) (a : Array Value) (s : State) : State → Prop := fun t => ∃ o, t.status = .running ∧ Ended t below o ∧ lw_Q a s o t
/-- the law's own end, with 1 on the stack, nothing written that was there before, its room as the claim has it -/
theorem lw_ret {p : Program} {l : Launch} {e : Env} {s : State} {m : MethodId} {below : List Frame} {meth : Method} {c : Code} {b : Nat} (hx : p.tables.exec = Jvm.exec) (hb : c.code = code) (hr : meth.sig.returnType = ret) (hlocks : meth.locks = false) {pc : Nat} {H : Heap} {ls : Array Slot} (hdg : decode code pc = .ok (.ireturn, 1)) : W p l e room_1 s m #[Value.ref b] below meth c H [] 600000 7302250 (lw_Z below #[Value.ref b] s) (F0 m pc ls [.int 1]) := by
  intro T hT X
  obtain ⟨fs, hret, hrun, hended, hW, hframe⟩ := X.leave (v := some (.int 1)) (hlocks := hlocks) (fun h => by rw [hr] at h; cases h)
  have hmeth' : T.vm.method? m = some meth := X.method'
  refine ⟨T.setFrames fs, ?_, .returned (some (.int 1)), hrun, hended, rfl, ⟨_, rfl⟩, hW, hframe⟩
  jvm_step X.here [X.here.top, hx, hb, hdg, hmeth', hr, ret, narrow_b1]
  (try refine ⟨rfl, ?_⟩); (try refine ⟨rfl, ?_⟩)
  first | (intro acts; rw [hret _ acts rfl rfl rfl]) | rw [hret _ _ rfl rfl rfl]
  exact Steps.refl _
/-- what holds at the law's entry: the machine, the code, the tables' words (any of lw_tbl by 'hts w (by decide +kernel)'), the script of L ints xs at the cell b, what the Statement gives of the start (any of its parts by flat_of_before) -/
def lw_At (p : Program) (s : State) (m : MethodId) (meth : Method) (c : Code) (b L : Nat) (xs : Nat → Int32) : Prop :=
  p.tables.exec = Jvm.exec ∧ c.code = code ∧ meth.sig.returnType = ret ∧ c.maxLocals = 4 ∧ s.vm.findClass R_law = some m.cls ∧ (∀ w ∈ lw_tbl, w.before #[Value.ref b] s = true) ∧ va_X b L xs s s.heap ∧ b < s.heap.size ∧ meth.locks = false ∧ (Jvm.Cond.and given_1 narrow_1).before #[Value.ref b] s = true
/-! ===== the law ===== -/
section LR
variable {p : Program} {l : Launch} {e : Env} {R : Room} {s : State} {m : MethodId} {args : Array Value} {below : List Frame} {meth : Method} {c : Code} {H : Heap} {locs : List Loc} {cells slots : Nat} {Q : State → Prop}
variable {cc : ByteArray} {nL : Nat} {own : String} {κ : xQ} {M M' : xM} {pc : Nat} {ls : Array Slot} {rest st0 : List Value}
theorem xcallBR (X : xX p s m args c cc nL own κ) {y : MethodName} {ccy : ByteArray} {nLy : Nat} {rety : Option FieldType} {n idx d' mc ms : Nat} (mt : xMT y ccy nLy rety n) (ml : Cond.methodLink own idx y ∈ xw) (hd : d' + 1 ≤ R.frames ∧ 8 + (nLy + 11) + 64 * d' ≤ R.locals) : CallB R s args own idx y ccy nLy rety (.code y ccy nLy rety :: xw) (xRm d' mc ms) mc ms n :=
  callB_of n X.2.2.2.2.1 (xw_goodIn mt.1) rfl rfl rfl (X.2.2.2.2.1 _ mt.2.1) (X.2.2.2.2.1 _ ml) mt.2.2.1 hd
theorem xr_callVR (X : xX p s m args c cc nL own κ) (O : xO κ s M H locs) {y : MethodName} {ccy : ByteArray} {nLy : Nat} {rety : Option FieldType} {n idx ci k d' mc ms : Nat} {As : List Value} {r : Option Value} (hM : xC l y ccy nLy rety d' mc ms κ (.ref (κ.1 + k) :: As) M r M') (lk : xLV own idx y ccy nLy rety n ci) (hrec : xck M k ci = some ()) (hd : d' + 1 ≤ R.frames ∧ 8 + (nLy + 11) + 64 * d' ≤ R.locals)
    (hlen : As.length = n) (hl : ls.size = nL) (hst : st0 = As.reverse ++ .ref (κ.1 + k) :: rest) (hrm : (rest.map fun v => v.category).sum ≤ 8) (hdg : decode cc pc = .ok (.invokevirtual idx, 3)) (hc0 : cells + mc ≤ R.cells ∧ slots + ms ≤ R.slots)
    (kk : ∀ (H : Heap) (locs : List Loc), xO κ s M' H locs → W p l e R s m args below meth c H locs (cells + mc) (slots + ms) Q (F0 m (pc + 3) ls (r.toList ++ rest))) : W p l e R s m args below meth c H locs cells slots Q (F0 m pc ls st0) := by
  obtain ⟨mt, ml, hin, hse, hcl, h20⟩ := lk
  unfold xck at hrec
  split at hrec
  · next hs =>
    obtain ⟨nn, hs⟩ := xk_of hs
    have hw := xWs_at (z := κ.1) (cA := κ.2.1) hs
    rw [xE_obj h20] at hw
    cases hq : vwCl[ci]? with
    | none => rw [hq] at hcl; cases hcl
    | some q =>
      rw [hq] at hcl
      have hqy : q.1 = y.cls := Option.some.inj hcl
      have hrv := va_recv X.2.2.2.2.2.1 O.1.1 hq hw
      rw [hqy] at hrv
      exact xr_run O (va_runV (C := y.cls) (As := As) (rest := rest) ⟨X.1, X.2.1, X.2.2.1, X.2.2.2.1, X.2.2.2.2.1⟩ hM ⟨xcallBR X mt ml hd, X.2.2.2.2.1 _ hin, X.2.2.2.2.1 _ hse⟩ ⟨xblind, hrv, xpre X O _⟩ rfl hlen hl hst (lv_room hrm) hdg hc0) kk
  · cases hrec
theorem xr_callIR (X : xX p s m args c cc nL own κ) (O : xO κ s M H locs) {y : MethodName} {ccy : ByteArray} {nLy : Nat} {n idx b d' mc ms : Nat} {As : List Value} {r : Option Value} (hM : xC l y ccy nLy none d' mc ms κ (.ref b :: As) M r M') (lk : xLI own idx y ccy nLy n) (hd : d' + 1 ≤ R.frames ∧ 8 + (nLy + 11) + 64 * d' ≤ R.locals)
    (hlen : As.length = n) (hl : ls.size = nL) (hst : st0 = As.reverse ++ .ref b :: rest) (hrm : (rest.map fun v => v.category).sum ≤ 8) (hdg : decode cc pc = .ok (.invokespecial idx, 3)) (hc0 : cells + mc ≤ R.cells ∧ slots + ms ≤ R.slots)
    (kk : ∀ (H : Heap) (locs : List Loc), xO κ s M' H locs → W p l e R s m args below meth c H locs (cells + mc) (slots + ms) Q (F0 m (pc + 3) ls (r.toList ++ rest))) : W p l e R s m args below meth c H locs cells slots Q (F0 m pc ls st0) := by
  obtain ⟨mt, ml, hin, hnm⟩ := lk
  exact xr_run O (va_runI (b := b) (As := As) (rest := rest) ⟨X.1, X.2.1, X.2.2.1, X.2.2.2.1, X.2.2.2.2.1⟩ hM ⟨xcallBR X mt ml hd, hnm, X.2.2.2.2.1 _ hin⟩ ⟨xblind, xpre X O _⟩ rfl hlen hl hst (lv_room hrm) hdg hc0) kk
theorem xr_scr (X : xX p s m args c cc nL own κ) (O : xO κ s M H locs) {b L : Nat} {xs : Nat → Int32} (hX : va_X b L xs s s.heap) (hz : κ.1 = s.heap.size) (hb : b < s.heap.size) {j : Nat} {i : Int32} (hi : i = nI j) (hj : j < L) (hL : L ≤ 3072) (hdg : decode cc pc = .ok (.iaload, 1))
    (kk : W p l e R s m args below meth c H locs cells slots Q (F0 m (pc + 1) ls (.int (xs j) :: rest))) : W p l e R s m args below meth c H locs cells slots Q (F0 m pc ls (.int i :: .ref b :: rest)) := by
  subst hi
  refine va_sld X.1 X.2.1 hX hb (fun h => absurd (show κ.1 ≤ b from h) (by omega)) O.2 (vp_in_nI hj (by omega)) hdg ?_
  rw [nI_clamp (by omega)]
  exact kk
theorem lg_cmp_self (r : Int64) : lg_cmp r r = 0 := by
  unfold lg_cmp
  rw [if_neg Int64.lt_irrefl, if_pos rfl]
end LR
/-- a call on both answers alike and keeps what must be kept -/
def xSim (INV : Nat → xM → Prop) (f g : xM → Option (Int32 × xM)) : Prop := ∀ (n : Nat) (M : xM), n < 512 → INV n M → ∃ (r : Int32) (M1 M2 : xM), f M = some (r, M1) ∧ g M1 = some (r, M2) ∧ xck M 0 11 = some () ∧ xck M1 164 12 = some () ∧ INV (n + 1) M2
def xSimL (INV : Nat → xM → Prop) (f g : xM → Option (Int64 × xM)) : Prop := ∀ (n : Nat) (M : xM), n < 512 → INV n M → ∃ (r : Int64) (M1 M2 : xM), f M = some (r, M1) ∧ g M1 = some (r, M2) ∧ xck M 0 11 = some () ∧ xck M1 164 12 = some () ∧ INV (n + 1) M2
def xM0 : xM := ([], fun _ _ => 0, fun _ _ => 0, fun _ _ => none)
set_option maxRecDepth 100000 in
set_option maxHeartbeats 4000000 in
theorem lw_case_feed {p : Program} {e : Env} {s : State} {m : MethodId} {below : List Frame} {meth : Method} {c : Code} (l : Launch) {b L : Nat} {xs : Nat → Int32} {κ : xQ} (X : xX p s m #[Value.ref b] c code 4 RL κ) (hX : va_X b L xs s s.heap) (hz : κ.1 = s.heap.size) (hbl : b < s.heap.size) (hL : L ≤ 3072) {INV : Nat → xM → Prop} (S : ∀ (a1 : Int32) (a2 : Int32) (a3 : Int32) (a4 : Int32) (a5 : Int32), xSim INV (F_X11_feed 0 a1 a2 a3 a4 a5) (F_X12_feed 164 a1 a2 a3 a4 a5)) (n : Nat) (hn : 6 * n + 6 ≤ L) (M : xM) (hI : INV n M)
    (kk : ∀ (M : xM), INV (n + 1) M → ∀ (H : Heap) (locs : List Loc) (ls : Array Slot), xO κ s M H locs → lv_has ls 4 [(3, .int (nI (6 * n))), (2, .ref (κ.1 + 164)), (1, .ref (κ.1 + 0)), (0, .ref b)] → W p l e room_1 s m #[Value.ref b] below meth c H locs 185 17741 (lw_Z below #[Value.ref b] s) (F0 m 1434 ls []))
    (H : Heap) (locs : List Loc) (ls : Array Slot) (O : xO κ s M H locs) (hl : lv_has ls 4 [(3, .int (nI (6 * n))), (2, .ref (κ.1 + 164)), (1, .ref (κ.1 + 0)), (0, .ref b)]) : W p l e room_1 s m #[Value.ref b] below meth c H locs 185 17741 (lw_Z below #[Value.ref b] s) (F0 m 228 ls []) := by
  have hx := X.1
  have hb := X.2.1
  obtain ⟨r, M1, M2, h1, h2, hc1, hc2, hI⟩ := S (xs (6 * n + 1)) (xs (6 * n + 2)) (xs (6 * n + 3)) (xs (6 * n + 4)) (xs (6 * n + 5)) n M (by omega) hI
  refine lv_aload_n hx hb dL_law_228 rfl (lv_at hl 2 rfl) ?_
  refine lv_aload_n hx hb dL_law_229 rfl (lv_at hl 3 rfl) ?_
  refine lv_iload_n hx hb dL_law_230 rfl (lv_at hl 0 rfl) ?_
  refine lv_iconst (v := (1 : Int32)) hx hb dL_law_231 (by decide) ?_
  refine lv_iadd hx hb dL_law_232 ?_
  refine xr_scr X O hX hz hbl (j := 6 * n + 1) (nI_add (6 * n) 1) (by omega) hL dL_law_233 ?_
  refine lv_aload_n hx hb dL_law_234 rfl (lv_at hl 3 rfl) ?_
  refine lv_iload_n hx hb dL_law_235 rfl (lv_at hl 0 rfl) ?_
  refine lv_iconst (v := (2 : Int32)) hx hb dL_law_236 (by decide) ?_
  refine lv_iadd hx hb dL_law_237 ?_
  refine xr_scr X O hX hz hbl (j := 6 * n + 2) (nI_add (6 * n) 2) (by omega) hL dL_law_238 ?_
  refine lv_aload_n hx hb dL_law_239 rfl (lv_at hl 3 rfl) ?_
  refine lv_iload_n hx hb dL_law_240 rfl (lv_at hl 0 rfl) ?_
  refine lv_iconst (v := (3 : Int32)) hx hb dL_law_241 (by decide) ?_
  refine lv_iadd hx hb dL_law_242 ?_
  refine xr_scr X O hX hz hbl (j := 6 * n + 3) (nI_add (6 * n) 3) (by omega) hL dL_law_243 ?_
  refine lv_aload_n hx hb dL_law_244 rfl (lv_at hl 3 rfl) ?_
  refine lv_iload_n hx hb dL_law_245 rfl (lv_at hl 0 rfl) ?_
  refine lv_iconst (v := (4 : Int32)) hx hb dL_law_246 (by decide) ?_
  refine lv_iadd hx hb dL_law_247 ?_
  refine xr_scr X O hX hz hbl (j := 6 * n + 4) (nI_add (6 * n) 4) (by omega) hL dL_law_248 ?_
  refine lv_aload_n hx hb dL_law_249 rfl (lv_at hl 3 rfl) ?_
  refine lv_iload_n hx hb dL_law_250 rfl (lv_at hl 0 rfl) ?_
  refine lv_iconst (v := (5 : Int32)) hx hb dL_law_251 (by decide) ?_
  refine lv_iadd hx hb dL_law_252 ?_
  refine xr_scr X O hX hz hbl (j := 6 * n + 5) (nI_add (6 * n) 5) (by omega) hL dL_law_253 ?_
  refine xr_callVR (rest := []) X O (T_X11_feed l κ 0 (xs (6 * n + 1)) (xs (6 * n + 2)) (xs (6 * n + 3)) (xs (6 * n + 4)) (xs (6 * n + 5)) M r M1 h1) lk_L_13 hc1 ⟨Nat.le_of_ble_eq_true rfl, Nat.le_of_ble_eq_true rfl⟩ rfl hl.1 rfl (Nat.le_of_ble_eq_true rfl) dL_law_254 ⟨Nat.le_of_ble_eq_true rfl, Nat.le_of_ble_eq_true rfl⟩ (fun H locs O => ?_)
  refine W.eq (g2 := F0 m 257 ls [.int r]) rfl ?_
  refine lv_aload_n hx hb dL_law_257 rfl (lv_at hl 1 rfl) ?_
  refine lv_aload_n hx hb dL_law_258 rfl (lv_at hl 3 rfl) ?_
  refine lv_iload_n hx hb dL_law_259 rfl (lv_at hl 0 rfl) ?_
  refine lv_iconst (v := (1 : Int32)) hx hb dL_law_260 (by decide) ?_
  refine lv_iadd hx hb dL_law_261 ?_
  refine xr_scr X O hX hz hbl (j := 6 * n + 1) (nI_add (6 * n) 1) (by omega) hL dL_law_262 ?_
  refine lv_aload_n hx hb dL_law_263 rfl (lv_at hl 3 rfl) ?_
  refine lv_iload_n hx hb dL_law_264 rfl (lv_at hl 0 rfl) ?_
  refine lv_iconst (v := (2 : Int32)) hx hb dL_law_265 (by decide) ?_
  refine lv_iadd hx hb dL_law_266 ?_
  refine xr_scr X O hX hz hbl (j := 6 * n + 2) (nI_add (6 * n) 2) (by omega) hL dL_law_267 ?_
  refine lv_aload_n hx hb dL_law_268 rfl (lv_at hl 3 rfl) ?_
  refine lv_iload_n hx hb dL_law_269 rfl (lv_at hl 0 rfl) ?_
  refine lv_iconst (v := (3 : Int32)) hx hb dL_law_270 (by decide) ?_
  refine lv_iadd hx hb dL_law_271 ?_
  refine xr_scr X O hX hz hbl (j := 6 * n + 3) (nI_add (6 * n) 3) (by omega) hL dL_law_272 ?_
  refine lv_aload_n hx hb dL_law_273 rfl (lv_at hl 3 rfl) ?_
  refine lv_iload_n hx hb dL_law_274 rfl (lv_at hl 0 rfl) ?_
  refine lv_iconst (v := (4 : Int32)) hx hb dL_law_275 (by decide) ?_
  refine lv_iadd hx hb dL_law_276 ?_
  refine xr_scr X O hX hz hbl (j := 6 * n + 4) (nI_add (6 * n) 4) (by omega) hL dL_law_277 ?_
  refine lv_aload_n hx hb dL_law_278 rfl (lv_at hl 3 rfl) ?_
  refine lv_iload_n hx hb dL_law_279 rfl (lv_at hl 0 rfl) ?_
  refine lv_iconst (v := (5 : Int32)) hx hb dL_law_280 (by decide) ?_
  refine lv_iadd hx hb dL_law_281 ?_
  refine xr_scr X O hX hz hbl (j := 6 * n + 5) (nI_add (6 * n) 5) (by omega) hL dL_law_282 ?_
  refine xr_callVR (rest := [.int r]) X O (T_X12_feed l κ 164 (xs (6 * n + 1)) (xs (6 * n + 2)) (xs (6 * n + 3)) (xs (6 * n + 4)) (xs (6 * n + 5)) M1 r M2 h2) lk_L_17 hc2 ⟨Nat.le_of_ble_eq_true rfl, Nat.le_of_ble_eq_true rfl⟩ rfl hl.1 rfl (Nat.le_of_ble_eq_true rfl) dL_law_283 ⟨Nat.le_of_ble_eq_true rfl, Nat.le_of_ble_eq_true rfl⟩ (fun H locs O => ?_)
  refine W.eq (g2 := F0 m 286 ls [.int r, .int r]) rfl ?_
  refine lv_icmp_eq (tgt := 1434) hx hb dL_law_286 (by decide) (fun _ => ?_) (fun hc => absurd rfl hc)
  exact kk M2 hI H locs ls O hl
set_option maxRecDepth 100000 in
set_option maxHeartbeats 4000000 in
theorem lw_case_shore {p : Program} {e : Env} {s : State} {m : MethodId} {below : List Frame} {meth : Method} {c : Code} (l : Launch) {b L : Nat} {xs : Nat → Int32} {κ : xQ} (X : xX p s m #[Value.ref b] c code 4 RL κ) (hX : va_X b L xs s s.heap) (hz : κ.1 = s.heap.size) (hbl : b < s.heap.size) (hL : L ≤ 3072) {INV : Nat → xM → Prop} (S : ∀ (a1 : Int32), xSim INV (F_X11_shore 0 a1) (F_X12_shore 164 a1)) (n : Nat) (hn : 6 * n + 6 ≤ L) (M : xM) (hI : INV n M)
    (kk : ∀ (M : xM), INV (n + 1) M → ∀ (H : Heap) (locs : List Loc) (ls : Array Slot), xO κ s M H locs → lv_has ls 4 [(3, .int (nI (6 * n))), (2, .ref (κ.1 + 164)), (1, .ref (κ.1 + 0)), (0, .ref b)] → W p l e room_1 s m #[Value.ref b] below meth c H locs 185 17741 (lw_Z below #[Value.ref b] s) (F0 m 1434 ls []))
    (H : Heap) (locs : List Loc) (ls : Array Slot) (O : xO κ s M H locs) (hl : lv_has ls 4 [(3, .int (nI (6 * n))), (2, .ref (κ.1 + 164)), (1, .ref (κ.1 + 0)), (0, .ref b)]) : W p l e room_1 s m #[Value.ref b] below meth c H locs 185 17741 (lw_Z below #[Value.ref b] s) (F0 m 291 ls []) := by
  have hx := X.1
  have hb := X.2.1
  obtain ⟨r, M1, M2, h1, h2, hc1, hc2, hI⟩ := S (xs (6 * n + 1)) n M (by omega) hI
  refine lv_aload_n hx hb dL_law_291 rfl (lv_at hl 2 rfl) ?_
  refine lv_aload_n hx hb dL_law_292 rfl (lv_at hl 3 rfl) ?_
  refine lv_iload_n hx hb dL_law_293 rfl (lv_at hl 0 rfl) ?_
  refine lv_iconst (v := (1 : Int32)) hx hb dL_law_294 (by decide) ?_
  refine lv_iadd hx hb dL_law_295 ?_
  refine xr_scr X O hX hz hbl (j := 6 * n + 1) (nI_add (6 * n) 1) (by omega) hL dL_law_296 ?_
  refine xr_callVR (rest := []) X O (T_X11_shore l κ 0 (xs (6 * n + 1)) M r M1 h1) lk_L_18 hc1 ⟨Nat.le_of_ble_eq_true rfl, Nat.le_of_ble_eq_true rfl⟩ rfl hl.1 rfl (Nat.le_of_ble_eq_true rfl) dL_law_297 ⟨Nat.le_of_ble_eq_true rfl, Nat.le_of_ble_eq_true rfl⟩ (fun H locs O => ?_)
  refine W.eq (g2 := F0 m 300 ls [.int r]) rfl ?_
  refine lv_aload_n hx hb dL_law_300 rfl (lv_at hl 1 rfl) ?_
  refine lv_aload_n hx hb dL_law_301 rfl (lv_at hl 3 rfl) ?_
  refine lv_iload_n hx hb dL_law_302 rfl (lv_at hl 0 rfl) ?_
  refine lv_iconst (v := (1 : Int32)) hx hb dL_law_303 (by decide) ?_
  refine lv_iadd hx hb dL_law_304 ?_
  refine xr_scr X O hX hz hbl (j := 6 * n + 1) (nI_add (6 * n) 1) (by omega) hL dL_law_305 ?_
  refine xr_callVR (rest := [.int r]) X O (T_X12_shore l κ 164 (xs (6 * n + 1)) M1 r M2 h2) lk_L_22 hc2 ⟨Nat.le_of_ble_eq_true rfl, Nat.le_of_ble_eq_true rfl⟩ rfl hl.1 rfl (Nat.le_of_ble_eq_true rfl) dL_law_306 ⟨Nat.le_of_ble_eq_true rfl, Nat.le_of_ble_eq_true rfl⟩ (fun H locs O => ?_)
  refine W.eq (g2 := F0 m 309 ls [.int r, .int r]) rfl ?_
  refine lv_icmp_eq (tgt := 1434) hx hb dL_law_309 (by decide) (fun _ => ?_) (fun hc => absurd rfl hc)
  exact kk M2 hI H locs ls O hl
set_option maxRecDepth 100000 in
set_option maxHeartbeats 4000000 in
theorem lw_case_fault {p : Program} {e : Env} {s : State} {m : MethodId} {below : List Frame} {meth : Method} {c : Code} (l : Launch) {b L : Nat} {xs : Nat → Int32} {κ : xQ} (X : xX p s m #[Value.ref b] c code 4 RL κ) (hX : va_X b L xs s s.heap) (hz : κ.1 = s.heap.size) (hbl : b < s.heap.size) (hL : L ≤ 3072) {INV : Nat → xM → Prop} (S : ∀ (a1 : Int32), xSim INV (F_X11_fault 0 a1) (F_X12_fault 164 a1)) (n : Nat) (hn : 6 * n + 6 ≤ L) (M : xM) (hI : INV n M)
    (kk : ∀ (M : xM), INV (n + 1) M → ∀ (H : Heap) (locs : List Loc) (ls : Array Slot), xO κ s M H locs → lv_has ls 4 [(3, .int (nI (6 * n))), (2, .ref (κ.1 + 164)), (1, .ref (κ.1 + 0)), (0, .ref b)] → W p l e room_1 s m #[Value.ref b] below meth c H locs 185 17741 (lw_Z below #[Value.ref b] s) (F0 m 1434 ls []))
    (H : Heap) (locs : List Loc) (ls : Array Slot) (O : xO κ s M H locs) (hl : lv_has ls 4 [(3, .int (nI (6 * n))), (2, .ref (κ.1 + 164)), (1, .ref (κ.1 + 0)), (0, .ref b)]) : W p l e room_1 s m #[Value.ref b] below meth c H locs 185 17741 (lw_Z below #[Value.ref b] s) (F0 m 314 ls []) := by
  have hx := X.1
  have hb := X.2.1
  obtain ⟨r, M1, M2, h1, h2, hc1, hc2, hI⟩ := S (xs (6 * n + 1)) n M (by omega) hI
  refine lv_aload_n hx hb dL_law_314 rfl (lv_at hl 2 rfl) ?_
  refine lv_aload_n hx hb dL_law_315 rfl (lv_at hl 3 rfl) ?_
  refine lv_iload_n hx hb dL_law_316 rfl (lv_at hl 0 rfl) ?_
  refine lv_iconst (v := (1 : Int32)) hx hb dL_law_317 (by decide) ?_
  refine lv_iadd hx hb dL_law_318 ?_
  refine xr_scr X O hX hz hbl (j := 6 * n + 1) (nI_add (6 * n) 1) (by omega) hL dL_law_319 ?_
  refine xr_callVR (rest := []) X O (T_X11_fault l κ 0 (xs (6 * n + 1)) M r M1 h1) lk_L_23 hc1 ⟨Nat.le_of_ble_eq_true rfl, Nat.le_of_ble_eq_true rfl⟩ rfl hl.1 rfl (Nat.le_of_ble_eq_true rfl) dL_law_320 ⟨Nat.le_of_ble_eq_true rfl, Nat.le_of_ble_eq_true rfl⟩ (fun H locs O => ?_)
  refine W.eq (g2 := F0 m 323 ls [.int r]) rfl ?_
  refine lv_aload_n hx hb dL_law_323 rfl (lv_at hl 1 rfl) ?_
  refine lv_aload_n hx hb dL_law_324 rfl (lv_at hl 3 rfl) ?_
  refine lv_iload_n hx hb dL_law_325 rfl (lv_at hl 0 rfl) ?_
  refine lv_iconst (v := (1 : Int32)) hx hb dL_law_326 (by decide) ?_
  refine lv_iadd hx hb dL_law_327 ?_
  refine xr_scr X O hX hz hbl (j := 6 * n + 1) (nI_add (6 * n) 1) (by omega) hL dL_law_328 ?_
  refine xr_callVR (rest := [.int r]) X O (T_X12_fault l κ 164 (xs (6 * n + 1)) M1 r M2 h2) lk_L_26 hc2 ⟨Nat.le_of_ble_eq_true rfl, Nat.le_of_ble_eq_true rfl⟩ rfl hl.1 rfl (Nat.le_of_ble_eq_true rfl) dL_law_329 ⟨Nat.le_of_ble_eq_true rfl, Nat.le_of_ble_eq_true rfl⟩ (fun H locs O => ?_)
  refine W.eq (g2 := F0 m 332 ls [.int r, .int r]) rfl ?_
  refine lv_icmp_eq (tgt := 1434) hx hb dL_law_332 (by decide) (fun _ => ?_) (fun hc => absurd rfl hc)
  exact kk M2 hI H locs ls O hl
set_option maxRecDepth 100000 in
set_option maxHeartbeats 4000000 in
theorem lw_case_sand {p : Program} {e : Env} {s : State} {m : MethodId} {below : List Frame} {meth : Method} {c : Code} (l : Launch) {b L : Nat} {xs : Nat → Int32} {κ : xQ} (X : xX p s m #[Value.ref b] c code 4 RL κ) (hX : va_X b L xs s s.heap) (hz : κ.1 = s.heap.size) (hbl : b < s.heap.size) (hL : L ≤ 3072) {INV : Nat → xM → Prop} (S : ∀ (a1 : Int32), xSim INV (F_X11_sand 0 a1) (F_X12_sand 164 a1)) (n : Nat) (hn : 6 * n + 6 ≤ L) (M : xM) (hI : INV n M)
    (kk : ∀ (M : xM), INV (n + 1) M → ∀ (H : Heap) (locs : List Loc) (ls : Array Slot), xO κ s M H locs → lv_has ls 4 [(3, .int (nI (6 * n))), (2, .ref (κ.1 + 164)), (1, .ref (κ.1 + 0)), (0, .ref b)] → W p l e room_1 s m #[Value.ref b] below meth c H locs 185 17741 (lw_Z below #[Value.ref b] s) (F0 m 1434 ls []))
    (H : Heap) (locs : List Loc) (ls : Array Slot) (O : xO κ s M H locs) (hl : lv_has ls 4 [(3, .int (nI (6 * n))), (2, .ref (κ.1 + 164)), (1, .ref (κ.1 + 0)), (0, .ref b)]) : W p l e room_1 s m #[Value.ref b] below meth c H locs 185 17741 (lw_Z below #[Value.ref b] s) (F0 m 337 ls []) := by
  have hx := X.1
  have hb := X.2.1
  obtain ⟨r, M1, M2, h1, h2, hc1, hc2, hI⟩ := S (xs (6 * n + 1)) n M (by omega) hI
  refine lv_aload_n hx hb dL_law_337 rfl (lv_at hl 2 rfl) ?_
  refine lv_aload_n hx hb dL_law_338 rfl (lv_at hl 3 rfl) ?_
  refine lv_iload_n hx hb dL_law_339 rfl (lv_at hl 0 rfl) ?_
  refine lv_iconst (v := (1 : Int32)) hx hb dL_law_340 (by decide) ?_
  refine lv_iadd hx hb dL_law_341 ?_
  refine xr_scr X O hX hz hbl (j := 6 * n + 1) (nI_add (6 * n) 1) (by omega) hL dL_law_342 ?_
  refine xr_callVR (rest := []) X O (T_X11_sand l κ 0 (xs (6 * n + 1)) M r M1 h1) lk_L_27 hc1 ⟨Nat.le_of_ble_eq_true rfl, Nat.le_of_ble_eq_true rfl⟩ rfl hl.1 rfl (Nat.le_of_ble_eq_true rfl) dL_law_343 ⟨Nat.le_of_ble_eq_true rfl, Nat.le_of_ble_eq_true rfl⟩ (fun H locs O => ?_)
  refine W.eq (g2 := F0 m 346 ls [.int r]) rfl ?_
  refine lv_aload_n hx hb dL_law_346 rfl (lv_at hl 1 rfl) ?_
  refine lv_aload_n hx hb dL_law_347 rfl (lv_at hl 3 rfl) ?_
  refine lv_iload_n hx hb dL_law_348 rfl (lv_at hl 0 rfl) ?_
  refine lv_iconst (v := (1 : Int32)) hx hb dL_law_349 (by decide) ?_
  refine lv_iadd hx hb dL_law_350 ?_
  refine xr_scr X O hX hz hbl (j := 6 * n + 1) (nI_add (6 * n) 1) (by omega) hL dL_law_351 ?_
  refine xr_callVR (rest := [.int r]) X O (T_X12_sand l κ 164 (xs (6 * n + 1)) M1 r M2 h2) lk_L_30 hc2 ⟨Nat.le_of_ble_eq_true rfl, Nat.le_of_ble_eq_true rfl⟩ rfl hl.1 rfl (Nat.le_of_ble_eq_true rfl) dL_law_352 ⟨Nat.le_of_ble_eq_true rfl, Nat.le_of_ble_eq_true rfl⟩ (fun H locs O => ?_)
  refine W.eq (g2 := F0 m 355 ls [.int r, .int r]) rfl ?_
  refine lv_icmp_eq (tgt := 1434) hx hb dL_law_355 (by decide) (fun _ => ?_) (fun hc => absurd rfl hc)
  exact kk M2 hI H locs ls O hl
set_option maxRecDepth 100000 in
set_option maxHeartbeats 4000000 in
theorem lw_case_house {p : Program} {e : Env} {s : State} {m : MethodId} {below : List Frame} {meth : Method} {c : Code} (l : Launch) {b L : Nat} {xs : Nat → Int32} {κ : xQ} (X : xX p s m #[Value.ref b] c code 4 RL κ) (hX : va_X b L xs s s.heap) (hz : κ.1 = s.heap.size) (hbl : b < s.heap.size) (hL : L ≤ 3072) {INV : Nat → xM → Prop} (S : ∀ (a1 : Int32) (a2 : Int32), xSim INV (F_X11_house 0 a1 a2) (F_X12_house 164 a1 a2)) (n : Nat) (hn : 6 * n + 6 ≤ L) (M : xM) (hI : INV n M)
    (kk : ∀ (M : xM), INV (n + 1) M → ∀ (H : Heap) (locs : List Loc) (ls : Array Slot), xO κ s M H locs → lv_has ls 4 [(3, .int (nI (6 * n))), (2, .ref (κ.1 + 164)), (1, .ref (κ.1 + 0)), (0, .ref b)] → W p l e room_1 s m #[Value.ref b] below meth c H locs 185 17741 (lw_Z below #[Value.ref b] s) (F0 m 1434 ls []))
    (H : Heap) (locs : List Loc) (ls : Array Slot) (O : xO κ s M H locs) (hl : lv_has ls 4 [(3, .int (nI (6 * n))), (2, .ref (κ.1 + 164)), (1, .ref (κ.1 + 0)), (0, .ref b)]) : W p l e room_1 s m #[Value.ref b] below meth c H locs 185 17741 (lw_Z below #[Value.ref b] s) (F0 m 360 ls []) := by
  have hx := X.1
  have hb := X.2.1
  obtain ⟨r, M1, M2, h1, h2, hc1, hc2, hI⟩ := S (xs (6 * n + 1)) (xs (6 * n + 2)) n M (by omega) hI
  refine lv_aload_n hx hb dL_law_360 rfl (lv_at hl 2 rfl) ?_
  refine lv_aload_n hx hb dL_law_361 rfl (lv_at hl 3 rfl) ?_
  refine lv_iload_n hx hb dL_law_362 rfl (lv_at hl 0 rfl) ?_
  refine lv_iconst (v := (1 : Int32)) hx hb dL_law_363 (by decide) ?_
  refine lv_iadd hx hb dL_law_364 ?_
  refine xr_scr X O hX hz hbl (j := 6 * n + 1) (nI_add (6 * n) 1) (by omega) hL dL_law_365 ?_
  refine lv_aload_n hx hb dL_law_366 rfl (lv_at hl 3 rfl) ?_
  refine lv_iload_n hx hb dL_law_367 rfl (lv_at hl 0 rfl) ?_
  refine lv_iconst (v := (2 : Int32)) hx hb dL_law_368 (by decide) ?_
  refine lv_iadd hx hb dL_law_369 ?_
  refine xr_scr X O hX hz hbl (j := 6 * n + 2) (nI_add (6 * n) 2) (by omega) hL dL_law_370 ?_
  refine xr_callVR (rest := []) X O (T_X11_house l κ 0 (xs (6 * n + 1)) (xs (6 * n + 2)) M r M1 h1) lk_L_31 hc1 ⟨Nat.le_of_ble_eq_true rfl, Nat.le_of_ble_eq_true rfl⟩ rfl hl.1 rfl (Nat.le_of_ble_eq_true rfl) dL_law_371 ⟨Nat.le_of_ble_eq_true rfl, Nat.le_of_ble_eq_true rfl⟩ (fun H locs O => ?_)
  refine W.eq (g2 := F0 m 374 ls [.int r]) rfl ?_
  refine lv_aload_n hx hb dL_law_374 rfl (lv_at hl 1 rfl) ?_
  refine lv_aload_n hx hb dL_law_375 rfl (lv_at hl 3 rfl) ?_
  refine lv_iload_n hx hb dL_law_376 rfl (lv_at hl 0 rfl) ?_
  refine lv_iconst (v := (1 : Int32)) hx hb dL_law_377 (by decide) ?_
  refine lv_iadd hx hb dL_law_378 ?_
  refine xr_scr X O hX hz hbl (j := 6 * n + 1) (nI_add (6 * n) 1) (by omega) hL dL_law_379 ?_
  refine lv_aload_n hx hb dL_law_380 rfl (lv_at hl 3 rfl) ?_
  refine lv_iload_n hx hb dL_law_381 rfl (lv_at hl 0 rfl) ?_
  refine lv_iconst (v := (2 : Int32)) hx hb dL_law_382 (by decide) ?_
  refine lv_iadd hx hb dL_law_383 ?_
  refine xr_scr X O hX hz hbl (j := 6 * n + 2) (nI_add (6 * n) 2) (by omega) hL dL_law_384 ?_
  refine xr_callVR (rest := [.int r]) X O (T_X12_house l κ 164 (xs (6 * n + 1)) (xs (6 * n + 2)) M1 r M2 h2) lk_L_35 hc2 ⟨Nat.le_of_ble_eq_true rfl, Nat.le_of_ble_eq_true rfl⟩ rfl hl.1 rfl (Nat.le_of_ble_eq_true rfl) dL_law_385 ⟨Nat.le_of_ble_eq_true rfl, Nat.le_of_ble_eq_true rfl⟩ (fun H locs O => ?_)
  refine W.eq (g2 := F0 m 388 ls [.int r, .int r]) rfl ?_
  refine lv_icmp_eq (tgt := 1434) hx hb dL_law_388 (by decide) (fun _ => ?_) (fun hc => absurd rfl hc)
  exact kk M2 hI H locs ls O hl
set_option maxRecDepth 100000 in
set_option maxHeartbeats 4000000 in
theorem lw_case_plot {p : Program} {e : Env} {s : State} {m : MethodId} {below : List Frame} {meth : Method} {c : Code} (l : Launch) {b L : Nat} {xs : Nat → Int32} {κ : xQ} (X : xX p s m #[Value.ref b] c code 4 RL κ) (hX : va_X b L xs s s.heap) (hz : κ.1 = s.heap.size) (hbl : b < s.heap.size) (hL : L ≤ 3072) {INV : Nat → xM → Prop} (S : ∀ (a1 : Int32) (a2 : Int32), xSim INV (F_X11_plot 0 a1 a2) (F_X12_plot 164 a1 a2)) (n : Nat) (hn : 6 * n + 6 ≤ L) (M : xM) (hI : INV n M)
    (kk : ∀ (M : xM), INV (n + 1) M → ∀ (H : Heap) (locs : List Loc) (ls : Array Slot), xO κ s M H locs → lv_has ls 4 [(3, .int (nI (6 * n))), (2, .ref (κ.1 + 164)), (1, .ref (κ.1 + 0)), (0, .ref b)] → W p l e room_1 s m #[Value.ref b] below meth c H locs 185 17741 (lw_Z below #[Value.ref b] s) (F0 m 1434 ls []))
    (H : Heap) (locs : List Loc) (ls : Array Slot) (O : xO κ s M H locs) (hl : lv_has ls 4 [(3, .int (nI (6 * n))), (2, .ref (κ.1 + 164)), (1, .ref (κ.1 + 0)), (0, .ref b)]) : W p l e room_1 s m #[Value.ref b] below meth c H locs 185 17741 (lw_Z below #[Value.ref b] s) (F0 m 393 ls []) := by
  have hx := X.1
  have hb := X.2.1
  obtain ⟨r, M1, M2, h1, h2, hc1, hc2, hI⟩ := S (xs (6 * n + 1)) (xs (6 * n + 2)) n M (by omega) hI
  refine lv_aload_n hx hb dL_law_393 rfl (lv_at hl 2 rfl) ?_
  refine lv_aload_n hx hb dL_law_394 rfl (lv_at hl 3 rfl) ?_
  refine lv_iload_n hx hb dL_law_395 rfl (lv_at hl 0 rfl) ?_
  refine lv_iconst (v := (1 : Int32)) hx hb dL_law_396 (by decide) ?_
  refine lv_iadd hx hb dL_law_397 ?_
  refine xr_scr X O hX hz hbl (j := 6 * n + 1) (nI_add (6 * n) 1) (by omega) hL dL_law_398 ?_
  refine lv_aload_n hx hb dL_law_399 rfl (lv_at hl 3 rfl) ?_
  refine lv_iload_n hx hb dL_law_400 rfl (lv_at hl 0 rfl) ?_
  refine lv_iconst (v := (2 : Int32)) hx hb dL_law_401 (by decide) ?_
  refine lv_iadd hx hb dL_law_402 ?_
  refine xr_scr X O hX hz hbl (j := 6 * n + 2) (nI_add (6 * n) 2) (by omega) hL dL_law_403 ?_
  refine xr_callVR (rest := []) X O (T_X11_plot l κ 0 (xs (6 * n + 1)) (xs (6 * n + 2)) M r M1 h1) lk_L_36 hc1 ⟨Nat.le_of_ble_eq_true rfl, Nat.le_of_ble_eq_true rfl⟩ rfl hl.1 rfl (Nat.le_of_ble_eq_true rfl) dL_law_404 ⟨Nat.le_of_ble_eq_true rfl, Nat.le_of_ble_eq_true rfl⟩ (fun H locs O => ?_)
  refine W.eq (g2 := F0 m 407 ls [.int r]) rfl ?_
  refine lv_aload_n hx hb dL_law_407 rfl (lv_at hl 1 rfl) ?_
  refine lv_aload_n hx hb dL_law_408 rfl (lv_at hl 3 rfl) ?_
  refine lv_iload_n hx hb dL_law_409 rfl (lv_at hl 0 rfl) ?_
  refine lv_iconst (v := (1 : Int32)) hx hb dL_law_410 (by decide) ?_
  refine lv_iadd hx hb dL_law_411 ?_
  refine xr_scr X O hX hz hbl (j := 6 * n + 1) (nI_add (6 * n) 1) (by omega) hL dL_law_412 ?_
  refine lv_aload_n hx hb dL_law_413 rfl (lv_at hl 3 rfl) ?_
  refine lv_iload_n hx hb dL_law_414 rfl (lv_at hl 0 rfl) ?_
  refine lv_iconst (v := (2 : Int32)) hx hb dL_law_415 (by decide) ?_
  refine lv_iadd hx hb dL_law_416 ?_
  refine xr_scr X O hX hz hbl (j := 6 * n + 2) (nI_add (6 * n) 2) (by omega) hL dL_law_417 ?_
  refine xr_callVR (rest := [.int r]) X O (T_X12_plot l κ 164 (xs (6 * n + 1)) (xs (6 * n + 2)) M1 r M2 h2) lk_L_39 hc2 ⟨Nat.le_of_ble_eq_true rfl, Nat.le_of_ble_eq_true rfl⟩ rfl hl.1 rfl (Nat.le_of_ble_eq_true rfl) dL_law_418 ⟨Nat.le_of_ble_eq_true rfl, Nat.le_of_ble_eq_true rfl⟩ (fun H locs O => ?_)
  refine W.eq (g2 := F0 m 421 ls [.int r, .int r]) rfl ?_
  refine lv_icmp_eq (tgt := 1434) hx hb dL_law_421 (by decide) (fun _ => ?_) (fun hc => absurd rfl hc)
  exact kk M2 hI H locs ls O hl
set_option maxRecDepth 100000 in
set_option maxHeartbeats 4000000 in
theorem lw_case_level {p : Program} {e : Env} {s : State} {m : MethodId} {below : List Frame} {meth : Method} {c : Code} (l : Launch) {b L : Nat} {xs : Nat → Int32} {κ : xQ} (X : xX p s m #[Value.ref b] c code 4 RL κ) (hX : va_X b L xs s s.heap) (hz : κ.1 = s.heap.size) (hbl : b < s.heap.size) (hL : L ≤ 3072) {INV : Nat → xM → Prop} (S : ∀ (a1 : Int32), xSim INV (F_X11_level 0 a1) (F_X12_level 164 a1)) (n : Nat) (hn : 6 * n + 6 ≤ L) (M : xM) (hI : INV n M)
    (kk : ∀ (M : xM), INV (n + 1) M → ∀ (H : Heap) (locs : List Loc) (ls : Array Slot), xO κ s M H locs → lv_has ls 4 [(3, .int (nI (6 * n))), (2, .ref (κ.1 + 164)), (1, .ref (κ.1 + 0)), (0, .ref b)] → W p l e room_1 s m #[Value.ref b] below meth c H locs 185 17741 (lw_Z below #[Value.ref b] s) (F0 m 1434 ls []))
    (H : Heap) (locs : List Loc) (ls : Array Slot) (O : xO κ s M H locs) (hl : lv_has ls 4 [(3, .int (nI (6 * n))), (2, .ref (κ.1 + 164)), (1, .ref (κ.1 + 0)), (0, .ref b)]) : W p l e room_1 s m #[Value.ref b] below meth c H locs 185 17741 (lw_Z below #[Value.ref b] s) (F0 m 426 ls []) := by
  have hx := X.1
  have hb := X.2.1
  obtain ⟨r, M1, M2, h1, h2, hc1, hc2, hI⟩ := S (xs (6 * n + 1)) n M (by omega) hI
  refine lv_aload_n hx hb dL_law_426 rfl (lv_at hl 2 rfl) ?_
  refine lv_aload_n hx hb dL_law_427 rfl (lv_at hl 3 rfl) ?_
  refine lv_iload_n hx hb dL_law_428 rfl (lv_at hl 0 rfl) ?_
  refine lv_iconst (v := (1 : Int32)) hx hb dL_law_429 (by decide) ?_
  refine lv_iadd hx hb dL_law_430 ?_
  refine xr_scr X O hX hz hbl (j := 6 * n + 1) (nI_add (6 * n) 1) (by omega) hL dL_law_431 ?_
  refine xr_callVR (rest := []) X O (T_X11_level l κ 0 (xs (6 * n + 1)) M r M1 h1) lk_L_40 hc1 ⟨Nat.le_of_ble_eq_true rfl, Nat.le_of_ble_eq_true rfl⟩ rfl hl.1 rfl (Nat.le_of_ble_eq_true rfl) dL_law_432 ⟨Nat.le_of_ble_eq_true rfl, Nat.le_of_ble_eq_true rfl⟩ (fun H locs O => ?_)
  refine W.eq (g2 := F0 m 435 ls [.int r]) rfl ?_
  refine lv_aload_n hx hb dL_law_435 rfl (lv_at hl 1 rfl) ?_
  refine lv_aload_n hx hb dL_law_436 rfl (lv_at hl 3 rfl) ?_
  refine lv_iload_n hx hb dL_law_437 rfl (lv_at hl 0 rfl) ?_
  refine lv_iconst (v := (1 : Int32)) hx hb dL_law_438 (by decide) ?_
  refine lv_iadd hx hb dL_law_439 ?_
  refine xr_scr X O hX hz hbl (j := 6 * n + 1) (nI_add (6 * n) 1) (by omega) hL dL_law_440 ?_
  refine xr_callVR (rest := [.int r]) X O (T_X12_level l κ 164 (xs (6 * n + 1)) M1 r M2 h2) lk_L_43 hc2 ⟨Nat.le_of_ble_eq_true rfl, Nat.le_of_ble_eq_true rfl⟩ rfl hl.1 rfl (Nat.le_of_ble_eq_true rfl) dL_law_441 ⟨Nat.le_of_ble_eq_true rfl, Nat.le_of_ble_eq_true rfl⟩ (fun H locs O => ?_)
  refine W.eq (g2 := F0 m 444 ls [.int r, .int r]) rfl ?_
  refine lv_icmp_eq (tgt := 1434) hx hb dL_law_444 (by decide) (fun _ => ?_) (fun hc => absurd rfl hc)
  exact kk M2 hI H locs ls O hl
set_option maxRecDepth 100000 in
set_option maxHeartbeats 4000000 in
theorem lw_case_wet {p : Program} {e : Env} {s : State} {m : MethodId} {below : List Frame} {meth : Method} {c : Code} (l : Launch) {b L : Nat} {xs : Nat → Int32} {κ : xQ} (X : xX p s m #[Value.ref b] c code 4 RL κ) (hX : va_X b L xs s s.heap) (hz : κ.1 = s.heap.size) (hbl : b < s.heap.size) (hL : L ≤ 3072) {INV : Nat → xM → Prop} (S : ∀ (a1 : Int32), xSim INV (F_X11_wet 0 a1) (F_X12_wet 164 a1)) (n : Nat) (hn : 6 * n + 6 ≤ L) (M : xM) (hI : INV n M)
    (kk : ∀ (M : xM), INV (n + 1) M → ∀ (H : Heap) (locs : List Loc) (ls : Array Slot), xO κ s M H locs → lv_has ls 4 [(3, .int (nI (6 * n))), (2, .ref (κ.1 + 164)), (1, .ref (κ.1 + 0)), (0, .ref b)] → W p l e room_1 s m #[Value.ref b] below meth c H locs 185 17741 (lw_Z below #[Value.ref b] s) (F0 m 1434 ls []))
    (H : Heap) (locs : List Loc) (ls : Array Slot) (O : xO κ s M H locs) (hl : lv_has ls 4 [(3, .int (nI (6 * n))), (2, .ref (κ.1 + 164)), (1, .ref (κ.1 + 0)), (0, .ref b)]) : W p l e room_1 s m #[Value.ref b] below meth c H locs 185 17741 (lw_Z below #[Value.ref b] s) (F0 m 449 ls []) := by
  have hx := X.1
  have hb := X.2.1
  obtain ⟨r, M1, M2, h1, h2, hc1, hc2, hI⟩ := S (xs (6 * n + 1)) n M (by omega) hI
  refine lv_aload_n hx hb dL_law_449 rfl (lv_at hl 2 rfl) ?_
  refine lv_aload_n hx hb dL_law_450 rfl (lv_at hl 3 rfl) ?_
  refine lv_iload_n hx hb dL_law_451 rfl (lv_at hl 0 rfl) ?_
  refine lv_iconst (v := (1 : Int32)) hx hb dL_law_452 (by decide) ?_
  refine lv_iadd hx hb dL_law_453 ?_
  refine xr_scr X O hX hz hbl (j := 6 * n + 1) (nI_add (6 * n) 1) (by omega) hL dL_law_454 ?_
  refine xr_callVR (rest := []) X O (T_X11_wet l κ 0 (xs (6 * n + 1)) M r M1 h1) lk_L_44 hc1 ⟨Nat.le_of_ble_eq_true rfl, Nat.le_of_ble_eq_true rfl⟩ rfl hl.1 rfl (Nat.le_of_ble_eq_true rfl) dL_law_455 ⟨Nat.le_of_ble_eq_true rfl, Nat.le_of_ble_eq_true rfl⟩ (fun H locs O => ?_)
  refine W.eq (g2 := F0 m 458 ls [.int r]) rfl ?_
  refine lv_aload_n hx hb dL_law_458 rfl (lv_at hl 1 rfl) ?_
  refine lv_aload_n hx hb dL_law_459 rfl (lv_at hl 3 rfl) ?_
  refine lv_iload_n hx hb dL_law_460 rfl (lv_at hl 0 rfl) ?_
  refine lv_iconst (v := (1 : Int32)) hx hb dL_law_461 (by decide) ?_
  refine lv_iadd hx hb dL_law_462 ?_
  refine xr_scr X O hX hz hbl (j := 6 * n + 1) (nI_add (6 * n) 1) (by omega) hL dL_law_463 ?_
  refine xr_callVR (rest := [.int r]) X O (T_X12_wet l κ 164 (xs (6 * n + 1)) M1 r M2 h2) lk_L_47 hc2 ⟨Nat.le_of_ble_eq_true rfl, Nat.le_of_ble_eq_true rfl⟩ rfl hl.1 rfl (Nat.le_of_ble_eq_true rfl) dL_law_464 ⟨Nat.le_of_ble_eq_true rfl, Nat.le_of_ble_eq_true rfl⟩ (fun H locs O => ?_)
  refine W.eq (g2 := F0 m 467 ls [.int r, .int r]) rfl ?_
  refine lv_icmp_eq (tgt := 1434) hx hb dL_law_467 (by decide) (fun _ => ?_) (fun hc => absurd rfl hc)
  exact kk M2 hI H locs ls O hl
set_option maxRecDepth 100000 in
set_option maxHeartbeats 4000000 in
theorem lw_case_minutes {p : Program} {e : Env} {s : State} {m : MethodId} {below : List Frame} {meth : Method} {c : Code} (l : Launch) {b L : Nat} {xs : Nat → Int32} {κ : xQ} (X : xX p s m #[Value.ref b] c code 4 RL κ) (hX : va_X b L xs s s.heap) (hz : κ.1 = s.heap.size) (hbl : b < s.heap.size) (hL : L ≤ 3072) {INV : Nat → xM → Prop} (S : ∀ (a1 : Int32), xSim INV (F_X11_minutes 0 a1) (F_X12_minutes 164 a1)) (n : Nat) (hn : 6 * n + 6 ≤ L) (M : xM) (hI : INV n M)
    (kk : ∀ (M : xM), INV (n + 1) M → ∀ (H : Heap) (locs : List Loc) (ls : Array Slot), xO κ s M H locs → lv_has ls 4 [(3, .int (nI (6 * n))), (2, .ref (κ.1 + 164)), (1, .ref (κ.1 + 0)), (0, .ref b)] → W p l e room_1 s m #[Value.ref b] below meth c H locs 185 17741 (lw_Z below #[Value.ref b] s) (F0 m 1434 ls []))
    (H : Heap) (locs : List Loc) (ls : Array Slot) (O : xO κ s M H locs) (hl : lv_has ls 4 [(3, .int (nI (6 * n))), (2, .ref (κ.1 + 164)), (1, .ref (κ.1 + 0)), (0, .ref b)]) : W p l e room_1 s m #[Value.ref b] below meth c H locs 185 17741 (lw_Z below #[Value.ref b] s) (F0 m 472 ls []) := by
  have hx := X.1
  have hb := X.2.1
  obtain ⟨r, M1, M2, h1, h2, hc1, hc2, hI⟩ := S (xs (6 * n + 1)) n M (by omega) hI
  refine lv_aload_n hx hb dL_law_472 rfl (lv_at hl 2 rfl) ?_
  refine lv_aload_n hx hb dL_law_473 rfl (lv_at hl 3 rfl) ?_
  refine lv_iload_n hx hb dL_law_474 rfl (lv_at hl 0 rfl) ?_
  refine lv_iconst (v := (1 : Int32)) hx hb dL_law_475 (by decide) ?_
  refine lv_iadd hx hb dL_law_476 ?_
  refine xr_scr X O hX hz hbl (j := 6 * n + 1) (nI_add (6 * n) 1) (by omega) hL dL_law_477 ?_
  refine xr_callVR (rest := []) X O (T_X11_minutes l κ 0 (xs (6 * n + 1)) M r M1 h1) lk_L_48 hc1 ⟨Nat.le_of_ble_eq_true rfl, Nat.le_of_ble_eq_true rfl⟩ rfl hl.1 rfl (Nat.le_of_ble_eq_true rfl) dL_law_478 ⟨Nat.le_of_ble_eq_true rfl, Nat.le_of_ble_eq_true rfl⟩ (fun H locs O => ?_)
  refine W.eq (g2 := F0 m 481 ls [.int r]) rfl ?_
  refine lv_aload_n hx hb dL_law_481 rfl (lv_at hl 1 rfl) ?_
  refine lv_aload_n hx hb dL_law_482 rfl (lv_at hl 3 rfl) ?_
  refine lv_iload_n hx hb dL_law_483 rfl (lv_at hl 0 rfl) ?_
  refine lv_iconst (v := (1 : Int32)) hx hb dL_law_484 (by decide) ?_
  refine lv_iadd hx hb dL_law_485 ?_
  refine xr_scr X O hX hz hbl (j := 6 * n + 1) (nI_add (6 * n) 1) (by omega) hL dL_law_486 ?_
  refine xr_callVR (rest := [.int r]) X O (T_X12_minutes l κ 164 (xs (6 * n + 1)) M1 r M2 h2) lk_L_51 hc2 ⟨Nat.le_of_ble_eq_true rfl, Nat.le_of_ble_eq_true rfl⟩ rfl hl.1 rfl (Nat.le_of_ble_eq_true rfl) dL_law_487 ⟨Nat.le_of_ble_eq_true rfl, Nat.le_of_ble_eq_true rfl⟩ (fun H locs O => ?_)
  refine W.eq (g2 := F0 m 490 ls [.int r, .int r]) rfl ?_
  refine lv_icmp_eq (tgt := 1434) hx hb dL_law_490 (by decide) (fun _ => ?_) (fun hc => absurd rfl hc)
  exact kk M2 hI H locs ls O hl
set_option maxRecDepth 100000 in
set_option maxHeartbeats 4000000 in
theorem lw_case_raise {p : Program} {e : Env} {s : State} {m : MethodId} {below : List Frame} {meth : Method} {c : Code} (l : Launch) {b L : Nat} {xs : Nat → Int32} {κ : xQ} (X : xX p s m #[Value.ref b] c code 4 RL κ) (hX : va_X b L xs s s.heap) (hz : κ.1 = s.heap.size) (hbl : b < s.heap.size) (hL : L ≤ 3072) {INV : Nat → xM → Prop} (S : ∀ (a1 : Int32), xSim INV (F_X11_raise 0 a1) (F_X12_raise 164 a1)) (n : Nat) (hn : 6 * n + 6 ≤ L) (M : xM) (hI : INV n M)
    (kk : ∀ (M : xM), INV (n + 1) M → ∀ (H : Heap) (locs : List Loc) (ls : Array Slot), xO κ s M H locs → lv_has ls 4 [(3, .int (nI (6 * n))), (2, .ref (κ.1 + 164)), (1, .ref (κ.1 + 0)), (0, .ref b)] → W p l e room_1 s m #[Value.ref b] below meth c H locs 185 17741 (lw_Z below #[Value.ref b] s) (F0 m 1434 ls []))
    (H : Heap) (locs : List Loc) (ls : Array Slot) (O : xO κ s M H locs) (hl : lv_has ls 4 [(3, .int (nI (6 * n))), (2, .ref (κ.1 + 164)), (1, .ref (κ.1 + 0)), (0, .ref b)]) : W p l e room_1 s m #[Value.ref b] below meth c H locs 185 17741 (lw_Z below #[Value.ref b] s) (F0 m 495 ls []) := by
  have hx := X.1
  have hb := X.2.1
  obtain ⟨r, M1, M2, h1, h2, hc1, hc2, hI⟩ := S (xs (6 * n + 1)) n M (by omega) hI
  refine lv_aload_n hx hb dL_law_495 rfl (lv_at hl 2 rfl) ?_
  refine lv_aload_n hx hb dL_law_496 rfl (lv_at hl 3 rfl) ?_
  refine lv_iload_n hx hb dL_law_497 rfl (lv_at hl 0 rfl) ?_
  refine lv_iconst (v := (1 : Int32)) hx hb dL_law_498 (by decide) ?_
  refine lv_iadd hx hb dL_law_499 ?_
  refine xr_scr X O hX hz hbl (j := 6 * n + 1) (nI_add (6 * n) 1) (by omega) hL dL_law_500 ?_
  refine xr_callVR (rest := []) X O (T_X11_raise l κ 0 (xs (6 * n + 1)) M r M1 h1) lk_L_52 hc1 ⟨Nat.le_of_ble_eq_true rfl, Nat.le_of_ble_eq_true rfl⟩ rfl hl.1 rfl (Nat.le_of_ble_eq_true rfl) dL_law_501 ⟨Nat.le_of_ble_eq_true rfl, Nat.le_of_ble_eq_true rfl⟩ (fun H locs O => ?_)
  refine W.eq (g2 := F0 m 504 ls [.int r]) rfl ?_
  refine lv_aload_n hx hb dL_law_504 rfl (lv_at hl 1 rfl) ?_
  refine lv_aload_n hx hb dL_law_505 rfl (lv_at hl 3 rfl) ?_
  refine lv_iload_n hx hb dL_law_506 rfl (lv_at hl 0 rfl) ?_
  refine lv_iconst (v := (1 : Int32)) hx hb dL_law_507 (by decide) ?_
  refine lv_iadd hx hb dL_law_508 ?_
  refine xr_scr X O hX hz hbl (j := 6 * n + 1) (nI_add (6 * n) 1) (by omega) hL dL_law_509 ?_
  refine xr_callVR (rest := [.int r]) X O (T_X12_raise l κ 164 (xs (6 * n + 1)) M1 r M2 h2) lk_L_55 hc2 ⟨Nat.le_of_ble_eq_true rfl, Nat.le_of_ble_eq_true rfl⟩ rfl hl.1 rfl (Nat.le_of_ble_eq_true rfl) dL_law_510 ⟨Nat.le_of_ble_eq_true rfl, Nat.le_of_ble_eq_true rfl⟩ (fun H locs O => ?_)
  refine W.eq (g2 := F0 m 513 ls [.int r, .int r]) rfl ?_
  refine lv_icmp_eq (tgt := 1434) hx hb dL_law_513 (by decide) (fun _ => ?_) (fun hc => absurd rfl hc)
  exact kk M2 hI H locs ls O hl
set_option maxRecDepth 100000 in
set_option maxHeartbeats 4000000 in
theorem lw_case_dig {p : Program} {e : Env} {s : State} {m : MethodId} {below : List Frame} {meth : Method} {c : Code} (l : Launch) {b L : Nat} {xs : Nat → Int32} {κ : xQ} (X : xX p s m #[Value.ref b] c code 4 RL κ) (hX : va_X b L xs s s.heap) (hz : κ.1 = s.heap.size) (hbl : b < s.heap.size) (hL : L ≤ 3072) {INV : Nat → xM → Prop} (S : ∀ (a1 : Int32), xSim INV (F_X11_dig 0 a1) (F_X12_dig 164 a1)) (n : Nat) (hn : 6 * n + 6 ≤ L) (M : xM) (hI : INV n M)
    (kk : ∀ (M : xM), INV (n + 1) M → ∀ (H : Heap) (locs : List Loc) (ls : Array Slot), xO κ s M H locs → lv_has ls 4 [(3, .int (nI (6 * n))), (2, .ref (κ.1 + 164)), (1, .ref (κ.1 + 0)), (0, .ref b)] → W p l e room_1 s m #[Value.ref b] below meth c H locs 185 17741 (lw_Z below #[Value.ref b] s) (F0 m 1434 ls []))
    (H : Heap) (locs : List Loc) (ls : Array Slot) (O : xO κ s M H locs) (hl : lv_has ls 4 [(3, .int (nI (6 * n))), (2, .ref (κ.1 + 164)), (1, .ref (κ.1 + 0)), (0, .ref b)]) : W p l e room_1 s m #[Value.ref b] below meth c H locs 185 17741 (lw_Z below #[Value.ref b] s) (F0 m 518 ls []) := by
  have hx := X.1
  have hb := X.2.1
  obtain ⟨r, M1, M2, h1, h2, hc1, hc2, hI⟩ := S (xs (6 * n + 1)) n M (by omega) hI
  refine lv_aload_n hx hb dL_law_518 rfl (lv_at hl 2 rfl) ?_
  refine lv_aload_n hx hb dL_law_519 rfl (lv_at hl 3 rfl) ?_
  refine lv_iload_n hx hb dL_law_520 rfl (lv_at hl 0 rfl) ?_
  refine lv_iconst (v := (1 : Int32)) hx hb dL_law_521 (by decide) ?_
  refine lv_iadd hx hb dL_law_522 ?_
  refine xr_scr X O hX hz hbl (j := 6 * n + 1) (nI_add (6 * n) 1) (by omega) hL dL_law_523 ?_
  refine xr_callVR (rest := []) X O (T_X11_dig l κ 0 (xs (6 * n + 1)) M r M1 h1) lk_L_56 hc1 ⟨Nat.le_of_ble_eq_true rfl, Nat.le_of_ble_eq_true rfl⟩ rfl hl.1 rfl (Nat.le_of_ble_eq_true rfl) dL_law_524 ⟨Nat.le_of_ble_eq_true rfl, Nat.le_of_ble_eq_true rfl⟩ (fun H locs O => ?_)
  refine W.eq (g2 := F0 m 527 ls [.int r]) rfl ?_
  refine lv_aload_n hx hb dL_law_527 rfl (lv_at hl 1 rfl) ?_
  refine lv_aload_n hx hb dL_law_528 rfl (lv_at hl 3 rfl) ?_
  refine lv_iload_n hx hb dL_law_529 rfl (lv_at hl 0 rfl) ?_
  refine lv_iconst (v := (1 : Int32)) hx hb dL_law_530 (by decide) ?_
  refine lv_iadd hx hb dL_law_531 ?_
  refine xr_scr X O hX hz hbl (j := 6 * n + 1) (nI_add (6 * n) 1) (by omega) hL dL_law_532 ?_
  refine xr_callVR (rest := [.int r]) X O (T_X12_dig l κ 164 (xs (6 * n + 1)) M1 r M2 h2) lk_L_59 hc2 ⟨Nat.le_of_ble_eq_true rfl, Nat.le_of_ble_eq_true rfl⟩ rfl hl.1 rfl (Nat.le_of_ble_eq_true rfl) dL_law_533 ⟨Nat.le_of_ble_eq_true rfl, Nat.le_of_ble_eq_true rfl⟩ (fun H locs O => ?_)
  refine W.eq (g2 := F0 m 536 ls [.int r, .int r]) rfl ?_
  refine lv_icmp_eq (tgt := 1434) hx hb dL_law_536 (by decide) (fun _ => ?_) (fun hc => absurd rfl hc)
  exact kk M2 hI H locs ls O hl
set_option maxRecDepth 100000 in
set_option maxHeartbeats 4000000 in
theorem lw_case_build {p : Program} {e : Env} {s : State} {m : MethodId} {below : List Frame} {meth : Method} {c : Code} (l : Launch) {b L : Nat} {xs : Nat → Int32} {κ : xQ} (X : xX p s m #[Value.ref b] c code 4 RL κ) (hX : va_X b L xs s s.heap) (hz : κ.1 = s.heap.size) (hbl : b < s.heap.size) (hL : L ≤ 3072) {INV : Nat → xM → Prop} (S : ∀ (a1 : Int32) (a2 : Int32), xSim INV (F_X11_build 0 a1 a2) (F_X12_build 164 a1 a2)) (n : Nat) (hn : 6 * n + 6 ≤ L) (M : xM) (hI : INV n M)
    (kk : ∀ (M : xM), INV (n + 1) M → ∀ (H : Heap) (locs : List Loc) (ls : Array Slot), xO κ s M H locs → lv_has ls 4 [(3, .int (nI (6 * n))), (2, .ref (κ.1 + 164)), (1, .ref (κ.1 + 0)), (0, .ref b)] → W p l e room_1 s m #[Value.ref b] below meth c H locs 185 17741 (lw_Z below #[Value.ref b] s) (F0 m 1434 ls []))
    (H : Heap) (locs : List Loc) (ls : Array Slot) (O : xO κ s M H locs) (hl : lv_has ls 4 [(3, .int (nI (6 * n))), (2, .ref (κ.1 + 164)), (1, .ref (κ.1 + 0)), (0, .ref b)]) : W p l e room_1 s m #[Value.ref b] below meth c H locs 185 17741 (lw_Z below #[Value.ref b] s) (F0 m 541 ls []) := by
  have hx := X.1
  have hb := X.2.1
  obtain ⟨r, M1, M2, h1, h2, hc1, hc2, hI⟩ := S (xs (6 * n + 1)) (xs (6 * n + 2)) n M (by omega) hI
  refine lv_aload_n hx hb dL_law_541 rfl (lv_at hl 2 rfl) ?_
  refine lv_aload_n hx hb dL_law_542 rfl (lv_at hl 3 rfl) ?_
  refine lv_iload_n hx hb dL_law_543 rfl (lv_at hl 0 rfl) ?_
  refine lv_iconst (v := (1 : Int32)) hx hb dL_law_544 (by decide) ?_
  refine lv_iadd hx hb dL_law_545 ?_
  refine xr_scr X O hX hz hbl (j := 6 * n + 1) (nI_add (6 * n) 1) (by omega) hL dL_law_546 ?_
  refine lv_aload_n hx hb dL_law_547 rfl (lv_at hl 3 rfl) ?_
  refine lv_iload_n hx hb dL_law_548 rfl (lv_at hl 0 rfl) ?_
  refine lv_iconst (v := (2 : Int32)) hx hb dL_law_549 (by decide) ?_
  refine lv_iadd hx hb dL_law_550 ?_
  refine xr_scr X O hX hz hbl (j := 6 * n + 2) (nI_add (6 * n) 2) (by omega) hL dL_law_551 ?_
  refine xr_callVR (rest := []) X O (T_X11_build l κ 0 (xs (6 * n + 1)) (xs (6 * n + 2)) M r M1 h1) lk_L_60 hc1 ⟨Nat.le_of_ble_eq_true rfl, Nat.le_of_ble_eq_true rfl⟩ rfl hl.1 rfl (Nat.le_of_ble_eq_true rfl) dL_law_552 ⟨Nat.le_of_ble_eq_true rfl, Nat.le_of_ble_eq_true rfl⟩ (fun H locs O => ?_)
  refine W.eq (g2 := F0 m 555 ls [.int r]) rfl ?_
  refine lv_aload_n hx hb dL_law_555 rfl (lv_at hl 1 rfl) ?_
  refine lv_aload_n hx hb dL_law_556 rfl (lv_at hl 3 rfl) ?_
  refine lv_iload_n hx hb dL_law_557 rfl (lv_at hl 0 rfl) ?_
  refine lv_iconst (v := (1 : Int32)) hx hb dL_law_558 (by decide) ?_
  refine lv_iadd hx hb dL_law_559 ?_
  refine xr_scr X O hX hz hbl (j := 6 * n + 1) (nI_add (6 * n) 1) (by omega) hL dL_law_560 ?_
  refine lv_aload_n hx hb dL_law_561 rfl (lv_at hl 3 rfl) ?_
  refine lv_iload_n hx hb dL_law_562 rfl (lv_at hl 0 rfl) ?_
  refine lv_iconst (v := (2 : Int32)) hx hb dL_law_563 (by decide) ?_
  refine lv_iadd hx hb dL_law_564 ?_
  refine xr_scr X O hX hz hbl (j := 6 * n + 2) (nI_add (6 * n) 2) (by omega) hL dL_law_565 ?_
  refine xr_callVR (rest := [.int r]) X O (T_X12_build l κ 164 (xs (6 * n + 1)) (xs (6 * n + 2)) M1 r M2 h2) lk_L_63 hc2 ⟨Nat.le_of_ble_eq_true rfl, Nat.le_of_ble_eq_true rfl⟩ rfl hl.1 rfl (Nat.le_of_ble_eq_true rfl) dL_law_566 ⟨Nat.le_of_ble_eq_true rfl, Nat.le_of_ble_eq_true rfl⟩ (fun H locs O => ?_)
  refine W.eq (g2 := F0 m 569 ls [.int r, .int r]) rfl ?_
  refine lv_icmp_eq (tgt := 1434) hx hb dL_law_569 (by decide) (fun _ => ?_) (fun hc => absurd rfl hc)
  exact kk M2 hI H locs ls O hl
set_option maxRecDepth 100000 in
set_option maxHeartbeats 4000000 in
theorem lw_case_moon {p : Program} {e : Env} {s : State} {m : MethodId} {below : List Frame} {meth : Method} {c : Code} (l : Launch) {b L : Nat} {xs : Nat → Int32} {κ : xQ} (X : xX p s m #[Value.ref b] c code 4 RL κ) (hX : va_X b L xs s s.heap) (hz : κ.1 = s.heap.size) (hbl : b < s.heap.size) (hL : L ≤ 3072) {INV : Nat → xM → Prop} (S : ∀ (a1 : Int32), xSim INV (F_X11_moon 0 a1) (F_X12_moon 164 a1)) (n : Nat) (hn : 6 * n + 6 ≤ L) (M : xM) (hI : INV n M)
    (kk : ∀ (M : xM), INV (n + 1) M → ∀ (H : Heap) (locs : List Loc) (ls : Array Slot), xO κ s M H locs → lv_has ls 4 [(3, .int (nI (6 * n))), (2, .ref (κ.1 + 164)), (1, .ref (κ.1 + 0)), (0, .ref b)] → W p l e room_1 s m #[Value.ref b] below meth c H locs 185 17741 (lw_Z below #[Value.ref b] s) (F0 m 1434 ls []))
    (H : Heap) (locs : List Loc) (ls : Array Slot) (O : xO κ s M H locs) (hl : lv_has ls 4 [(3, .int (nI (6 * n))), (2, .ref (κ.1 + 164)), (1, .ref (κ.1 + 0)), (0, .ref b)]) : W p l e room_1 s m #[Value.ref b] below meth c H locs 185 17741 (lw_Z below #[Value.ref b] s) (F0 m 574 ls []) := by
  have hx := X.1
  have hb := X.2.1
  obtain ⟨r, M1, M2, h1, h2, hc1, hc2, hI⟩ := S (xs (6 * n + 1)) n M (by omega) hI
  refine lv_aload_n hx hb dL_law_574 rfl (lv_at hl 2 rfl) ?_
  refine lv_aload_n hx hb dL_law_575 rfl (lv_at hl 3 rfl) ?_
  refine lv_iload_n hx hb dL_law_576 rfl (lv_at hl 0 rfl) ?_
  refine lv_iconst (v := (1 : Int32)) hx hb dL_law_577 (by decide) ?_
  refine lv_iadd hx hb dL_law_578 ?_
  refine xr_scr X O hX hz hbl (j := 6 * n + 1) (nI_add (6 * n) 1) (by omega) hL dL_law_579 ?_
  refine xr_callVR (rest := []) X O (T_X11_moon l κ 0 (xs (6 * n + 1)) M r M1 h1) lk_L_64 hc1 ⟨Nat.le_of_ble_eq_true rfl, Nat.le_of_ble_eq_true rfl⟩ rfl hl.1 rfl (Nat.le_of_ble_eq_true rfl) dL_law_580 ⟨Nat.le_of_ble_eq_true rfl, Nat.le_of_ble_eq_true rfl⟩ (fun H locs O => ?_)
  refine W.eq (g2 := F0 m 583 ls [.int r]) rfl ?_
  refine lv_aload_n hx hb dL_law_583 rfl (lv_at hl 1 rfl) ?_
  refine lv_aload_n hx hb dL_law_584 rfl (lv_at hl 3 rfl) ?_
  refine lv_iload_n hx hb dL_law_585 rfl (lv_at hl 0 rfl) ?_
  refine lv_iconst (v := (1 : Int32)) hx hb dL_law_586 (by decide) ?_
  refine lv_iadd hx hb dL_law_587 ?_
  refine xr_scr X O hX hz hbl (j := 6 * n + 1) (nI_add (6 * n) 1) (by omega) hL dL_law_588 ?_
  refine xr_callVR (rest := [.int r]) X O (T_X12_moon l κ 164 (xs (6 * n + 1)) M1 r M2 h2) lk_L_67 hc2 ⟨Nat.le_of_ble_eq_true rfl, Nat.le_of_ble_eq_true rfl⟩ rfl hl.1 rfl (Nat.le_of_ble_eq_true rfl) dL_law_589 ⟨Nat.le_of_ble_eq_true rfl, Nat.le_of_ble_eq_true rfl⟩ (fun H locs O => ?_)
  refine W.eq (g2 := F0 m 592 ls [.int r, .int r]) rfl ?_
  refine lv_icmp_eq (tgt := 1434) hx hb dL_law_592 (by decide) (fun _ => ?_) (fun hc => absurd rfl hc)
  exact kk M2 hI H locs ls O hl
set_option maxRecDepth 100000 in
set_option maxHeartbeats 4000000 in
theorem lw_case_undo {p : Program} {e : Env} {s : State} {m : MethodId} {below : List Frame} {meth : Method} {c : Code} (l : Launch) {b L : Nat} {xs : Nat → Int32} {κ : xQ} (X : xX p s m #[Value.ref b] c code 4 RL κ) (hX : va_X b L xs s s.heap) (hz : κ.1 = s.heap.size) (hbl : b < s.heap.size) (hL : L ≤ 3072) {INV : Nat → xM → Prop} (S : ∀ (a1 : Int32), xSim INV (F_X11_undo 0 a1) (F_X12_undo 164 a1)) (n : Nat) (hn : 6 * n + 6 ≤ L) (M : xM) (hI : INV n M)
    (kk : ∀ (M : xM), INV (n + 1) M → ∀ (H : Heap) (locs : List Loc) (ls : Array Slot), xO κ s M H locs → lv_has ls 4 [(3, .int (nI (6 * n))), (2, .ref (κ.1 + 164)), (1, .ref (κ.1 + 0)), (0, .ref b)] → W p l e room_1 s m #[Value.ref b] below meth c H locs 185 17741 (lw_Z below #[Value.ref b] s) (F0 m 1434 ls []))
    (H : Heap) (locs : List Loc) (ls : Array Slot) (O : xO κ s M H locs) (hl : lv_has ls 4 [(3, .int (nI (6 * n))), (2, .ref (κ.1 + 164)), (1, .ref (κ.1 + 0)), (0, .ref b)]) : W p l e room_1 s m #[Value.ref b] below meth c H locs 185 17741 (lw_Z below #[Value.ref b] s) (F0 m 597 ls []) := by
  have hx := X.1
  have hb := X.2.1
  obtain ⟨r, M1, M2, h1, h2, hc1, hc2, hI⟩ := S (xs (6 * n + 1)) n M (by omega) hI
  refine lv_aload_n hx hb dL_law_597 rfl (lv_at hl 2 rfl) ?_
  refine lv_aload_n hx hb dL_law_598 rfl (lv_at hl 3 rfl) ?_
  refine lv_iload_n hx hb dL_law_599 rfl (lv_at hl 0 rfl) ?_
  refine lv_iconst (v := (1 : Int32)) hx hb dL_law_600 (by decide) ?_
  refine lv_iadd hx hb dL_law_601 ?_
  refine xr_scr X O hX hz hbl (j := 6 * n + 1) (nI_add (6 * n) 1) (by omega) hL dL_law_602 ?_
  refine xr_callVR (rest := []) X O (T_X11_undo l κ 0 (xs (6 * n + 1)) M r M1 h1) lk_L_68 hc1 ⟨Nat.le_of_ble_eq_true rfl, Nat.le_of_ble_eq_true rfl⟩ rfl hl.1 rfl (Nat.le_of_ble_eq_true rfl) dL_law_603 ⟨Nat.le_of_ble_eq_true rfl, Nat.le_of_ble_eq_true rfl⟩ (fun H locs O => ?_)
  refine W.eq (g2 := F0 m 606 ls [.int r]) rfl ?_
  refine lv_aload_n hx hb dL_law_606 rfl (lv_at hl 1 rfl) ?_
  refine lv_aload_n hx hb dL_law_607 rfl (lv_at hl 3 rfl) ?_
  refine lv_iload_n hx hb dL_law_608 rfl (lv_at hl 0 rfl) ?_
  refine lv_iconst (v := (1 : Int32)) hx hb dL_law_609 (by decide) ?_
  refine lv_iadd hx hb dL_law_610 ?_
  refine xr_scr X O hX hz hbl (j := 6 * n + 1) (nI_add (6 * n) 1) (by omega) hL dL_law_611 ?_
  refine xr_callVR (rest := [.int r]) X O (T_X12_undo l κ 164 (xs (6 * n + 1)) M1 r M2 h2) lk_L_71 hc2 ⟨Nat.le_of_ble_eq_true rfl, Nat.le_of_ble_eq_true rfl⟩ rfl hl.1 rfl (Nat.le_of_ble_eq_true rfl) dL_law_612 ⟨Nat.le_of_ble_eq_true rfl, Nat.le_of_ble_eq_true rfl⟩ (fun H locs O => ?_)
  refine W.eq (g2 := F0 m 615 ls [.int r, .int r]) rfl ?_
  refine lv_icmp_eq (tgt := 1434) hx hb dL_law_615 (by decide) (fun _ => ?_) (fun hc => absurd rfl hc)
  exact kk M2 hI H locs ls O hl
set_option maxRecDepth 100000 in
set_option maxHeartbeats 4000000 in
theorem lw_case_judge {p : Program} {e : Env} {s : State} {m : MethodId} {below : List Frame} {meth : Method} {c : Code} (l : Launch) {b L : Nat} {xs : Nat → Int32} {κ : xQ} (X : xX p s m #[Value.ref b] c code 4 RL κ) (hX : va_X b L xs s s.heap) (hz : κ.1 = s.heap.size) (hbl : b < s.heap.size) (hL : L ≤ 3072) {INV : Nat → xM → Prop} (S : ∀ (a1 : Int32) (a2 : Int32), xSim INV (F_X11_judge 0 a1 a2) (F_X12_judge 164 a1 a2)) (n : Nat) (hn : 6 * n + 6 ≤ L) (M : xM) (hI : INV n M)
    (kk : ∀ (M : xM), INV (n + 1) M → ∀ (H : Heap) (locs : List Loc) (ls : Array Slot), xO κ s M H locs → lv_has ls 4 [(3, .int (nI (6 * n))), (2, .ref (κ.1 + 164)), (1, .ref (κ.1 + 0)), (0, .ref b)] → W p l e room_1 s m #[Value.ref b] below meth c H locs 185 17741 (lw_Z below #[Value.ref b] s) (F0 m 1434 ls []))
    (H : Heap) (locs : List Loc) (ls : Array Slot) (O : xO κ s M H locs) (hl : lv_has ls 4 [(3, .int (nI (6 * n))), (2, .ref (κ.1 + 164)), (1, .ref (κ.1 + 0)), (0, .ref b)]) : W p l e room_1 s m #[Value.ref b] below meth c H locs 185 17741 (lw_Z below #[Value.ref b] s) (F0 m 620 ls []) := by
  have hx := X.1
  have hb := X.2.1
  obtain ⟨r, M1, M2, h1, h2, hc1, hc2, hI⟩ := S (xs (6 * n + 1)) (xs (6 * n + 2)) n M (by omega) hI
  refine lv_aload_n hx hb dL_law_620 rfl (lv_at hl 2 rfl) ?_
  refine lv_aload_n hx hb dL_law_621 rfl (lv_at hl 3 rfl) ?_
  refine lv_iload_n hx hb dL_law_622 rfl (lv_at hl 0 rfl) ?_
  refine lv_iconst (v := (1 : Int32)) hx hb dL_law_623 (by decide) ?_
  refine lv_iadd hx hb dL_law_624 ?_
  refine xr_scr X O hX hz hbl (j := 6 * n + 1) (nI_add (6 * n) 1) (by omega) hL dL_law_625 ?_
  refine lv_aload_n hx hb dL_law_626 rfl (lv_at hl 3 rfl) ?_
  refine lv_iload_n hx hb dL_law_627 rfl (lv_at hl 0 rfl) ?_
  refine lv_iconst (v := (2 : Int32)) hx hb dL_law_628 (by decide) ?_
  refine lv_iadd hx hb dL_law_629 ?_
  refine xr_scr X O hX hz hbl (j := 6 * n + 2) (nI_add (6 * n) 2) (by omega) hL dL_law_630 ?_
  refine xr_callVR (rest := []) X O (T_X11_judge l κ 0 (xs (6 * n + 1)) (xs (6 * n + 2)) M r M1 h1) lk_L_72 hc1 ⟨Nat.le_of_ble_eq_true rfl, Nat.le_of_ble_eq_true rfl⟩ rfl hl.1 rfl (Nat.le_of_ble_eq_true rfl) dL_law_631 ⟨Nat.le_of_ble_eq_true rfl, Nat.le_of_ble_eq_true rfl⟩ (fun H locs O => ?_)
  refine W.eq (g2 := F0 m 634 ls [.int r]) rfl ?_
  refine lv_aload_n hx hb dL_law_634 rfl (lv_at hl 1 rfl) ?_
  refine lv_aload_n hx hb dL_law_635 rfl (lv_at hl 3 rfl) ?_
  refine lv_iload_n hx hb dL_law_636 rfl (lv_at hl 0 rfl) ?_
  refine lv_iconst (v := (1 : Int32)) hx hb dL_law_637 (by decide) ?_
  refine lv_iadd hx hb dL_law_638 ?_
  refine xr_scr X O hX hz hbl (j := 6 * n + 1) (nI_add (6 * n) 1) (by omega) hL dL_law_639 ?_
  refine lv_aload_n hx hb dL_law_640 rfl (lv_at hl 3 rfl) ?_
  refine lv_iload_n hx hb dL_law_641 rfl (lv_at hl 0 rfl) ?_
  refine lv_iconst (v := (2 : Int32)) hx hb dL_law_642 (by decide) ?_
  refine lv_iadd hx hb dL_law_643 ?_
  refine xr_scr X O hX hz hbl (j := 6 * n + 2) (nI_add (6 * n) 2) (by omega) hL dL_law_644 ?_
  refine xr_callVR (rest := [.int r]) X O (T_X12_judge l κ 164 (xs (6 * n + 1)) (xs (6 * n + 2)) M1 r M2 h2) lk_L_75 hc2 ⟨Nat.le_of_ble_eq_true rfl, Nat.le_of_ble_eq_true rfl⟩ rfl hl.1 rfl (Nat.le_of_ble_eq_true rfl) dL_law_645 ⟨Nat.le_of_ble_eq_true rfl, Nat.le_of_ble_eq_true rfl⟩ (fun H locs O => ?_)
  refine W.eq (g2 := F0 m 648 ls [.int r, .int r]) rfl ?_
  refine lv_icmp_eq (tgt := 1434) hx hb dL_law_648 (by decide) (fun _ => ?_) (fun hc => absurd rfl hc)
  exact kk M2 hI H locs ls O hl
set_option maxRecDepth 100000 in
set_option maxHeartbeats 4000000 in
theorem lw_case_perform {p : Program} {e : Env} {s : State} {m : MethodId} {below : List Frame} {meth : Method} {c : Code} (l : Launch) {b L : Nat} {xs : Nat → Int32} {κ : xQ} (X : xX p s m #[Value.ref b] c code 4 RL κ) (hX : va_X b L xs s s.heap) (hz : κ.1 = s.heap.size) (hbl : b < s.heap.size) (hL : L ≤ 3072) {INV : Nat → xM → Prop} (S : ∀ (a1 : Int32), xSim INV (F_X11_perform 0 a1) (F_X12_perform 164 a1)) (n : Nat) (hn : 6 * n + 6 ≤ L) (M : xM) (hI : INV n M)
    (kk : ∀ (M : xM), INV (n + 1) M → ∀ (H : Heap) (locs : List Loc) (ls : Array Slot), xO κ s M H locs → lv_has ls 4 [(3, .int (nI (6 * n))), (2, .ref (κ.1 + 164)), (1, .ref (κ.1 + 0)), (0, .ref b)] → W p l e room_1 s m #[Value.ref b] below meth c H locs 185 17741 (lw_Z below #[Value.ref b] s) (F0 m 1434 ls []))
    (H : Heap) (locs : List Loc) (ls : Array Slot) (O : xO κ s M H locs) (hl : lv_has ls 4 [(3, .int (nI (6 * n))), (2, .ref (κ.1 + 164)), (1, .ref (κ.1 + 0)), (0, .ref b)]) : W p l e room_1 s m #[Value.ref b] below meth c H locs 185 17741 (lw_Z below #[Value.ref b] s) (F0 m 653 ls []) := by
  have hx := X.1
  have hb := X.2.1
  obtain ⟨r, M1, M2, h1, h2, hc1, hc2, hI⟩ := S (xs (6 * n + 1)) n M (by omega) hI
  refine lv_aload_n hx hb dL_law_653 rfl (lv_at hl 2 rfl) ?_
  refine lv_aload_n hx hb dL_law_654 rfl (lv_at hl 3 rfl) ?_
  refine lv_iload_n hx hb dL_law_655 rfl (lv_at hl 0 rfl) ?_
  refine lv_iconst (v := (1 : Int32)) hx hb dL_law_656 (by decide) ?_
  refine lv_iadd hx hb dL_law_657 ?_
  refine xr_scr X O hX hz hbl (j := 6 * n + 1) (nI_add (6 * n) 1) (by omega) hL dL_law_658 ?_
  refine xr_callVR (rest := []) X O (T_X11_perform l κ 0 (xs (6 * n + 1)) M r M1 h1) lk_L_76 hc1 ⟨Nat.le_of_ble_eq_true rfl, Nat.le_of_ble_eq_true rfl⟩ rfl hl.1 rfl (Nat.le_of_ble_eq_true rfl) dL_law_659 ⟨Nat.le_of_ble_eq_true rfl, Nat.le_of_ble_eq_true rfl⟩ (fun H locs O => ?_)
  refine W.eq (g2 := F0 m 662 ls [.int r]) rfl ?_
  refine lv_aload_n hx hb dL_law_662 rfl (lv_at hl 1 rfl) ?_
  refine lv_aload_n hx hb dL_law_663 rfl (lv_at hl 3 rfl) ?_
  refine lv_iload_n hx hb dL_law_664 rfl (lv_at hl 0 rfl) ?_
  refine lv_iconst (v := (1 : Int32)) hx hb dL_law_665 (by decide) ?_
  refine lv_iadd hx hb dL_law_666 ?_
  refine xr_scr X O hX hz hbl (j := 6 * n + 1) (nI_add (6 * n) 1) (by omega) hL dL_law_667 ?_
  refine xr_callVR (rest := [.int r]) X O (T_X12_perform l κ 164 (xs (6 * n + 1)) M1 r M2 h2) lk_L_79 hc2 ⟨Nat.le_of_ble_eq_true rfl, Nat.le_of_ble_eq_true rfl⟩ rfl hl.1 rfl (Nat.le_of_ble_eq_true rfl) dL_law_668 ⟨Nat.le_of_ble_eq_true rfl, Nat.le_of_ble_eq_true rfl⟩ (fun H locs O => ?_)
  refine W.eq (g2 := F0 m 671 ls [.int r, .int r]) rfl ?_
  refine lv_icmp_eq (tgt := 1434) hx hb dL_law_671 (by decide) (fun _ => ?_) (fun hc => absurd rfl hc)
  exact kk M2 hI H locs ls O hl
set_option maxRecDepth 100000 in
set_option maxHeartbeats 4000000 in
theorem lw_case_day {p : Program} {e : Env} {s : State} {m : MethodId} {below : List Frame} {meth : Method} {c : Code} (l : Launch) {b L : Nat} {xs : Nat → Int32} {κ : xQ} (X : xX p s m #[Value.ref b] c code 4 RL κ) (hX : va_X b L xs s s.heap) (hz : κ.1 = s.heap.size) (hbl : b < s.heap.size) (hL : L ≤ 3072) {INV : Nat → xM → Prop} (S : ∀ (a1 : Int32) (a2 : Int32), xSim INV (F_X11_day 0 a1 a2) (F_X12_day 164 a1 a2)) (n : Nat) (hn : 6 * n + 6 ≤ L) (M : xM) (hI : INV n M)
    (kk : ∀ (M : xM), INV (n + 1) M → ∀ (H : Heap) (locs : List Loc) (ls : Array Slot), xO κ s M H locs → lv_has ls 4 [(3, .int (nI (6 * n))), (2, .ref (κ.1 + 164)), (1, .ref (κ.1 + 0)), (0, .ref b)] → W p l e room_1 s m #[Value.ref b] below meth c H locs 185 17741 (lw_Z below #[Value.ref b] s) (F0 m 1434 ls []))
    (H : Heap) (locs : List Loc) (ls : Array Slot) (O : xO κ s M H locs) (hl : lv_has ls 4 [(3, .int (nI (6 * n))), (2, .ref (κ.1 + 164)), (1, .ref (κ.1 + 0)), (0, .ref b)]) : W p l e room_1 s m #[Value.ref b] below meth c H locs 185 17741 (lw_Z below #[Value.ref b] s) (F0 m 676 ls []) := by
  have hx := X.1
  have hb := X.2.1
  obtain ⟨r, M1, M2, h1, h2, hc1, hc2, hI⟩ := S (xs (6 * n + 1)) (xs (6 * n + 2)) n M (by omega) hI
  refine lv_aload_n hx hb dL_law_676 rfl (lv_at hl 2 rfl) ?_
  refine lv_aload_n hx hb dL_law_677 rfl (lv_at hl 3 rfl) ?_
  refine lv_iload_n hx hb dL_law_678 rfl (lv_at hl 0 rfl) ?_
  refine lv_iconst (v := (1 : Int32)) hx hb dL_law_679 (by decide) ?_
  refine lv_iadd hx hb dL_law_680 ?_
  refine xr_scr X O hX hz hbl (j := 6 * n + 1) (nI_add (6 * n) 1) (by omega) hL dL_law_681 ?_
  refine lv_aload_n hx hb dL_law_682 rfl (lv_at hl 3 rfl) ?_
  refine lv_iload_n hx hb dL_law_683 rfl (lv_at hl 0 rfl) ?_
  refine lv_iconst (v := (2 : Int32)) hx hb dL_law_684 (by decide) ?_
  refine lv_iadd hx hb dL_law_685 ?_
  refine xr_scr X O hX hz hbl (j := 6 * n + 2) (nI_add (6 * n) 2) (by omega) hL dL_law_686 ?_
  refine xr_callVR (rest := []) X O (T_X11_day l κ 0 (xs (6 * n + 1)) (xs (6 * n + 2)) M r M1 h1) lk_L_80 hc1 ⟨Nat.le_of_ble_eq_true rfl, Nat.le_of_ble_eq_true rfl⟩ rfl hl.1 rfl (Nat.le_of_ble_eq_true rfl) dL_law_687 ⟨Nat.le_of_ble_eq_true rfl, Nat.le_of_ble_eq_true rfl⟩ (fun H locs O => ?_)
  refine W.eq (g2 := F0 m 690 ls [.int r]) rfl ?_
  refine lv_aload_n hx hb dL_law_690 rfl (lv_at hl 1 rfl) ?_
  refine lv_aload_n hx hb dL_law_691 rfl (lv_at hl 3 rfl) ?_
  refine lv_iload_n hx hb dL_law_692 rfl (lv_at hl 0 rfl) ?_
  refine lv_iconst (v := (1 : Int32)) hx hb dL_law_693 (by decide) ?_
  refine lv_iadd hx hb dL_law_694 ?_
  refine xr_scr X O hX hz hbl (j := 6 * n + 1) (nI_add (6 * n) 1) (by omega) hL dL_law_695 ?_
  refine lv_aload_n hx hb dL_law_696 rfl (lv_at hl 3 rfl) ?_
  refine lv_iload_n hx hb dL_law_697 rfl (lv_at hl 0 rfl) ?_
  refine lv_iconst (v := (2 : Int32)) hx hb dL_law_698 (by decide) ?_
  refine lv_iadd hx hb dL_law_699 ?_
  refine xr_scr X O hX hz hbl (j := 6 * n + 2) (nI_add (6 * n) 2) (by omega) hL dL_law_700 ?_
  refine xr_callVR (rest := [.int r]) X O (T_X12_day l κ 164 (xs (6 * n + 1)) (xs (6 * n + 2)) M1 r M2 h2) lk_L_83 hc2 ⟨Nat.le_of_ble_eq_true rfl, Nat.le_of_ble_eq_true rfl⟩ rfl hl.1 rfl (Nat.le_of_ble_eq_true rfl) dL_law_701 ⟨Nat.le_of_ble_eq_true rfl, Nat.le_of_ble_eq_true rfl⟩ (fun H locs O => ?_)
  refine W.eq (g2 := F0 m 704 ls [.int r, .int r]) rfl ?_
  refine lv_icmp_eq (tgt := 1434) hx hb dL_law_704 (by decide) (fun _ => ?_) (fun hc => absurd rfl hc)
  exact kk M2 hI H locs ls O hl
set_option maxRecDepth 100000 in
set_option maxHeartbeats 4000000 in
theorem lw_case_falls {p : Program} {e : Env} {s : State} {m : MethodId} {below : List Frame} {meth : Method} {c : Code} (l : Launch) {b L : Nat} {xs : Nat → Int32} {κ : xQ} (X : xX p s m #[Value.ref b] c code 4 RL κ) (hX : va_X b L xs s s.heap) (hz : κ.1 = s.heap.size) (hbl : b < s.heap.size) (hL : L ≤ 3072) {INV : Nat → xM → Prop} (S : ∀ (a1 : Int32), xSim INV (F_X11_falls 0 a1) (F_X12_falls 164 a1)) (n : Nat) (hn : 6 * n + 6 ≤ L) (M : xM) (hI : INV n M)
    (kk : ∀ (M : xM), INV (n + 1) M → ∀ (H : Heap) (locs : List Loc) (ls : Array Slot), xO κ s M H locs → lv_has ls 4 [(3, .int (nI (6 * n))), (2, .ref (κ.1 + 164)), (1, .ref (κ.1 + 0)), (0, .ref b)] → W p l e room_1 s m #[Value.ref b] below meth c H locs 185 17741 (lw_Z below #[Value.ref b] s) (F0 m 1434 ls []))
    (H : Heap) (locs : List Loc) (ls : Array Slot) (O : xO κ s M H locs) (hl : lv_has ls 4 [(3, .int (nI (6 * n))), (2, .ref (κ.1 + 164)), (1, .ref (κ.1 + 0)), (0, .ref b)]) : W p l e room_1 s m #[Value.ref b] below meth c H locs 185 17741 (lw_Z below #[Value.ref b] s) (F0 m 709 ls []) := by
  have hx := X.1
  have hb := X.2.1
  obtain ⟨r, M1, M2, h1, h2, hc1, hc2, hI⟩ := S (xs (6 * n + 1)) n M (by omega) hI
  refine lv_aload_n hx hb dL_law_709 rfl (lv_at hl 2 rfl) ?_
  refine lv_aload_n hx hb dL_law_710 rfl (lv_at hl 3 rfl) ?_
  refine lv_iload_n hx hb dL_law_711 rfl (lv_at hl 0 rfl) ?_
  refine lv_iconst (v := (1 : Int32)) hx hb dL_law_712 (by decide) ?_
  refine lv_iadd hx hb dL_law_713 ?_
  refine xr_scr X O hX hz hbl (j := 6 * n + 1) (nI_add (6 * n) 1) (by omega) hL dL_law_714 ?_
  refine xr_callVR (rest := []) X O (T_X11_falls l κ 0 (xs (6 * n + 1)) M r M1 h1) lk_L_84 hc1 ⟨Nat.le_of_ble_eq_true rfl, Nat.le_of_ble_eq_true rfl⟩ rfl hl.1 rfl (Nat.le_of_ble_eq_true rfl) dL_law_715 ⟨Nat.le_of_ble_eq_true rfl, Nat.le_of_ble_eq_true rfl⟩ (fun H locs O => ?_)
  refine W.eq (g2 := F0 m 718 ls [.int r]) rfl ?_
  refine lv_aload_n hx hb dL_law_718 rfl (lv_at hl 1 rfl) ?_
  refine lv_aload_n hx hb dL_law_719 rfl (lv_at hl 3 rfl) ?_
  refine lv_iload_n hx hb dL_law_720 rfl (lv_at hl 0 rfl) ?_
  refine lv_iconst (v := (1 : Int32)) hx hb dL_law_721 (by decide) ?_
  refine lv_iadd hx hb dL_law_722 ?_
  refine xr_scr X O hX hz hbl (j := 6 * n + 1) (nI_add (6 * n) 1) (by omega) hL dL_law_723 ?_
  refine xr_callVR (rest := [.int r]) X O (T_X12_falls l κ 164 (xs (6 * n + 1)) M1 r M2 h2) lk_L_87 hc2 ⟨Nat.le_of_ble_eq_true rfl, Nat.le_of_ble_eq_true rfl⟩ rfl hl.1 rfl (Nat.le_of_ble_eq_true rfl) dL_law_724 ⟨Nat.le_of_ble_eq_true rfl, Nat.le_of_ble_eq_true rfl⟩ (fun H locs O => ?_)
  refine W.eq (g2 := F0 m 727 ls [.int r, .int r]) rfl ?_
  refine lv_icmp_eq (tgt := 1434) hx hb dL_law_727 (by decide) (fun _ => ?_) (fun hc => absurd rfl hc)
  exact kk M2 hI H locs ls O hl
set_option maxRecDepth 100000 in
set_option maxHeartbeats 4000000 in
theorem lw_case_stands {p : Program} {e : Env} {s : State} {m : MethodId} {below : List Frame} {meth : Method} {c : Code} (l : Launch) {b L : Nat} {xs : Nat → Int32} {κ : xQ} (X : xX p s m #[Value.ref b] c code 4 RL κ) (hX : va_X b L xs s s.heap) (hz : κ.1 = s.heap.size) (hbl : b < s.heap.size) (hL : L ≤ 3072) {INV : Nat → xM → Prop} (S : ∀ (a1 : Int32), xSim INV (F_X11_stands 0 a1) (F_X12_stands 164 a1)) (n : Nat) (hn : 6 * n + 6 ≤ L) (M : xM) (hI : INV n M)
    (kk : ∀ (M : xM), INV (n + 1) M → ∀ (H : Heap) (locs : List Loc) (ls : Array Slot), xO κ s M H locs → lv_has ls 4 [(3, .int (nI (6 * n))), (2, .ref (κ.1 + 164)), (1, .ref (κ.1 + 0)), (0, .ref b)] → W p l e room_1 s m #[Value.ref b] below meth c H locs 185 17741 (lw_Z below #[Value.ref b] s) (F0 m 1434 ls []))
    (H : Heap) (locs : List Loc) (ls : Array Slot) (O : xO κ s M H locs) (hl : lv_has ls 4 [(3, .int (nI (6 * n))), (2, .ref (κ.1 + 164)), (1, .ref (κ.1 + 0)), (0, .ref b)]) : W p l e room_1 s m #[Value.ref b] below meth c H locs 185 17741 (lw_Z below #[Value.ref b] s) (F0 m 732 ls []) := by
  have hx := X.1
  have hb := X.2.1
  obtain ⟨r, M1, M2, h1, h2, hc1, hc2, hI⟩ := S (xs (6 * n + 1)) n M (by omega) hI
  refine lv_aload_n hx hb dL_law_732 rfl (lv_at hl 2 rfl) ?_
  refine lv_aload_n hx hb dL_law_733 rfl (lv_at hl 3 rfl) ?_
  refine lv_iload_n hx hb dL_law_734 rfl (lv_at hl 0 rfl) ?_
  refine lv_iconst (v := (1 : Int32)) hx hb dL_law_735 (by decide) ?_
  refine lv_iadd hx hb dL_law_736 ?_
  refine xr_scr X O hX hz hbl (j := 6 * n + 1) (nI_add (6 * n) 1) (by omega) hL dL_law_737 ?_
  refine xr_callVR (rest := []) X O (T_X11_stands l κ 0 (xs (6 * n + 1)) M r M1 h1) lk_L_88 hc1 ⟨Nat.le_of_ble_eq_true rfl, Nat.le_of_ble_eq_true rfl⟩ rfl hl.1 rfl (Nat.le_of_ble_eq_true rfl) dL_law_738 ⟨Nat.le_of_ble_eq_true rfl, Nat.le_of_ble_eq_true rfl⟩ (fun H locs O => ?_)
  refine W.eq (g2 := F0 m 741 ls [.int r]) rfl ?_
  refine lv_aload_n hx hb dL_law_741 rfl (lv_at hl 1 rfl) ?_
  refine lv_aload_n hx hb dL_law_742 rfl (lv_at hl 3 rfl) ?_
  refine lv_iload_n hx hb dL_law_743 rfl (lv_at hl 0 rfl) ?_
  refine lv_iconst (v := (1 : Int32)) hx hb dL_law_744 (by decide) ?_
  refine lv_iadd hx hb dL_law_745 ?_
  refine xr_scr X O hX hz hbl (j := 6 * n + 1) (nI_add (6 * n) 1) (by omega) hL dL_law_746 ?_
  refine xr_callVR (rest := [.int r]) X O (T_X12_stands l κ 164 (xs (6 * n + 1)) M1 r M2 h2) lk_L_91 hc2 ⟨Nat.le_of_ble_eq_true rfl, Nat.le_of_ble_eq_true rfl⟩ rfl hl.1 rfl (Nat.le_of_ble_eq_true rfl) dL_law_747 ⟨Nat.le_of_ble_eq_true rfl, Nat.le_of_ble_eq_true rfl⟩ (fun H locs O => ?_)
  refine W.eq (g2 := F0 m 750 ls [.int r, .int r]) rfl ?_
  refine lv_icmp_eq (tgt := 1434) hx hb dL_law_750 (by decide) (fun _ => ?_) (fun hc => absurd rfl hc)
  exact kk M2 hI H locs ls O hl
set_option maxRecDepth 100000 in
set_option maxHeartbeats 4000000 in
theorem lw_case_when {p : Program} {e : Env} {s : State} {m : MethodId} {below : List Frame} {meth : Method} {c : Code} (l : Launch) {b L : Nat} {xs : Nat → Int32} {κ : xQ} (X : xX p s m #[Value.ref b] c code 4 RL κ) (hX : va_X b L xs s s.heap) (hz : κ.1 = s.heap.size) (hbl : b < s.heap.size) (hL : L ≤ 3072) {INV : Nat → xM → Prop} (S : ∀ (a1 : Int32), xSim INV (F_X11_when 0 a1) (F_X12_when 164 a1)) (n : Nat) (hn : 6 * n + 6 ≤ L) (M : xM) (hI : INV n M)
    (kk : ∀ (M : xM), INV (n + 1) M → ∀ (H : Heap) (locs : List Loc) (ls : Array Slot), xO κ s M H locs → lv_has ls 4 [(3, .int (nI (6 * n))), (2, .ref (κ.1 + 164)), (1, .ref (κ.1 + 0)), (0, .ref b)] → W p l e room_1 s m #[Value.ref b] below meth c H locs 185 17741 (lw_Z below #[Value.ref b] s) (F0 m 1434 ls []))
    (H : Heap) (locs : List Loc) (ls : Array Slot) (O : xO κ s M H locs) (hl : lv_has ls 4 [(3, .int (nI (6 * n))), (2, .ref (κ.1 + 164)), (1, .ref (κ.1 + 0)), (0, .ref b)]) : W p l e room_1 s m #[Value.ref b] below meth c H locs 185 17741 (lw_Z below #[Value.ref b] s) (F0 m 755 ls []) := by
  have hx := X.1
  have hb := X.2.1
  obtain ⟨r, M1, M2, h1, h2, hc1, hc2, hI⟩ := S (xs (6 * n + 1)) n M (by omega) hI
  refine lv_aload_n hx hb dL_law_755 rfl (lv_at hl 2 rfl) ?_
  refine lv_aload_n hx hb dL_law_756 rfl (lv_at hl 3 rfl) ?_
  refine lv_iload_n hx hb dL_law_757 rfl (lv_at hl 0 rfl) ?_
  refine lv_iconst (v := (1 : Int32)) hx hb dL_law_758 (by decide) ?_
  refine lv_iadd hx hb dL_law_759 ?_
  refine xr_scr X O hX hz hbl (j := 6 * n + 1) (nI_add (6 * n) 1) (by omega) hL dL_law_760 ?_
  refine xr_callVR (rest := []) X O (T_X11_when l κ 0 (xs (6 * n + 1)) M r M1 h1) lk_L_92 hc1 ⟨Nat.le_of_ble_eq_true rfl, Nat.le_of_ble_eq_true rfl⟩ rfl hl.1 rfl (Nat.le_of_ble_eq_true rfl) dL_law_761 ⟨Nat.le_of_ble_eq_true rfl, Nat.le_of_ble_eq_true rfl⟩ (fun H locs O => ?_)
  refine W.eq (g2 := F0 m 764 ls [.int r]) rfl ?_
  refine lv_aload_n hx hb dL_law_764 rfl (lv_at hl 1 rfl) ?_
  refine lv_aload_n hx hb dL_law_765 rfl (lv_at hl 3 rfl) ?_
  refine lv_iload_n hx hb dL_law_766 rfl (lv_at hl 0 rfl) ?_
  refine lv_iconst (v := (1 : Int32)) hx hb dL_law_767 (by decide) ?_
  refine lv_iadd hx hb dL_law_768 ?_
  refine xr_scr X O hX hz hbl (j := 6 * n + 1) (nI_add (6 * n) 1) (by omega) hL dL_law_769 ?_
  refine xr_callVR (rest := [.int r]) X O (T_X12_when l κ 164 (xs (6 * n + 1)) M1 r M2 h2) lk_L_95 hc2 ⟨Nat.le_of_ble_eq_true rfl, Nat.le_of_ble_eq_true rfl⟩ rfl hl.1 rfl (Nat.le_of_ble_eq_true rfl) dL_law_770 ⟨Nat.le_of_ble_eq_true rfl, Nat.le_of_ble_eq_true rfl⟩ (fun H locs O => ?_)
  refine W.eq (g2 := F0 m 773 ls [.int r, .int r]) rfl ?_
  refine lv_icmp_eq (tgt := 1434) hx hb dL_law_773 (by decide) (fun _ => ?_) (fun hc => absurd rfl hc)
  exact kk M2 hI H locs ls O hl
set_option maxRecDepth 100000 in
set_option maxHeartbeats 4000000 in
theorem lw_case_worn {p : Program} {e : Env} {s : State} {m : MethodId} {below : List Frame} {meth : Method} {c : Code} (l : Launch) {b L : Nat} {xs : Nat → Int32} {κ : xQ} (X : xX p s m #[Value.ref b] c code 4 RL κ) (hX : va_X b L xs s s.heap) (hz : κ.1 = s.heap.size) (hbl : b < s.heap.size) (hL : L ≤ 3072) {INV : Nat → xM → Prop} (S : ∀ (a1 : Int32) (a2 : Int32), xSim INV (F_X11_worn 0 a1 a2) (F_X12_worn 164 a1 a2)) (n : Nat) (hn : 6 * n + 6 ≤ L) (M : xM) (hI : INV n M)
    (kk : ∀ (M : xM), INV (n + 1) M → ∀ (H : Heap) (locs : List Loc) (ls : Array Slot), xO κ s M H locs → lv_has ls 4 [(3, .int (nI (6 * n))), (2, .ref (κ.1 + 164)), (1, .ref (κ.1 + 0)), (0, .ref b)] → W p l e room_1 s m #[Value.ref b] below meth c H locs 185 17741 (lw_Z below #[Value.ref b] s) (F0 m 1434 ls []))
    (H : Heap) (locs : List Loc) (ls : Array Slot) (O : xO κ s M H locs) (hl : lv_has ls 4 [(3, .int (nI (6 * n))), (2, .ref (κ.1 + 164)), (1, .ref (κ.1 + 0)), (0, .ref b)]) : W p l e room_1 s m #[Value.ref b] below meth c H locs 185 17741 (lw_Z below #[Value.ref b] s) (F0 m 778 ls []) := by
  have hx := X.1
  have hb := X.2.1
  obtain ⟨r, M1, M2, h1, h2, hc1, hc2, hI⟩ := S (xs (6 * n + 1)) (xs (6 * n + 2)) n M (by omega) hI
  refine lv_aload_n hx hb dL_law_778 rfl (lv_at hl 2 rfl) ?_
  refine lv_aload_n hx hb dL_law_779 rfl (lv_at hl 3 rfl) ?_
  refine lv_iload_n hx hb dL_law_780 rfl (lv_at hl 0 rfl) ?_
  refine lv_iconst (v := (1 : Int32)) hx hb dL_law_781 (by decide) ?_
  refine lv_iadd hx hb dL_law_782 ?_
  refine xr_scr X O hX hz hbl (j := 6 * n + 1) (nI_add (6 * n) 1) (by omega) hL dL_law_783 ?_
  refine lv_aload_n hx hb dL_law_784 rfl (lv_at hl 3 rfl) ?_
  refine lv_iload_n hx hb dL_law_785 rfl (lv_at hl 0 rfl) ?_
  refine lv_iconst (v := (2 : Int32)) hx hb dL_law_786 (by decide) ?_
  refine lv_iadd hx hb dL_law_787 ?_
  refine xr_scr X O hX hz hbl (j := 6 * n + 2) (nI_add (6 * n) 2) (by omega) hL dL_law_788 ?_
  refine xr_callVR (rest := []) X O (T_X11_worn l κ 0 (xs (6 * n + 1)) (xs (6 * n + 2)) M r M1 h1) lk_L_96 hc1 ⟨Nat.le_of_ble_eq_true rfl, Nat.le_of_ble_eq_true rfl⟩ rfl hl.1 rfl (Nat.le_of_ble_eq_true rfl) dL_law_789 ⟨Nat.le_of_ble_eq_true rfl, Nat.le_of_ble_eq_true rfl⟩ (fun H locs O => ?_)
  refine W.eq (g2 := F0 m 792 ls [.int r]) rfl ?_
  refine lv_aload_n hx hb dL_law_792 rfl (lv_at hl 1 rfl) ?_
  refine lv_aload_n hx hb dL_law_793 rfl (lv_at hl 3 rfl) ?_
  refine lv_iload_n hx hb dL_law_794 rfl (lv_at hl 0 rfl) ?_
  refine lv_iconst (v := (1 : Int32)) hx hb dL_law_795 (by decide) ?_
  refine lv_iadd hx hb dL_law_796 ?_
  refine xr_scr X O hX hz hbl (j := 6 * n + 1) (nI_add (6 * n) 1) (by omega) hL dL_law_797 ?_
  refine lv_aload_n hx hb dL_law_798 rfl (lv_at hl 3 rfl) ?_
  refine lv_iload_n hx hb dL_law_799 rfl (lv_at hl 0 rfl) ?_
  refine lv_iconst (v := (2 : Int32)) hx hb dL_law_800 (by decide) ?_
  refine lv_iadd hx hb dL_law_801 ?_
  refine xr_scr X O hX hz hbl (j := 6 * n + 2) (nI_add (6 * n) 2) (by omega) hL dL_law_802 ?_
  refine xr_callVR (rest := [.int r]) X O (T_X12_worn l κ 164 (xs (6 * n + 1)) (xs (6 * n + 2)) M1 r M2 h2) lk_L_99 hc2 ⟨Nat.le_of_ble_eq_true rfl, Nat.le_of_ble_eq_true rfl⟩ rfl hl.1 rfl (Nat.le_of_ble_eq_true rfl) dL_law_803 ⟨Nat.le_of_ble_eq_true rfl, Nat.le_of_ble_eq_true rfl⟩ (fun H locs O => ?_)
  refine W.eq (g2 := F0 m 806 ls [.int r, .int r]) rfl ?_
  refine lv_icmp_eq (tgt := 1434) hx hb dL_law_806 (by decide) (fun _ => ?_) (fun hc => absurd rfl hc)
  exact kk M2 hI H locs ls O hl
set_option maxRecDepth 100000 in
set_option maxHeartbeats 4000000 in
theorem lw_case_last {p : Program} {e : Env} {s : State} {m : MethodId} {below : List Frame} {meth : Method} {c : Code} (l : Launch) {b L : Nat} {xs : Nat → Int32} {κ : xQ} (X : xX p s m #[Value.ref b] c code 4 RL κ) (hX : va_X b L xs s s.heap) (hz : κ.1 = s.heap.size) (hbl : b < s.heap.size) (hL : L ≤ 3072) {INV : Nat → xM → Prop} (S : xSim INV (F_X11_last 0 ) (F_X12_last 164 )) (n : Nat) (hn : 6 * n + 6 ≤ L) (M : xM) (hI : INV n M)
    (kk : ∀ (M : xM), INV (n + 1) M → ∀ (H : Heap) (locs : List Loc) (ls : Array Slot), xO κ s M H locs → lv_has ls 4 [(3, .int (nI (6 * n))), (2, .ref (κ.1 + 164)), (1, .ref (κ.1 + 0)), (0, .ref b)] → W p l e room_1 s m #[Value.ref b] below meth c H locs 185 17741 (lw_Z below #[Value.ref b] s) (F0 m 1434 ls []))
    (H : Heap) (locs : List Loc) (ls : Array Slot) (O : xO κ s M H locs) (hl : lv_has ls 4 [(3, .int (nI (6 * n))), (2, .ref (κ.1 + 164)), (1, .ref (κ.1 + 0)), (0, .ref b)]) : W p l e room_1 s m #[Value.ref b] below meth c H locs 185 17741 (lw_Z below #[Value.ref b] s) (F0 m 811 ls []) := by
  have hx := X.1
  have hb := X.2.1
  obtain ⟨r, M1, M2, h1, h2, hc1, hc2, hI⟩ := S  n M (by omega) hI
  refine lv_aload_n hx hb dL_law_811 rfl (lv_at hl 2 rfl) ?_
  refine xr_callVR (rest := []) X O (T_X11_last l κ 0  M r M1 h1) lk_L_100 hc1 ⟨Nat.le_of_ble_eq_true rfl, Nat.le_of_ble_eq_true rfl⟩ rfl hl.1 rfl (Nat.le_of_ble_eq_true rfl) dL_law_812 ⟨Nat.le_of_ble_eq_true rfl, Nat.le_of_ble_eq_true rfl⟩ (fun H locs O => ?_)
  refine W.eq (g2 := F0 m 815 ls [.int r]) rfl ?_
  refine lv_aload_n hx hb dL_law_815 rfl (lv_at hl 1 rfl) ?_
  refine xr_callVR (rest := [.int r]) X O (T_X12_last l κ 164  M1 r M2 h2) lk_L_104 hc2 ⟨Nat.le_of_ble_eq_true rfl, Nat.le_of_ble_eq_true rfl⟩ rfl hl.1 rfl (Nat.le_of_ble_eq_true rfl) dL_law_816 ⟨Nat.le_of_ble_eq_true rfl, Nat.le_of_ble_eq_true rfl⟩ (fun H locs O => ?_)
  refine W.eq (g2 := F0 m 819 ls [.int r, .int r]) rfl ?_
  refine lv_icmp_eq (tgt := 1434) hx hb dL_law_819 (by decide) (fun _ => ?_) (fun hc => absurd rfl hc)
  exact kk M2 hI H locs ls O hl
set_option maxRecDepth 100000 in
set_option maxHeartbeats 4000000 in
theorem lw_case_owner {p : Program} {e : Env} {s : State} {m : MethodId} {below : List Frame} {meth : Method} {c : Code} (l : Launch) {b L : Nat} {xs : Nat → Int32} {κ : xQ} (X : xX p s m #[Value.ref b] c code 4 RL κ) (hX : va_X b L xs s s.heap) (hz : κ.1 = s.heap.size) (hbl : b < s.heap.size) (hL : L ≤ 3072) {INV : Nat → xM → Prop} (S : ∀ (a1 : Int32), xSim INV (F_X11_owner 0 a1) (F_X12_owner 164 a1)) (n : Nat) (hn : 6 * n + 6 ≤ L) (M : xM) (hI : INV n M)
    (kk : ∀ (M : xM), INV (n + 1) M → ∀ (H : Heap) (locs : List Loc) (ls : Array Slot), xO κ s M H locs → lv_has ls 4 [(3, .int (nI (6 * n))), (2, .ref (κ.1 + 164)), (1, .ref (κ.1 + 0)), (0, .ref b)] → W p l e room_1 s m #[Value.ref b] below meth c H locs 185 17741 (lw_Z below #[Value.ref b] s) (F0 m 1434 ls []))
    (H : Heap) (locs : List Loc) (ls : Array Slot) (O : xO κ s M H locs) (hl : lv_has ls 4 [(3, .int (nI (6 * n))), (2, .ref (κ.1 + 164)), (1, .ref (κ.1 + 0)), (0, .ref b)]) : W p l e room_1 s m #[Value.ref b] below meth c H locs 185 17741 (lw_Z below #[Value.ref b] s) (F0 m 824 ls []) := by
  have hx := X.1
  have hb := X.2.1
  obtain ⟨r, M1, M2, h1, h2, hc1, hc2, hI⟩ := S (xs (6 * n + 1)) n M (by omega) hI
  refine lv_aload_n hx hb dL_law_824 rfl (lv_at hl 2 rfl) ?_
  refine lv_aload_n hx hb dL_law_825 rfl (lv_at hl 3 rfl) ?_
  refine lv_iload_n hx hb dL_law_826 rfl (lv_at hl 0 rfl) ?_
  refine lv_iconst (v := (1 : Int32)) hx hb dL_law_827 (by decide) ?_
  refine lv_iadd hx hb dL_law_828 ?_
  refine xr_scr X O hX hz hbl (j := 6 * n + 1) (nI_add (6 * n) 1) (by omega) hL dL_law_829 ?_
  refine xr_callVR (rest := []) X O (T_X11_owner l κ 0 (xs (6 * n + 1)) M r M1 h1) lk_L_105 hc1 ⟨Nat.le_of_ble_eq_true rfl, Nat.le_of_ble_eq_true rfl⟩ rfl hl.1 rfl (Nat.le_of_ble_eq_true rfl) dL_law_830 ⟨Nat.le_of_ble_eq_true rfl, Nat.le_of_ble_eq_true rfl⟩ (fun H locs O => ?_)
  refine W.eq (g2 := F0 m 833 ls [.int r]) rfl ?_
  refine lv_aload_n hx hb dL_law_833 rfl (lv_at hl 1 rfl) ?_
  refine lv_aload_n hx hb dL_law_834 rfl (lv_at hl 3 rfl) ?_
  refine lv_iload_n hx hb dL_law_835 rfl (lv_at hl 0 rfl) ?_
  refine lv_iconst (v := (1 : Int32)) hx hb dL_law_836 (by decide) ?_
  refine lv_iadd hx hb dL_law_837 ?_
  refine xr_scr X O hX hz hbl (j := 6 * n + 1) (nI_add (6 * n) 1) (by omega) hL dL_law_838 ?_
  refine xr_callVR (rest := [.int r]) X O (T_X12_owner l κ 164 (xs (6 * n + 1)) M1 r M2 h2) lk_L_108 hc2 ⟨Nat.le_of_ble_eq_true rfl, Nat.le_of_ble_eq_true rfl⟩ rfl hl.1 rfl (Nat.le_of_ble_eq_true rfl) dL_law_839 ⟨Nat.le_of_ble_eq_true rfl, Nat.le_of_ble_eq_true rfl⟩ (fun H locs O => ?_)
  refine W.eq (g2 := F0 m 842 ls [.int r, .int r]) rfl ?_
  refine lv_icmp_eq (tgt := 1434) hx hb dL_law_842 (by decide) (fun _ => ?_) (fun hc => absurd rfl hc)
  exact kk M2 hI H locs ls O hl
set_option maxRecDepth 100000 in
set_option maxHeartbeats 4000000 in
theorem lw_case_least {p : Program} {e : Env} {s : State} {m : MethodId} {below : List Frame} {meth : Method} {c : Code} (l : Launch) {b L : Nat} {xs : Nat → Int32} {κ : xQ} (X : xX p s m #[Value.ref b] c code 4 RL κ) (hX : va_X b L xs s s.heap) (hz : κ.1 = s.heap.size) (hbl : b < s.heap.size) (hL : L ≤ 3072) {INV : Nat → xM → Prop} (S : ∀ (a1 : Int32) (a2 : Int32), xSim INV (F_X11_least 0 a1 a2) (F_X12_least 164 a1 a2)) (n : Nat) (hn : 6 * n + 6 ≤ L) (M : xM) (hI : INV n M)
    (kk : ∀ (M : xM), INV (n + 1) M → ∀ (H : Heap) (locs : List Loc) (ls : Array Slot), xO κ s M H locs → lv_has ls 4 [(3, .int (nI (6 * n))), (2, .ref (κ.1 + 164)), (1, .ref (κ.1 + 0)), (0, .ref b)] → W p l e room_1 s m #[Value.ref b] below meth c H locs 185 17741 (lw_Z below #[Value.ref b] s) (F0 m 1434 ls []))
    (H : Heap) (locs : List Loc) (ls : Array Slot) (O : xO κ s M H locs) (hl : lv_has ls 4 [(3, .int (nI (6 * n))), (2, .ref (κ.1 + 164)), (1, .ref (κ.1 + 0)), (0, .ref b)]) : W p l e room_1 s m #[Value.ref b] below meth c H locs 185 17741 (lw_Z below #[Value.ref b] s) (F0 m 847 ls []) := by
  have hx := X.1
  have hb := X.2.1
  obtain ⟨r, M1, M2, h1, h2, hc1, hc2, hI⟩ := S (xs (6 * n + 1)) (xs (6 * n + 2)) n M (by omega) hI
  refine lv_aload_n hx hb dL_law_847 rfl (lv_at hl 2 rfl) ?_
  refine lv_aload_n hx hb dL_law_848 rfl (lv_at hl 3 rfl) ?_
  refine lv_iload_n hx hb dL_law_849 rfl (lv_at hl 0 rfl) ?_
  refine lv_iconst (v := (1 : Int32)) hx hb dL_law_850 (by decide) ?_
  refine lv_iadd hx hb dL_law_851 ?_
  refine xr_scr X O hX hz hbl (j := 6 * n + 1) (nI_add (6 * n) 1) (by omega) hL dL_law_852 ?_
  refine lv_aload_n hx hb dL_law_853 rfl (lv_at hl 3 rfl) ?_
  refine lv_iload_n hx hb dL_law_854 rfl (lv_at hl 0 rfl) ?_
  refine lv_iconst (v := (2 : Int32)) hx hb dL_law_855 (by decide) ?_
  refine lv_iadd hx hb dL_law_856 ?_
  refine xr_scr X O hX hz hbl (j := 6 * n + 2) (nI_add (6 * n) 2) (by omega) hL dL_law_857 ?_
  refine xr_callVR (rest := []) X O (T_X11_least l κ 0 (xs (6 * n + 1)) (xs (6 * n + 2)) M r M1 h1) lk_L_109 hc1 ⟨Nat.le_of_ble_eq_true rfl, Nat.le_of_ble_eq_true rfl⟩ rfl hl.1 rfl (Nat.le_of_ble_eq_true rfl) dL_law_858 ⟨Nat.le_of_ble_eq_true rfl, Nat.le_of_ble_eq_true rfl⟩ (fun H locs O => ?_)
  refine W.eq (g2 := F0 m 861 ls [.int r]) rfl ?_
  refine lv_aload_n hx hb dL_law_861 rfl (lv_at hl 1 rfl) ?_
  refine lv_aload_n hx hb dL_law_862 rfl (lv_at hl 3 rfl) ?_
  refine lv_iload_n hx hb dL_law_863 rfl (lv_at hl 0 rfl) ?_
  refine lv_iconst (v := (1 : Int32)) hx hb dL_law_864 (by decide) ?_
  refine lv_iadd hx hb dL_law_865 ?_
  refine xr_scr X O hX hz hbl (j := 6 * n + 1) (nI_add (6 * n) 1) (by omega) hL dL_law_866 ?_
  refine lv_aload_n hx hb dL_law_867 rfl (lv_at hl 3 rfl) ?_
  refine lv_iload_n hx hb dL_law_868 rfl (lv_at hl 0 rfl) ?_
  refine lv_iconst (v := (2 : Int32)) hx hb dL_law_869 (by decide) ?_
  refine lv_iadd hx hb dL_law_870 ?_
  refine xr_scr X O hX hz hbl (j := 6 * n + 2) (nI_add (6 * n) 2) (by omega) hL dL_law_871 ?_
  refine xr_callVR (rest := [.int r]) X O (T_X12_least l κ 164 (xs (6 * n + 1)) (xs (6 * n + 2)) M1 r M2 h2) lk_L_112 hc2 ⟨Nat.le_of_ble_eq_true rfl, Nat.le_of_ble_eq_true rfl⟩ rfl hl.1 rfl (Nat.le_of_ble_eq_true rfl) dL_law_872 ⟨Nat.le_of_ble_eq_true rfl, Nat.le_of_ble_eq_true rfl⟩ (fun H locs O => ?_)
  refine W.eq (g2 := F0 m 875 ls [.int r, .int r]) rfl ?_
  refine lv_icmp_eq (tgt := 1434) hx hb dL_law_875 (by decide) (fun _ => ?_) (fun hc => absurd rfl hc)
  exact kk M2 hI H locs ls O hl
set_option maxRecDepth 100000 in
set_option maxHeartbeats 4000000 in
theorem lw_case_safe {p : Program} {e : Env} {s : State} {m : MethodId} {below : List Frame} {meth : Method} {c : Code} (l : Launch) {b L : Nat} {xs : Nat → Int32} {κ : xQ} (X : xX p s m #[Value.ref b] c code 4 RL κ) (hX : va_X b L xs s s.heap) (hz : κ.1 = s.heap.size) (hbl : b < s.heap.size) (hL : L ≤ 3072) {INV : Nat → xM → Prop} (S : ∀ (a1 : Int32), xSim INV (F_X11_safe 0 a1) (F_X12_safe 164 a1)) (n : Nat) (hn : 6 * n + 6 ≤ L) (M : xM) (hI : INV n M)
    (kk : ∀ (M : xM), INV (n + 1) M → ∀ (H : Heap) (locs : List Loc) (ls : Array Slot), xO κ s M H locs → lv_has ls 4 [(3, .int (nI (6 * n))), (2, .ref (κ.1 + 164)), (1, .ref (κ.1 + 0)), (0, .ref b)] → W p l e room_1 s m #[Value.ref b] below meth c H locs 185 17741 (lw_Z below #[Value.ref b] s) (F0 m 1434 ls []))
    (H : Heap) (locs : List Loc) (ls : Array Slot) (O : xO κ s M H locs) (hl : lv_has ls 4 [(3, .int (nI (6 * n))), (2, .ref (κ.1 + 164)), (1, .ref (κ.1 + 0)), (0, .ref b)]) : W p l e room_1 s m #[Value.ref b] below meth c H locs 185 17741 (lw_Z below #[Value.ref b] s) (F0 m 880 ls []) := by
  have hx := X.1
  have hb := X.2.1
  obtain ⟨r, M1, M2, h1, h2, hc1, hc2, hI⟩ := S (xs (6 * n + 1)) n M (by omega) hI
  refine lv_aload_n hx hb dL_law_880 rfl (lv_at hl 2 rfl) ?_
  refine lv_aload_n hx hb dL_law_881 rfl (lv_at hl 3 rfl) ?_
  refine lv_iload_n hx hb dL_law_882 rfl (lv_at hl 0 rfl) ?_
  refine lv_iconst (v := (1 : Int32)) hx hb dL_law_883 (by decide) ?_
  refine lv_iadd hx hb dL_law_884 ?_
  refine xr_scr X O hX hz hbl (j := 6 * n + 1) (nI_add (6 * n) 1) (by omega) hL dL_law_885 ?_
  refine xr_callVR (rest := []) X O (T_X11_safe l κ 0 (xs (6 * n + 1)) M r M1 h1) lk_L_113 hc1 ⟨Nat.le_of_ble_eq_true rfl, Nat.le_of_ble_eq_true rfl⟩ rfl hl.1 rfl (Nat.le_of_ble_eq_true rfl) dL_law_886 ⟨Nat.le_of_ble_eq_true rfl, Nat.le_of_ble_eq_true rfl⟩ (fun H locs O => ?_)
  refine W.eq (g2 := F0 m 889 ls [.int r]) rfl ?_
  refine lv_aload_n hx hb dL_law_889 rfl (lv_at hl 1 rfl) ?_
  refine lv_aload_n hx hb dL_law_890 rfl (lv_at hl 3 rfl) ?_
  refine lv_iload_n hx hb dL_law_891 rfl (lv_at hl 0 rfl) ?_
  refine lv_iconst (v := (1 : Int32)) hx hb dL_law_892 (by decide) ?_
  refine lv_iadd hx hb dL_law_893 ?_
  refine xr_scr X O hX hz hbl (j := 6 * n + 1) (nI_add (6 * n) 1) (by omega) hL dL_law_894 ?_
  refine xr_callVR (rest := [.int r]) X O (T_X12_safe l κ 164 (xs (6 * n + 1)) M1 r M2 h2) lk_L_116 hc2 ⟨Nat.le_of_ble_eq_true rfl, Nat.le_of_ble_eq_true rfl⟩ rfl hl.1 rfl (Nat.le_of_ble_eq_true rfl) dL_law_895 ⟨Nat.le_of_ble_eq_true rfl, Nat.le_of_ble_eq_true rfl⟩ (fun H locs O => ?_)
  refine W.eq (g2 := F0 m 898 ls [.int r, .int r]) rfl ?_
  refine lv_icmp_eq (tgt := 1434) hx hb dL_law_898 (by decide) (fun _ => ?_) (fun hc => absurd rfl hc)
  exact kk M2 hI H locs ls O hl
set_option maxRecDepth 100000 in
set_option maxHeartbeats 4000000 in
theorem lw_case_worst {p : Program} {e : Env} {s : State} {m : MethodId} {below : List Frame} {meth : Method} {c : Code} (l : Launch) {b L : Nat} {xs : Nat → Int32} {κ : xQ} (X : xX p s m #[Value.ref b] c code 4 RL κ) (hX : va_X b L xs s s.heap) (hz : κ.1 = s.heap.size) (hbl : b < s.heap.size) (hL : L ≤ 3072) {INV : Nat → xM → Prop} (S : xSim INV (F_X11_worst 0 ) (F_X12_worst 164 )) (n : Nat) (hn : 6 * n + 6 ≤ L) (M : xM) (hI : INV n M)
    (kk : ∀ (M : xM), INV (n + 1) M → ∀ (H : Heap) (locs : List Loc) (ls : Array Slot), xO κ s M H locs → lv_has ls 4 [(3, .int (nI (6 * n))), (2, .ref (κ.1 + 164)), (1, .ref (κ.1 + 0)), (0, .ref b)] → W p l e room_1 s m #[Value.ref b] below meth c H locs 185 17741 (lw_Z below #[Value.ref b] s) (F0 m 1434 ls []))
    (H : Heap) (locs : List Loc) (ls : Array Slot) (O : xO κ s M H locs) (hl : lv_has ls 4 [(3, .int (nI (6 * n))), (2, .ref (κ.1 + 164)), (1, .ref (κ.1 + 0)), (0, .ref b)]) : W p l e room_1 s m #[Value.ref b] below meth c H locs 185 17741 (lw_Z below #[Value.ref b] s) (F0 m 903 ls []) := by
  have hx := X.1
  have hb := X.2.1
  obtain ⟨r, M1, M2, h1, h2, hc1, hc2, hI⟩ := S  n M (by omega) hI
  refine lv_aload_n hx hb dL_law_903 rfl (lv_at hl 2 rfl) ?_
  refine xr_callVR (rest := []) X O (T_X11_worst l κ 0  M r M1 h1) lk_L_117 hc1 ⟨Nat.le_of_ble_eq_true rfl, Nat.le_of_ble_eq_true rfl⟩ rfl hl.1 rfl (Nat.le_of_ble_eq_true rfl) dL_law_904 ⟨Nat.le_of_ble_eq_true rfl, Nat.le_of_ble_eq_true rfl⟩ (fun H locs O => ?_)
  refine W.eq (g2 := F0 m 907 ls [.int r]) rfl ?_
  refine lv_aload_n hx hb dL_law_907 rfl (lv_at hl 1 rfl) ?_
  refine xr_callVR (rest := [.int r]) X O (T_X12_worst l κ 164  M1 r M2 h2) lk_L_120 hc2 ⟨Nat.le_of_ble_eq_true rfl, Nat.le_of_ble_eq_true rfl⟩ rfl hl.1 rfl (Nat.le_of_ble_eq_true rfl) dL_law_908 ⟨Nat.le_of_ble_eq_true rfl, Nat.le_of_ble_eq_true rfl⟩ (fun H locs O => ?_)
  refine W.eq (g2 := F0 m 911 ls [.int r, .int r]) rfl ?_
  refine lv_icmp_eq (tgt := 1434) hx hb dL_law_911 (by decide) (fun _ => ?_) (fun hc => absurd rfl hc)
  exact kk M2 hI H locs ls O hl
set_option maxRecDepth 100000 in
set_option maxHeartbeats 4000000 in
theorem lw_case_plan {p : Program} {e : Env} {s : State} {m : MethodId} {below : List Frame} {meth : Method} {c : Code} (l : Launch) {b L : Nat} {xs : Nat → Int32} {κ : xQ} (X : xX p s m #[Value.ref b] c code 4 RL κ) (hX : va_X b L xs s s.heap) (hz : κ.1 = s.heap.size) (hbl : b < s.heap.size) (hL : L ≤ 3072) {INV : Nat → xM → Prop} (S : ∀ (a1 : Int32), xSim INV (F_X11_plan 0 a1) (F_X12_plan 164 a1)) (n : Nat) (hn : 6 * n + 6 ≤ L) (M : xM) (hI : INV n M)
    (kk : ∀ (M : xM), INV (n + 1) M → ∀ (H : Heap) (locs : List Loc) (ls : Array Slot), xO κ s M H locs → lv_has ls 4 [(3, .int (nI (6 * n))), (2, .ref (κ.1 + 164)), (1, .ref (κ.1 + 0)), (0, .ref b)] → W p l e room_1 s m #[Value.ref b] below meth c H locs 185 17741 (lw_Z below #[Value.ref b] s) (F0 m 1434 ls []))
    (H : Heap) (locs : List Loc) (ls : Array Slot) (O : xO κ s M H locs) (hl : lv_has ls 4 [(3, .int (nI (6 * n))), (2, .ref (κ.1 + 164)), (1, .ref (κ.1 + 0)), (0, .ref b)]) : W p l e room_1 s m #[Value.ref b] below meth c H locs 185 17741 (lw_Z below #[Value.ref b] s) (F0 m 916 ls []) := by
  have hx := X.1
  have hb := X.2.1
  obtain ⟨r, M1, M2, h1, h2, hc1, hc2, hI⟩ := S (xs (6 * n + 1)) n M (by omega) hI
  refine lv_aload_n hx hb dL_law_916 rfl (lv_at hl 2 rfl) ?_
  refine lv_aload_n hx hb dL_law_917 rfl (lv_at hl 3 rfl) ?_
  refine lv_iload_n hx hb dL_law_918 rfl (lv_at hl 0 rfl) ?_
  refine lv_iconst (v := (1 : Int32)) hx hb dL_law_919 (by decide) ?_
  refine lv_iadd hx hb dL_law_920 ?_
  refine xr_scr X O hX hz hbl (j := 6 * n + 1) (nI_add (6 * n) 1) (by omega) hL dL_law_921 ?_
  refine xr_callVR (rest := []) X O (T_X11_plan l κ 0 (xs (6 * n + 1)) M r M1 h1) lk_L_121 hc1 ⟨Nat.le_of_ble_eq_true rfl, Nat.le_of_ble_eq_true rfl⟩ rfl hl.1 rfl (Nat.le_of_ble_eq_true rfl) dL_law_922 ⟨Nat.le_of_ble_eq_true rfl, Nat.le_of_ble_eq_true rfl⟩ (fun H locs O => ?_)
  refine W.eq (g2 := F0 m 925 ls [.int r]) rfl ?_
  refine lv_aload_n hx hb dL_law_925 rfl (lv_at hl 1 rfl) ?_
  refine lv_aload_n hx hb dL_law_926 rfl (lv_at hl 3 rfl) ?_
  refine lv_iload_n hx hb dL_law_927 rfl (lv_at hl 0 rfl) ?_
  refine lv_iconst (v := (1 : Int32)) hx hb dL_law_928 (by decide) ?_
  refine lv_iadd hx hb dL_law_929 ?_
  refine xr_scr X O hX hz hbl (j := 6 * n + 1) (nI_add (6 * n) 1) (by omega) hL dL_law_930 ?_
  refine xr_callVR (rest := [.int r]) X O (T_X12_plan l κ 164 (xs (6 * n + 1)) M1 r M2 h2) lk_L_124 hc2 ⟨Nat.le_of_ble_eq_true rfl, Nat.le_of_ble_eq_true rfl⟩ rfl hl.1 rfl (Nat.le_of_ble_eq_true rfl) dL_law_931 ⟨Nat.le_of_ble_eq_true rfl, Nat.le_of_ble_eq_true rfl⟩ (fun H locs O => ?_)
  refine W.eq (g2 := F0 m 934 ls [.int r, .int r]) rfl ?_
  refine lv_icmp_eq (tgt := 1434) hx hb dL_law_934 (by decide) (fun _ => ?_) (fun hc => absurd rfl hc)
  exact kk M2 hI H locs ls O hl
set_option maxRecDepth 100000 in
set_option maxHeartbeats 4000000 in
theorem lw_case_order {p : Program} {e : Env} {s : State} {m : MethodId} {below : List Frame} {meth : Method} {c : Code} (l : Launch) {b L : Nat} {xs : Nat → Int32} {κ : xQ} (X : xX p s m #[Value.ref b] c code 4 RL κ) (hX : va_X b L xs s s.heap) (hz : κ.1 = s.heap.size) (hbl : b < s.heap.size) (hL : L ≤ 3072) {INV : Nat → xM → Prop} (S : ∀ (a1 : Int32), xSim INV (F_X11_order 0 a1) (F_X12_order 164 a1)) (n : Nat) (hn : 6 * n + 6 ≤ L) (M : xM) (hI : INV n M)
    (kk : ∀ (M : xM), INV (n + 1) M → ∀ (H : Heap) (locs : List Loc) (ls : Array Slot), xO κ s M H locs → lv_has ls 4 [(3, .int (nI (6 * n))), (2, .ref (κ.1 + 164)), (1, .ref (κ.1 + 0)), (0, .ref b)] → W p l e room_1 s m #[Value.ref b] below meth c H locs 185 17741 (lw_Z below #[Value.ref b] s) (F0 m 1434 ls []))
    (H : Heap) (locs : List Loc) (ls : Array Slot) (O : xO κ s M H locs) (hl : lv_has ls 4 [(3, .int (nI (6 * n))), (2, .ref (κ.1 + 164)), (1, .ref (κ.1 + 0)), (0, .ref b)]) : W p l e room_1 s m #[Value.ref b] below meth c H locs 185 17741 (lw_Z below #[Value.ref b] s) (F0 m 939 ls []) := by
  have hx := X.1
  have hb := X.2.1
  obtain ⟨r, M1, M2, h1, h2, hc1, hc2, hI⟩ := S (xs (6 * n + 1)) n M (by omega) hI
  refine lv_aload_n hx hb dL_law_939 rfl (lv_at hl 2 rfl) ?_
  refine lv_aload_n hx hb dL_law_940 rfl (lv_at hl 3 rfl) ?_
  refine lv_iload_n hx hb dL_law_941 rfl (lv_at hl 0 rfl) ?_
  refine lv_iconst (v := (1 : Int32)) hx hb dL_law_942 (by decide) ?_
  refine lv_iadd hx hb dL_law_943 ?_
  refine xr_scr X O hX hz hbl (j := 6 * n + 1) (nI_add (6 * n) 1) (by omega) hL dL_law_944 ?_
  refine xr_callVR (rest := []) X O (T_X11_order l κ 0 (xs (6 * n + 1)) M r M1 h1) lk_L_125 hc1 ⟨Nat.le_of_ble_eq_true rfl, Nat.le_of_ble_eq_true rfl⟩ rfl hl.1 rfl (Nat.le_of_ble_eq_true rfl) dL_law_945 ⟨Nat.le_of_ble_eq_true rfl, Nat.le_of_ble_eq_true rfl⟩ (fun H locs O => ?_)
  refine W.eq (g2 := F0 m 948 ls [.int r]) rfl ?_
  refine lv_aload_n hx hb dL_law_948 rfl (lv_at hl 1 rfl) ?_
  refine lv_aload_n hx hb dL_law_949 rfl (lv_at hl 3 rfl) ?_
  refine lv_iload_n hx hb dL_law_950 rfl (lv_at hl 0 rfl) ?_
  refine lv_iconst (v := (1 : Int32)) hx hb dL_law_951 (by decide) ?_
  refine lv_iadd hx hb dL_law_952 ?_
  refine xr_scr X O hX hz hbl (j := 6 * n + 1) (nI_add (6 * n) 1) (by omega) hL dL_law_953 ?_
  refine xr_callVR (rest := [.int r]) X O (T_X12_order l κ 164 (xs (6 * n + 1)) M1 r M2 h2) lk_L_128 hc2 ⟨Nat.le_of_ble_eq_true rfl, Nat.le_of_ble_eq_true rfl⟩ rfl hl.1 rfl (Nat.le_of_ble_eq_true rfl) dL_law_954 ⟨Nat.le_of_ble_eq_true rfl, Nat.le_of_ble_eq_true rfl⟩ (fun H locs O => ?_)
  refine W.eq (g2 := F0 m 957 ls [.int r, .int r]) rfl ?_
  refine lv_icmp_eq (tgt := 1434) hx hb dL_law_957 (by decide) (fun _ => ?_) (fun hc => absurd rfl hc)
  exact kk M2 hI H locs ls O hl
set_option maxRecDepth 100000 in
set_option maxHeartbeats 4000000 in
theorem lw_case_colours {p : Program} {e : Env} {s : State} {m : MethodId} {below : List Frame} {meth : Method} {c : Code} (l : Launch) {b L : Nat} {xs : Nat → Int32} {κ : xQ} (X : xX p s m #[Value.ref b] c code 4 RL κ) (hX : va_X b L xs s s.heap) (hz : κ.1 = s.heap.size) (hbl : b < s.heap.size) (hL : L ≤ 3072) {INV : Nat → xM → Prop} (S : ∀ (a1 : Int32), xSim INV (F_X11_colours 0 a1) (F_X12_colours 164 a1)) (n : Nat) (hn : 6 * n + 6 ≤ L) (M : xM) (hI : INV n M)
    (kk : ∀ (M : xM), INV (n + 1) M → ∀ (H : Heap) (locs : List Loc) (ls : Array Slot), xO κ s M H locs → lv_has ls 4 [(3, .int (nI (6 * n))), (2, .ref (κ.1 + 164)), (1, .ref (κ.1 + 0)), (0, .ref b)] → W p l e room_1 s m #[Value.ref b] below meth c H locs 185 17741 (lw_Z below #[Value.ref b] s) (F0 m 1434 ls []))
    (H : Heap) (locs : List Loc) (ls : Array Slot) (O : xO κ s M H locs) (hl : lv_has ls 4 [(3, .int (nI (6 * n))), (2, .ref (κ.1 + 164)), (1, .ref (κ.1 + 0)), (0, .ref b)]) : W p l e room_1 s m #[Value.ref b] below meth c H locs 185 17741 (lw_Z below #[Value.ref b] s) (F0 m 962 ls []) := by
  have hx := X.1
  have hb := X.2.1
  obtain ⟨r, M1, M2, h1, h2, hc1, hc2, hI⟩ := S (xs (6 * n + 1)) n M (by omega) hI
  refine lv_aload_n hx hb dL_law_962 rfl (lv_at hl 2 rfl) ?_
  refine lv_aload_n hx hb dL_law_963 rfl (lv_at hl 3 rfl) ?_
  refine lv_iload_n hx hb dL_law_964 rfl (lv_at hl 0 rfl) ?_
  refine lv_iconst (v := (1 : Int32)) hx hb dL_law_965 (by decide) ?_
  refine lv_iadd hx hb dL_law_966 ?_
  refine xr_scr X O hX hz hbl (j := 6 * n + 1) (nI_add (6 * n) 1) (by omega) hL dL_law_967 ?_
  refine xr_callVR (rest := []) X O (T_X11_colours l κ 0 (xs (6 * n + 1)) M r M1 h1) lk_L_129 hc1 ⟨Nat.le_of_ble_eq_true rfl, Nat.le_of_ble_eq_true rfl⟩ rfl hl.1 rfl (Nat.le_of_ble_eq_true rfl) dL_law_968 ⟨Nat.le_of_ble_eq_true rfl, Nat.le_of_ble_eq_true rfl⟩ (fun H locs O => ?_)
  refine W.eq (g2 := F0 m 971 ls [.int r]) rfl ?_
  refine lv_aload_n hx hb dL_law_971 rfl (lv_at hl 1 rfl) ?_
  refine lv_aload_n hx hb dL_law_972 rfl (lv_at hl 3 rfl) ?_
  refine lv_iload_n hx hb dL_law_973 rfl (lv_at hl 0 rfl) ?_
  refine lv_iconst (v := (1 : Int32)) hx hb dL_law_974 (by decide) ?_
  refine lv_iadd hx hb dL_law_975 ?_
  refine xr_scr X O hX hz hbl (j := 6 * n + 1) (nI_add (6 * n) 1) (by omega) hL dL_law_976 ?_
  refine xr_callVR (rest := [.int r]) X O (T_X12_colours l κ 164 (xs (6 * n + 1)) M1 r M2 h2) lk_L_132 hc2 ⟨Nat.le_of_ble_eq_true rfl, Nat.le_of_ble_eq_true rfl⟩ rfl hl.1 rfl (Nat.le_of_ble_eq_true rfl) dL_law_977 ⟨Nat.le_of_ble_eq_true rfl, Nat.le_of_ble_eq_true rfl⟩ (fun H locs O => ?_)
  refine W.eq (g2 := F0 m 980 ls [.int r, .int r]) rfl ?_
  refine lv_icmp_eq (tgt := 1434) hx hb dL_law_980 (by decide) (fun _ => ?_) (fun hc => absurd rfl hc)
  exact kk M2 hI H locs ls O hl
set_option maxRecDepth 100000 in
set_option maxHeartbeats 4000000 in
theorem lw_case_clique {p : Program} {e : Env} {s : State} {m : MethodId} {below : List Frame} {meth : Method} {c : Code} (l : Launch) {b L : Nat} {xs : Nat → Int32} {κ : xQ} (X : xX p s m #[Value.ref b] c code 4 RL κ) (hX : va_X b L xs s s.heap) (hz : κ.1 = s.heap.size) (hbl : b < s.heap.size) (hL : L ≤ 3072) {INV : Nat → xM → Prop} (S : ∀ (a1 : Int32), xSim INV (F_X11_clique 0 a1) (F_X12_clique 164 a1)) (n : Nat) (hn : 6 * n + 6 ≤ L) (M : xM) (hI : INV n M)
    (kk : ∀ (M : xM), INV (n + 1) M → ∀ (H : Heap) (locs : List Loc) (ls : Array Slot), xO κ s M H locs → lv_has ls 4 [(3, .int (nI (6 * n))), (2, .ref (κ.1 + 164)), (1, .ref (κ.1 + 0)), (0, .ref b)] → W p l e room_1 s m #[Value.ref b] below meth c H locs 185 17741 (lw_Z below #[Value.ref b] s) (F0 m 1434 ls []))
    (H : Heap) (locs : List Loc) (ls : Array Slot) (O : xO κ s M H locs) (hl : lv_has ls 4 [(3, .int (nI (6 * n))), (2, .ref (κ.1 + 164)), (1, .ref (κ.1 + 0)), (0, .ref b)]) : W p l e room_1 s m #[Value.ref b] below meth c H locs 185 17741 (lw_Z below #[Value.ref b] s) (F0 m 985 ls []) := by
  have hx := X.1
  have hb := X.2.1
  obtain ⟨r, M1, M2, h1, h2, hc1, hc2, hI⟩ := S (xs (6 * n + 1)) n M (by omega) hI
  refine lv_aload_n hx hb dL_law_985 rfl (lv_at hl 2 rfl) ?_
  refine lv_aload_n hx hb dL_law_986 rfl (lv_at hl 3 rfl) ?_
  refine lv_iload_n hx hb dL_law_987 rfl (lv_at hl 0 rfl) ?_
  refine lv_iconst (v := (1 : Int32)) hx hb dL_law_988 (by decide) ?_
  refine lv_iadd hx hb dL_law_989 ?_
  refine xr_scr X O hX hz hbl (j := 6 * n + 1) (nI_add (6 * n) 1) (by omega) hL dL_law_990 ?_
  refine xr_callVR (rest := []) X O (T_X11_clique l κ 0 (xs (6 * n + 1)) M r M1 h1) lk_L_133 hc1 ⟨Nat.le_of_ble_eq_true rfl, Nat.le_of_ble_eq_true rfl⟩ rfl hl.1 rfl (Nat.le_of_ble_eq_true rfl) dL_law_991 ⟨Nat.le_of_ble_eq_true rfl, Nat.le_of_ble_eq_true rfl⟩ (fun H locs O => ?_)
  refine W.eq (g2 := F0 m 994 ls [.int r]) rfl ?_
  refine lv_aload_n hx hb dL_law_994 rfl (lv_at hl 1 rfl) ?_
  refine lv_aload_n hx hb dL_law_995 rfl (lv_at hl 3 rfl) ?_
  refine lv_iload_n hx hb dL_law_996 rfl (lv_at hl 0 rfl) ?_
  refine lv_iconst (v := (1 : Int32)) hx hb dL_law_997 (by decide) ?_
  refine lv_iadd hx hb dL_law_998 ?_
  refine xr_scr X O hX hz hbl (j := 6 * n + 1) (nI_add (6 * n) 1) (by omega) hL dL_law_999 ?_
  refine xr_callVR (rest := [.int r]) X O (T_X12_clique l κ 164 (xs (6 * n + 1)) M1 r M2 h2) lk_L_136 hc2 ⟨Nat.le_of_ble_eq_true rfl, Nat.le_of_ble_eq_true rfl⟩ rfl hl.1 rfl (Nat.le_of_ble_eq_true rfl) dL_law_1000 ⟨Nat.le_of_ble_eq_true rfl, Nat.le_of_ble_eq_true rfl⟩ (fun H locs O => ?_)
  refine W.eq (g2 := F0 m 1003 ls [.int r, .int r]) rfl ?_
  refine lv_icmp_eq (tgt := 1434) hx hb dL_law_1003 (by decide) (fun _ => ?_) (fun hc => absurd rfl hc)
  exact kk M2 hI H locs ls O hl
set_option maxRecDepth 100000 in
set_option maxHeartbeats 4000000 in
theorem lw_case_papers {p : Program} {e : Env} {s : State} {m : MethodId} {below : List Frame} {meth : Method} {c : Code} (l : Launch) {b L : Nat} {xs : Nat → Int32} {κ : xQ} (X : xX p s m #[Value.ref b] c code 4 RL κ) (hX : va_X b L xs s s.heap) (hz : κ.1 = s.heap.size) (hbl : b < s.heap.size) (hL : L ≤ 3072) {INV : Nat → xM → Prop} (S : ∀ (a1 : Int32), xSim INV (F_X11_papers 0 a1) (F_X12_papers 164 a1)) (n : Nat) (hn : 6 * n + 6 ≤ L) (M : xM) (hI : INV n M)
    (kk : ∀ (M : xM), INV (n + 1) M → ∀ (H : Heap) (locs : List Loc) (ls : Array Slot), xO κ s M H locs → lv_has ls 4 [(3, .int (nI (6 * n))), (2, .ref (κ.1 + 164)), (1, .ref (κ.1 + 0)), (0, .ref b)] → W p l e room_1 s m #[Value.ref b] below meth c H locs 185 17741 (lw_Z below #[Value.ref b] s) (F0 m 1434 ls []))
    (H : Heap) (locs : List Loc) (ls : Array Slot) (O : xO κ s M H locs) (hl : lv_has ls 4 [(3, .int (nI (6 * n))), (2, .ref (κ.1 + 164)), (1, .ref (κ.1 + 0)), (0, .ref b)]) : W p l e room_1 s m #[Value.ref b] below meth c H locs 185 17741 (lw_Z below #[Value.ref b] s) (F0 m 1008 ls []) := by
  have hx := X.1
  have hb := X.2.1
  obtain ⟨r, M1, M2, h1, h2, hc1, hc2, hI⟩ := S (xs (6 * n + 1)) n M (by omega) hI
  refine lv_aload_n hx hb dL_law_1008 rfl (lv_at hl 2 rfl) ?_
  refine lv_aload_n hx hb dL_law_1009 rfl (lv_at hl 3 rfl) ?_
  refine lv_iload_n hx hb dL_law_1010 rfl (lv_at hl 0 rfl) ?_
  refine lv_iconst (v := (1 : Int32)) hx hb dL_law_1011 (by decide) ?_
  refine lv_iadd hx hb dL_law_1012 ?_
  refine xr_scr X O hX hz hbl (j := 6 * n + 1) (nI_add (6 * n) 1) (by omega) hL dL_law_1013 ?_
  refine xr_callVR (rest := []) X O (T_X11_papers l κ 0 (xs (6 * n + 1)) M r M1 h1) lk_L_137 hc1 ⟨Nat.le_of_ble_eq_true rfl, Nat.le_of_ble_eq_true rfl⟩ rfl hl.1 rfl (Nat.le_of_ble_eq_true rfl) dL_law_1014 ⟨Nat.le_of_ble_eq_true rfl, Nat.le_of_ble_eq_true rfl⟩ (fun H locs O => ?_)
  refine W.eq (g2 := F0 m 1017 ls [.int r]) rfl ?_
  refine lv_aload_n hx hb dL_law_1017 rfl (lv_at hl 1 rfl) ?_
  refine lv_aload_n hx hb dL_law_1018 rfl (lv_at hl 3 rfl) ?_
  refine lv_iload_n hx hb dL_law_1019 rfl (lv_at hl 0 rfl) ?_
  refine lv_iconst (v := (1 : Int32)) hx hb dL_law_1020 (by decide) ?_
  refine lv_iadd hx hb dL_law_1021 ?_
  refine xr_scr X O hX hz hbl (j := 6 * n + 1) (nI_add (6 * n) 1) (by omega) hL dL_law_1022 ?_
  refine xr_callVR (rest := [.int r]) X O (T_X12_papers l κ 164 (xs (6 * n + 1)) M1 r M2 h2) lk_L_140 hc2 ⟨Nat.le_of_ble_eq_true rfl, Nat.le_of_ble_eq_true rfl⟩ rfl hl.1 rfl (Nat.le_of_ble_eq_true rfl) dL_law_1023 ⟨Nat.le_of_ble_eq_true rfl, Nat.le_of_ble_eq_true rfl⟩ (fun H locs O => ?_)
  refine W.eq (g2 := F0 m 1026 ls [.int r, .int r]) rfl ?_
  refine lv_icmp_eq (tgt := 1434) hx hb dL_law_1026 (by decide) (fun _ => ?_) (fun hc => absurd rfl hc)
  exact kk M2 hI H locs ls O hl
set_option maxRecDepth 100000 in
set_option maxHeartbeats 4000000 in
theorem lw_case_balance {p : Program} {e : Env} {s : State} {m : MethodId} {below : List Frame} {meth : Method} {c : Code} (l : Launch) {b L : Nat} {xs : Nat → Int32} {κ : xQ} (X : xX p s m #[Value.ref b] c code 4 RL κ) (hX : va_X b L xs s s.heap) (hz : κ.1 = s.heap.size) (hbl : b < s.heap.size) (hL : L ≤ 3072) {INV : Nat → xM → Prop} (S : ∀ (a1 : Int32), xSim INV (F_X11_balance 0 a1) (F_X12_balance 164 a1)) (n : Nat) (hn : 6 * n + 6 ≤ L) (M : xM) (hI : INV n M)
    (kk : ∀ (M : xM), INV (n + 1) M → ∀ (H : Heap) (locs : List Loc) (ls : Array Slot), xO κ s M H locs → lv_has ls 4 [(3, .int (nI (6 * n))), (2, .ref (κ.1 + 164)), (1, .ref (κ.1 + 0)), (0, .ref b)] → W p l e room_1 s m #[Value.ref b] below meth c H locs 185 17741 (lw_Z below #[Value.ref b] s) (F0 m 1434 ls []))
    (H : Heap) (locs : List Loc) (ls : Array Slot) (O : xO κ s M H locs) (hl : lv_has ls 4 [(3, .int (nI (6 * n))), (2, .ref (κ.1 + 164)), (1, .ref (κ.1 + 0)), (0, .ref b)]) : W p l e room_1 s m #[Value.ref b] below meth c H locs 185 17741 (lw_Z below #[Value.ref b] s) (F0 m 1031 ls []) := by
  have hx := X.1
  have hb := X.2.1
  obtain ⟨r, M1, M2, h1, h2, hc1, hc2, hI⟩ := S (xs (6 * n + 1)) n M (by omega) hI
  refine lv_aload_n hx hb dL_law_1031 rfl (lv_at hl 2 rfl) ?_
  refine lv_aload_n hx hb dL_law_1032 rfl (lv_at hl 3 rfl) ?_
  refine lv_iload_n hx hb dL_law_1033 rfl (lv_at hl 0 rfl) ?_
  refine lv_iconst (v := (1 : Int32)) hx hb dL_law_1034 (by decide) ?_
  refine lv_iadd hx hb dL_law_1035 ?_
  refine xr_scr X O hX hz hbl (j := 6 * n + 1) (nI_add (6 * n) 1) (by omega) hL dL_law_1036 ?_
  refine xr_callVR (rest := []) X O (T_X11_balance l κ 0 (xs (6 * n + 1)) M r M1 h1) lk_L_141 hc1 ⟨Nat.le_of_ble_eq_true rfl, Nat.le_of_ble_eq_true rfl⟩ rfl hl.1 rfl (Nat.le_of_ble_eq_true rfl) dL_law_1037 ⟨Nat.le_of_ble_eq_true rfl, Nat.le_of_ble_eq_true rfl⟩ (fun H locs O => ?_)
  refine W.eq (g2 := F0 m 1040 ls [.int r]) rfl ?_
  refine lv_aload_n hx hb dL_law_1040 rfl (lv_at hl 1 rfl) ?_
  refine lv_aload_n hx hb dL_law_1041 rfl (lv_at hl 3 rfl) ?_
  refine lv_iload_n hx hb dL_law_1042 rfl (lv_at hl 0 rfl) ?_
  refine lv_iconst (v := (1 : Int32)) hx hb dL_law_1043 (by decide) ?_
  refine lv_iadd hx hb dL_law_1044 ?_
  refine xr_scr X O hX hz hbl (j := 6 * n + 1) (nI_add (6 * n) 1) (by omega) hL dL_law_1045 ?_
  refine xr_callVR (rest := [.int r]) X O (T_X12_balance l κ 164 (xs (6 * n + 1)) M1 r M2 h2) lk_L_144 hc2 ⟨Nat.le_of_ble_eq_true rfl, Nat.le_of_ble_eq_true rfl⟩ rfl hl.1 rfl (Nat.le_of_ble_eq_true rfl) dL_law_1046 ⟨Nat.le_of_ble_eq_true rfl, Nat.le_of_ble_eq_true rfl⟩ (fun H locs O => ?_)
  refine W.eq (g2 := F0 m 1049 ls [.int r, .int r]) rfl ?_
  refine lv_icmp_eq (tgt := 1434) hx hb dL_law_1049 (by decide) (fun _ => ?_) (fun hc => absurd rfl hc)
  exact kk M2 hI H locs ls O hl
set_option maxRecDepth 100000 in
set_option maxHeartbeats 4000000 in
theorem lw_case_payments {p : Program} {e : Env} {s : State} {m : MethodId} {below : List Frame} {meth : Method} {c : Code} (l : Launch) {b L : Nat} {xs : Nat → Int32} {κ : xQ} (X : xX p s m #[Value.ref b] c code 4 RL κ) (hX : va_X b L xs s s.heap) (hz : κ.1 = s.heap.size) (hbl : b < s.heap.size) (hL : L ≤ 3072) {INV : Nat → xM → Prop} (S : xSim INV (F_X11_payments 0 ) (F_X12_payments 164 )) (n : Nat) (hn : 6 * n + 6 ≤ L) (M : xM) (hI : INV n M)
    (kk : ∀ (M : xM), INV (n + 1) M → ∀ (H : Heap) (locs : List Loc) (ls : Array Slot), xO κ s M H locs → lv_has ls 4 [(3, .int (nI (6 * n))), (2, .ref (κ.1 + 164)), (1, .ref (κ.1 + 0)), (0, .ref b)] → W p l e room_1 s m #[Value.ref b] below meth c H locs 185 17741 (lw_Z below #[Value.ref b] s) (F0 m 1434 ls []))
    (H : Heap) (locs : List Loc) (ls : Array Slot) (O : xO κ s M H locs) (hl : lv_has ls 4 [(3, .int (nI (6 * n))), (2, .ref (κ.1 + 164)), (1, .ref (κ.1 + 0)), (0, .ref b)]) : W p l e room_1 s m #[Value.ref b] below meth c H locs 185 17741 (lw_Z below #[Value.ref b] s) (F0 m 1054 ls []) := by
  have hx := X.1
  have hb := X.2.1
  obtain ⟨r, M1, M2, h1, h2, hc1, hc2, hI⟩ := S  n M (by omega) hI
  refine lv_aload_n hx hb dL_law_1054 rfl (lv_at hl 2 rfl) ?_
  refine xr_callVR (rest := []) X O (T_X11_payments l κ 0  M r M1 h1) lk_L_145 hc1 ⟨Nat.le_of_ble_eq_true rfl, Nat.le_of_ble_eq_true rfl⟩ rfl hl.1 rfl (Nat.le_of_ble_eq_true rfl) dL_law_1055 ⟨Nat.le_of_ble_eq_true rfl, Nat.le_of_ble_eq_true rfl⟩ (fun H locs O => ?_)
  refine W.eq (g2 := F0 m 1058 ls [.int r]) rfl ?_
  refine lv_aload_n hx hb dL_law_1058 rfl (lv_at hl 1 rfl) ?_
  refine xr_callVR (rest := [.int r]) X O (T_X12_payments l κ 164  M1 r M2 h2) lk_L_148 hc2 ⟨Nat.le_of_ble_eq_true rfl, Nat.le_of_ble_eq_true rfl⟩ rfl hl.1 rfl (Nat.le_of_ble_eq_true rfl) dL_law_1059 ⟨Nat.le_of_ble_eq_true rfl, Nat.le_of_ble_eq_true rfl⟩ (fun H locs O => ?_)
  refine W.eq (g2 := F0 m 1062 ls [.int r, .int r]) rfl ?_
  refine lv_icmp_eq (tgt := 1434) hx hb dL_law_1062 (by decide) (fun _ => ?_) (fun hc => absurd rfl hc)
  exact kk M2 hI H locs ls O hl
set_option maxRecDepth 100000 in
set_option maxHeartbeats 4000000 in
theorem lw_case_moons {p : Program} {e : Env} {s : State} {m : MethodId} {below : List Frame} {meth : Method} {c : Code} (l : Launch) {b L : Nat} {xs : Nat → Int32} {κ : xQ} (X : xX p s m #[Value.ref b] c code 4 RL κ) (hX : va_X b L xs s s.heap) (hz : κ.1 = s.heap.size) (hbl : b < s.heap.size) (hL : L ≤ 3072) {INV : Nat → xM → Prop} (S : ∀ (a1 : Int32), xSim INV (F_X11_moons 0 a1) (F_X12_moons 164 a1)) (n : Nat) (hn : 6 * n + 6 ≤ L) (M : xM) (hI : INV n M)
    (kk : ∀ (M : xM), INV (n + 1) M → ∀ (H : Heap) (locs : List Loc) (ls : Array Slot), xO κ s M H locs → lv_has ls 4 [(3, .int (nI (6 * n))), (2, .ref (κ.1 + 164)), (1, .ref (κ.1 + 0)), (0, .ref b)] → W p l e room_1 s m #[Value.ref b] below meth c H locs 185 17741 (lw_Z below #[Value.ref b] s) (F0 m 1434 ls []))
    (H : Heap) (locs : List Loc) (ls : Array Slot) (O : xO κ s M H locs) (hl : lv_has ls 4 [(3, .int (nI (6 * n))), (2, .ref (κ.1 + 164)), (1, .ref (κ.1 + 0)), (0, .ref b)]) : W p l e room_1 s m #[Value.ref b] below meth c H locs 185 17741 (lw_Z below #[Value.ref b] s) (F0 m 1067 ls []) := by
  have hx := X.1
  have hb := X.2.1
  obtain ⟨r, M1, M2, h1, h2, hc1, hc2, hI⟩ := S (xs (6 * n + 1)) n M (by omega) hI
  refine lv_aload_n hx hb dL_law_1067 rfl (lv_at hl 2 rfl) ?_
  refine lv_aload_n hx hb dL_law_1068 rfl (lv_at hl 3 rfl) ?_
  refine lv_iload_n hx hb dL_law_1069 rfl (lv_at hl 0 rfl) ?_
  refine lv_iconst (v := (1 : Int32)) hx hb dL_law_1070 (by decide) ?_
  refine lv_iadd hx hb dL_law_1071 ?_
  refine xr_scr X O hX hz hbl (j := 6 * n + 1) (nI_add (6 * n) 1) (by omega) hL dL_law_1072 ?_
  refine xr_callVR (rest := []) X O (T_X11_moons l κ 0 (xs (6 * n + 1)) M r M1 h1) lk_L_149 hc1 ⟨Nat.le_of_ble_eq_true rfl, Nat.le_of_ble_eq_true rfl⟩ rfl hl.1 rfl (Nat.le_of_ble_eq_true rfl) dL_law_1073 ⟨Nat.le_of_ble_eq_true rfl, Nat.le_of_ble_eq_true rfl⟩ (fun H locs O => ?_)
  refine W.eq (g2 := F0 m 1076 ls [.int r]) rfl ?_
  refine lv_aload_n hx hb dL_law_1076 rfl (lv_at hl 1 rfl) ?_
  refine lv_aload_n hx hb dL_law_1077 rfl (lv_at hl 3 rfl) ?_
  refine lv_iload_n hx hb dL_law_1078 rfl (lv_at hl 0 rfl) ?_
  refine lv_iconst (v := (1 : Int32)) hx hb dL_law_1079 (by decide) ?_
  refine lv_iadd hx hb dL_law_1080 ?_
  refine xr_scr X O hX hz hbl (j := 6 * n + 1) (nI_add (6 * n) 1) (by omega) hL dL_law_1081 ?_
  refine xr_callVR (rest := [.int r]) X O (T_X12_moons l κ 164 (xs (6 * n + 1)) M1 r M2 h2) lk_L_152 hc2 ⟨Nat.le_of_ble_eq_true rfl, Nat.le_of_ble_eq_true rfl⟩ rfl hl.1 rfl (Nat.le_of_ble_eq_true rfl) dL_law_1082 ⟨Nat.le_of_ble_eq_true rfl, Nat.le_of_ble_eq_true rfl⟩ (fun H locs O => ?_)
  refine W.eq (g2 := F0 m 1085 ls [.int r, .int r]) rfl ?_
  refine lv_icmp_eq (tgt := 1434) hx hb dL_law_1085 (by decide) (fun _ => ?_) (fun hc => absurd rfl hc)
  exact kk M2 hI H locs ls O hl
set_option maxRecDepth 100000 in
set_option maxHeartbeats 4000000 in
theorem lw_case_look {p : Program} {e : Env} {s : State} {m : MethodId} {below : List Frame} {meth : Method} {c : Code} (l : Launch) {b L : Nat} {xs : Nat → Int32} {κ : xQ} (X : xX p s m #[Value.ref b] c code 4 RL κ) (hX : va_X b L xs s s.heap) (hz : κ.1 = s.heap.size) (hbl : b < s.heap.size) (hL : L ≤ 3072) {INV : Nat → xM → Prop} (S : ∀ (a1 : Int32), xSim INV (F_X11_look 0 a1) (F_X12_look 164 a1)) (n : Nat) (hn : 6 * n + 6 ≤ L) (M : xM) (hI : INV n M)
    (kk : ∀ (M : xM), INV (n + 1) M → ∀ (H : Heap) (locs : List Loc) (ls : Array Slot), xO κ s M H locs → lv_has ls 4 [(3, .int (nI (6 * n))), (2, .ref (κ.1 + 164)), (1, .ref (κ.1 + 0)), (0, .ref b)] → W p l e room_1 s m #[Value.ref b] below meth c H locs 185 17741 (lw_Z below #[Value.ref b] s) (F0 m 1434 ls []))
    (H : Heap) (locs : List Loc) (ls : Array Slot) (O : xO κ s M H locs) (hl : lv_has ls 4 [(3, .int (nI (6 * n))), (2, .ref (κ.1 + 164)), (1, .ref (κ.1 + 0)), (0, .ref b)]) : W p l e room_1 s m #[Value.ref b] below meth c H locs 185 17741 (lw_Z below #[Value.ref b] s) (F0 m 1090 ls []) := by
  have hx := X.1
  have hb := X.2.1
  obtain ⟨r, M1, M2, h1, h2, hc1, hc2, hI⟩ := S (xs (6 * n + 1)) n M (by omega) hI
  refine lv_aload_n hx hb dL_law_1090 rfl (lv_at hl 2 rfl) ?_
  refine lv_aload_n hx hb dL_law_1091 rfl (lv_at hl 3 rfl) ?_
  refine lv_iload_n hx hb dL_law_1092 rfl (lv_at hl 0 rfl) ?_
  refine lv_iconst (v := (1 : Int32)) hx hb dL_law_1093 (by decide) ?_
  refine lv_iadd hx hb dL_law_1094 ?_
  refine xr_scr X O hX hz hbl (j := 6 * n + 1) (nI_add (6 * n) 1) (by omega) hL dL_law_1095 ?_
  refine xr_callVR (rest := []) X O (T_X11_look l κ 0 (xs (6 * n + 1)) M r M1 h1) lk_L_153 hc1 ⟨Nat.le_of_ble_eq_true rfl, Nat.le_of_ble_eq_true rfl⟩ rfl hl.1 rfl (Nat.le_of_ble_eq_true rfl) dL_law_1096 ⟨Nat.le_of_ble_eq_true rfl, Nat.le_of_ble_eq_true rfl⟩ (fun H locs O => ?_)
  refine W.eq (g2 := F0 m 1099 ls [.int r]) rfl ?_
  refine lv_aload_n hx hb dL_law_1099 rfl (lv_at hl 1 rfl) ?_
  refine lv_aload_n hx hb dL_law_1100 rfl (lv_at hl 3 rfl) ?_
  refine lv_iload_n hx hb dL_law_1101 rfl (lv_at hl 0 rfl) ?_
  refine lv_iconst (v := (1 : Int32)) hx hb dL_law_1102 (by decide) ?_
  refine lv_iadd hx hb dL_law_1103 ?_
  refine xr_scr X O hX hz hbl (j := 6 * n + 1) (nI_add (6 * n) 1) (by omega) hL dL_law_1104 ?_
  refine xr_callVR (rest := [.int r]) X O (T_X12_look l κ 164 (xs (6 * n + 1)) M1 r M2 h2) lk_L_156 hc2 ⟨Nat.le_of_ble_eq_true rfl, Nat.le_of_ble_eq_true rfl⟩ rfl hl.1 rfl (Nat.le_of_ble_eq_true rfl) dL_law_1105 ⟨Nat.le_of_ble_eq_true rfl, Nat.le_of_ble_eq_true rfl⟩ (fun H locs O => ?_)
  refine W.eq (g2 := F0 m 1108 ls [.int r, .int r]) rfl ?_
  refine lv_icmp_eq (tgt := 1434) hx hb dL_law_1108 (by decide) (fun _ => ?_) (fun hc => absurd rfl hc)
  exact kk M2 hI H locs ls O hl
set_option maxRecDepth 100000 in
set_option maxHeartbeats 4000000 in
theorem lw_case_puts {p : Program} {e : Env} {s : State} {m : MethodId} {below : List Frame} {meth : Method} {c : Code} (l : Launch) {b L : Nat} {xs : Nat → Int32} {κ : xQ} (X : xX p s m #[Value.ref b] c code 4 RL κ) (hX : va_X b L xs s s.heap) (hz : κ.1 = s.heap.size) (hbl : b < s.heap.size) (hL : L ≤ 3072) {INV : Nat → xM → Prop} (S : ∀ (a1 : Int32), xSim INV (F_X11_puts 0 a1) (F_X12_puts 164 a1)) (n : Nat) (hn : 6 * n + 6 ≤ L) (M : xM) (hI : INV n M)
    (kk : ∀ (M : xM), INV (n + 1) M → ∀ (H : Heap) (locs : List Loc) (ls : Array Slot), xO κ s M H locs → lv_has ls 4 [(3, .int (nI (6 * n))), (2, .ref (κ.1 + 164)), (1, .ref (κ.1 + 0)), (0, .ref b)] → W p l e room_1 s m #[Value.ref b] below meth c H locs 185 17741 (lw_Z below #[Value.ref b] s) (F0 m 1434 ls []))
    (H : Heap) (locs : List Loc) (ls : Array Slot) (O : xO κ s M H locs) (hl : lv_has ls 4 [(3, .int (nI (6 * n))), (2, .ref (κ.1 + 164)), (1, .ref (κ.1 + 0)), (0, .ref b)]) : W p l e room_1 s m #[Value.ref b] below meth c H locs 185 17741 (lw_Z below #[Value.ref b] s) (F0 m 1113 ls []) := by
  have hx := X.1
  have hb := X.2.1
  obtain ⟨r, M1, M2, h1, h2, hc1, hc2, hI⟩ := S (xs (6 * n + 1)) n M (by omega) hI
  refine lv_aload_n hx hb dL_law_1113 rfl (lv_at hl 2 rfl) ?_
  refine lv_aload_n hx hb dL_law_1114 rfl (lv_at hl 3 rfl) ?_
  refine lv_iload_n hx hb dL_law_1115 rfl (lv_at hl 0 rfl) ?_
  refine lv_iconst (v := (1 : Int32)) hx hb dL_law_1116 (by decide) ?_
  refine lv_iadd hx hb dL_law_1117 ?_
  refine xr_scr X O hX hz hbl (j := 6 * n + 1) (nI_add (6 * n) 1) (by omega) hL dL_law_1118 ?_
  refine xr_callVR (rest := []) X O (T_X11_puts l κ 0 (xs (6 * n + 1)) M r M1 h1) lk_L_157 hc1 ⟨Nat.le_of_ble_eq_true rfl, Nat.le_of_ble_eq_true rfl⟩ rfl hl.1 rfl (Nat.le_of_ble_eq_true rfl) dL_law_1119 ⟨Nat.le_of_ble_eq_true rfl, Nat.le_of_ble_eq_true rfl⟩ (fun H locs O => ?_)
  refine W.eq (g2 := F0 m 1122 ls [.int r]) rfl ?_
  refine lv_aload_n hx hb dL_law_1122 rfl (lv_at hl 1 rfl) ?_
  refine lv_aload_n hx hb dL_law_1123 rfl (lv_at hl 3 rfl) ?_
  refine lv_iload_n hx hb dL_law_1124 rfl (lv_at hl 0 rfl) ?_
  refine lv_iconst (v := (1 : Int32)) hx hb dL_law_1125 (by decide) ?_
  refine lv_iadd hx hb dL_law_1126 ?_
  refine xr_scr X O hX hz hbl (j := 6 * n + 1) (nI_add (6 * n) 1) (by omega) hL dL_law_1127 ?_
  refine xr_callVR (rest := [.int r]) X O (T_X12_puts l κ 164 (xs (6 * n + 1)) M1 r M2 h2) lk_L_160 hc2 ⟨Nat.le_of_ble_eq_true rfl, Nat.le_of_ble_eq_true rfl⟩ rfl hl.1 rfl (Nat.le_of_ble_eq_true rfl) dL_law_1128 ⟨Nat.le_of_ble_eq_true rfl, Nat.le_of_ble_eq_true rfl⟩ (fun H locs O => ?_)
  refine W.eq (g2 := F0 m 1131 ls [.int r, .int r]) rfl ?_
  refine lv_icmp_eq (tgt := 1434) hx hb dL_law_1131 (by decide) (fun _ => ?_) (fun hc => absurd rfl hc)
  exact kk M2 hI H locs ls O hl
set_option maxRecDepth 100000 in
set_option maxHeartbeats 4000000 in
theorem lw_case_wins {p : Program} {e : Env} {s : State} {m : MethodId} {below : List Frame} {meth : Method} {c : Code} (l : Launch) {b L : Nat} {xs : Nat → Int32} {κ : xQ} (X : xX p s m #[Value.ref b] c code 4 RL κ) (hX : va_X b L xs s s.heap) (hz : κ.1 = s.heap.size) (hbl : b < s.heap.size) (hL : L ≤ 3072) {INV : Nat → xM → Prop} (S : xSim INV (F_X11_wins 0 ) (F_X12_wins 164 )) (n : Nat) (hn : 6 * n + 6 ≤ L) (M : xM) (hI : INV n M)
    (kk : ∀ (M : xM), INV (n + 1) M → ∀ (H : Heap) (locs : List Loc) (ls : Array Slot), xO κ s M H locs → lv_has ls 4 [(3, .int (nI (6 * n))), (2, .ref (κ.1 + 164)), (1, .ref (κ.1 + 0)), (0, .ref b)] → W p l e room_1 s m #[Value.ref b] below meth c H locs 185 17741 (lw_Z below #[Value.ref b] s) (F0 m 1434 ls []))
    (H : Heap) (locs : List Loc) (ls : Array Slot) (O : xO κ s M H locs) (hl : lv_has ls 4 [(3, .int (nI (6 * n))), (2, .ref (κ.1 + 164)), (1, .ref (κ.1 + 0)), (0, .ref b)]) : W p l e room_1 s m #[Value.ref b] below meth c H locs 185 17741 (lw_Z below #[Value.ref b] s) (F0 m 1136 ls []) := by
  have hx := X.1
  have hb := X.2.1
  obtain ⟨r, M1, M2, h1, h2, hc1, hc2, hI⟩ := S  n M (by omega) hI
  refine lv_aload_n hx hb dL_law_1136 rfl (lv_at hl 2 rfl) ?_
  refine xr_callVR (rest := []) X O (T_X11_wins l κ 0  M r M1 h1) lk_L_161 hc1 ⟨Nat.le_of_ble_eq_true rfl, Nat.le_of_ble_eq_true rfl⟩ rfl hl.1 rfl (Nat.le_of_ble_eq_true rfl) dL_law_1137 ⟨Nat.le_of_ble_eq_true rfl, Nat.le_of_ble_eq_true rfl⟩ (fun H locs O => ?_)
  refine W.eq (g2 := F0 m 1140 ls [.int r]) rfl ?_
  refine lv_aload_n hx hb dL_law_1140 rfl (lv_at hl 1 rfl) ?_
  refine xr_callVR (rest := [.int r]) X O (T_X12_wins l κ 164  M1 r M2 h2) lk_L_164 hc2 ⟨Nat.le_of_ble_eq_true rfl, Nat.le_of_ble_eq_true rfl⟩ rfl hl.1 rfl (Nat.le_of_ble_eq_true rfl) dL_law_1141 ⟨Nat.le_of_ble_eq_true rfl, Nat.le_of_ble_eq_true rfl⟩ (fun H locs O => ?_)
  refine W.eq (g2 := F0 m 1144 ls [.int r, .int r]) rfl ?_
  refine lv_icmp_eq (tgt := 1434) hx hb dL_law_1144 (by decide) (fun _ => ?_) (fun hc => absurd rfl hc)
  exact kk M2 hI H locs ls O hl
set_option maxRecDepth 100000 in
set_option maxHeartbeats 4000000 in
theorem lw_case_chance {p : Program} {e : Env} {s : State} {m : MethodId} {below : List Frame} {meth : Method} {c : Code} (l : Launch) {b L : Nat} {xs : Nat → Int32} {κ : xQ} (X : xX p s m #[Value.ref b] c code 4 RL κ) (hX : va_X b L xs s s.heap) (hz : κ.1 = s.heap.size) (hbl : b < s.heap.size) (hL : L ≤ 3072) {INV : Nat → xM → Prop} (S : ∀ (a1 : Int32) (a2 : Int32) (a3 : Int32), xSim INV (F_X11_chance 0 a1 a2 a3) (F_X12_chance 164 a1 a2 a3)) (n : Nat) (hn : 6 * n + 6 ≤ L) (M : xM) (hI : INV n M)
    (kk : ∀ (M : xM), INV (n + 1) M → ∀ (H : Heap) (locs : List Loc) (ls : Array Slot), xO κ s M H locs → lv_has ls 4 [(3, .int (nI (6 * n))), (2, .ref (κ.1 + 164)), (1, .ref (κ.1 + 0)), (0, .ref b)] → W p l e room_1 s m #[Value.ref b] below meth c H locs 185 17741 (lw_Z below #[Value.ref b] s) (F0 m 1434 ls []))
    (H : Heap) (locs : List Loc) (ls : Array Slot) (O : xO κ s M H locs) (hl : lv_has ls 4 [(3, .int (nI (6 * n))), (2, .ref (κ.1 + 164)), (1, .ref (κ.1 + 0)), (0, .ref b)]) : W p l e room_1 s m #[Value.ref b] below meth c H locs 185 17741 (lw_Z below #[Value.ref b] s) (F0 m 1149 ls []) := by
  have hx := X.1
  have hb := X.2.1
  obtain ⟨r, M1, M2, h1, h2, hc1, hc2, hI⟩ := S (xs (6 * n + 1)) (xs (6 * n + 2)) (xs (6 * n + 3)) n M (by omega) hI
  refine lv_aload_n hx hb dL_law_1149 rfl (lv_at hl 2 rfl) ?_
  refine lv_aload_n hx hb dL_law_1150 rfl (lv_at hl 3 rfl) ?_
  refine lv_iload_n hx hb dL_law_1151 rfl (lv_at hl 0 rfl) ?_
  refine lv_iconst (v := (1 : Int32)) hx hb dL_law_1152 (by decide) ?_
  refine lv_iadd hx hb dL_law_1153 ?_
  refine xr_scr X O hX hz hbl (j := 6 * n + 1) (nI_add (6 * n) 1) (by omega) hL dL_law_1154 ?_
  refine lv_aload_n hx hb dL_law_1155 rfl (lv_at hl 3 rfl) ?_
  refine lv_iload_n hx hb dL_law_1156 rfl (lv_at hl 0 rfl) ?_
  refine lv_iconst (v := (2 : Int32)) hx hb dL_law_1157 (by decide) ?_
  refine lv_iadd hx hb dL_law_1158 ?_
  refine xr_scr X O hX hz hbl (j := 6 * n + 2) (nI_add (6 * n) 2) (by omega) hL dL_law_1159 ?_
  refine lv_aload_n hx hb dL_law_1160 rfl (lv_at hl 3 rfl) ?_
  refine lv_iload_n hx hb dL_law_1161 rfl (lv_at hl 0 rfl) ?_
  refine lv_iconst (v := (3 : Int32)) hx hb dL_law_1162 (by decide) ?_
  refine lv_iadd hx hb dL_law_1163 ?_
  refine xr_scr X O hX hz hbl (j := 6 * n + 3) (nI_add (6 * n) 3) (by omega) hL dL_law_1164 ?_
  refine xr_callVR (rest := []) X O (T_X11_chance l κ 0 (xs (6 * n + 1)) (xs (6 * n + 2)) (xs (6 * n + 3)) M r M1 h1) lk_L_165 hc1 ⟨Nat.le_of_ble_eq_true rfl, Nat.le_of_ble_eq_true rfl⟩ rfl hl.1 rfl (Nat.le_of_ble_eq_true rfl) dL_law_1165 ⟨Nat.le_of_ble_eq_true rfl, Nat.le_of_ble_eq_true rfl⟩ (fun H locs O => ?_)
  refine W.eq (g2 := F0 m 1168 ls [.int r]) rfl ?_
  refine lv_aload_n hx hb dL_law_1168 rfl (lv_at hl 1 rfl) ?_
  refine lv_aload_n hx hb dL_law_1169 rfl (lv_at hl 3 rfl) ?_
  refine lv_iload_n hx hb dL_law_1170 rfl (lv_at hl 0 rfl) ?_
  refine lv_iconst (v := (1 : Int32)) hx hb dL_law_1171 (by decide) ?_
  refine lv_iadd hx hb dL_law_1172 ?_
  refine xr_scr X O hX hz hbl (j := 6 * n + 1) (nI_add (6 * n) 1) (by omega) hL dL_law_1173 ?_
  refine lv_aload_n hx hb dL_law_1174 rfl (lv_at hl 3 rfl) ?_
  refine lv_iload_n hx hb dL_law_1175 rfl (lv_at hl 0 rfl) ?_
  refine lv_iconst (v := (2 : Int32)) hx hb dL_law_1176 (by decide) ?_
  refine lv_iadd hx hb dL_law_1177 ?_
  refine xr_scr X O hX hz hbl (j := 6 * n + 2) (nI_add (6 * n) 2) (by omega) hL dL_law_1178 ?_
  refine lv_aload_n hx hb dL_law_1179 rfl (lv_at hl 3 rfl) ?_
  refine lv_iload_n hx hb dL_law_1180 rfl (lv_at hl 0 rfl) ?_
  refine lv_iconst (v := (3 : Int32)) hx hb dL_law_1181 (by decide) ?_
  refine lv_iadd hx hb dL_law_1182 ?_
  refine xr_scr X O hX hz hbl (j := 6 * n + 3) (nI_add (6 * n) 3) (by omega) hL dL_law_1183 ?_
  refine xr_callVR (rest := [.int r]) X O (T_X12_chance l κ 164 (xs (6 * n + 1)) (xs (6 * n + 2)) (xs (6 * n + 3)) M1 r M2 h2) lk_L_169 hc2 ⟨Nat.le_of_ble_eq_true rfl, Nat.le_of_ble_eq_true rfl⟩ rfl hl.1 rfl (Nat.le_of_ble_eq_true rfl) dL_law_1184 ⟨Nat.le_of_ble_eq_true rfl, Nat.le_of_ble_eq_true rfl⟩ (fun H locs O => ?_)
  refine W.eq (g2 := F0 m 1187 ls [.int r, .int r]) rfl ?_
  refine lv_icmp_eq (tgt := 1434) hx hb dL_law_1187 (by decide) (fun _ => ?_) (fun hc => absurd rfl hc)
  exact kk M2 hI H locs ls O hl
set_option maxRecDepth 100000 in
set_option maxHeartbeats 4000000 in
theorem lw_case_mean {p : Program} {e : Env} {s : State} {m : MethodId} {below : List Frame} {meth : Method} {c : Code} (l : Launch) {b L : Nat} {xs : Nat → Int32} {κ : xQ} (X : xX p s m #[Value.ref b] c code 4 RL κ) (hX : va_X b L xs s s.heap) (hz : κ.1 = s.heap.size) (hbl : b < s.heap.size) (hL : L ≤ 3072) {INV : Nat → xM → Prop} (S : ∀ (a1 : Int32) (a2 : Int32), xSim INV (F_X11_mean 0 a1 a2) (F_X12_mean 164 a1 a2)) (n : Nat) (hn : 6 * n + 6 ≤ L) (M : xM) (hI : INV n M)
    (kk : ∀ (M : xM), INV (n + 1) M → ∀ (H : Heap) (locs : List Loc) (ls : Array Slot), xO κ s M H locs → lv_has ls 4 [(3, .int (nI (6 * n))), (2, .ref (κ.1 + 164)), (1, .ref (κ.1 + 0)), (0, .ref b)] → W p l e room_1 s m #[Value.ref b] below meth c H locs 185 17741 (lw_Z below #[Value.ref b] s) (F0 m 1434 ls []))
    (H : Heap) (locs : List Loc) (ls : Array Slot) (O : xO κ s M H locs) (hl : lv_has ls 4 [(3, .int (nI (6 * n))), (2, .ref (κ.1 + 164)), (1, .ref (κ.1 + 0)), (0, .ref b)]) : W p l e room_1 s m #[Value.ref b] below meth c H locs 185 17741 (lw_Z below #[Value.ref b] s) (F0 m 1192 ls []) := by
  have hx := X.1
  have hb := X.2.1
  obtain ⟨r, M1, M2, h1, h2, hc1, hc2, hI⟩ := S (xs (6 * n + 1)) (xs (6 * n + 2)) n M (by omega) hI
  refine lv_aload_n hx hb dL_law_1192 rfl (lv_at hl 2 rfl) ?_
  refine lv_aload_n hx hb dL_law_1193 rfl (lv_at hl 3 rfl) ?_
  refine lv_iload_n hx hb dL_law_1194 rfl (lv_at hl 0 rfl) ?_
  refine lv_iconst (v := (1 : Int32)) hx hb dL_law_1195 (by decide) ?_
  refine lv_iadd hx hb dL_law_1196 ?_
  refine xr_scr X O hX hz hbl (j := 6 * n + 1) (nI_add (6 * n) 1) (by omega) hL dL_law_1197 ?_
  refine lv_aload_n hx hb dL_law_1198 rfl (lv_at hl 3 rfl) ?_
  refine lv_iload_n hx hb dL_law_1199 rfl (lv_at hl 0 rfl) ?_
  refine lv_iconst (v := (2 : Int32)) hx hb dL_law_1200 (by decide) ?_
  refine lv_iadd hx hb dL_law_1201 ?_
  refine xr_scr X O hX hz hbl (j := 6 * n + 2) (nI_add (6 * n) 2) (by omega) hL dL_law_1202 ?_
  refine xr_callVR (rest := []) X O (T_X11_mean l κ 0 (xs (6 * n + 1)) (xs (6 * n + 2)) M r M1 h1) lk_L_170 hc1 ⟨Nat.le_of_ble_eq_true rfl, Nat.le_of_ble_eq_true rfl⟩ rfl hl.1 rfl (Nat.le_of_ble_eq_true rfl) dL_law_1203 ⟨Nat.le_of_ble_eq_true rfl, Nat.le_of_ble_eq_true rfl⟩ (fun H locs O => ?_)
  refine W.eq (g2 := F0 m 1206 ls [.int r]) rfl ?_
  refine lv_aload_n hx hb dL_law_1206 rfl (lv_at hl 1 rfl) ?_
  refine lv_aload_n hx hb dL_law_1207 rfl (lv_at hl 3 rfl) ?_
  refine lv_iload_n hx hb dL_law_1208 rfl (lv_at hl 0 rfl) ?_
  refine lv_iconst (v := (1 : Int32)) hx hb dL_law_1209 (by decide) ?_
  refine lv_iadd hx hb dL_law_1210 ?_
  refine xr_scr X O hX hz hbl (j := 6 * n + 1) (nI_add (6 * n) 1) (by omega) hL dL_law_1211 ?_
  refine lv_aload_n hx hb dL_law_1212 rfl (lv_at hl 3 rfl) ?_
  refine lv_iload_n hx hb dL_law_1213 rfl (lv_at hl 0 rfl) ?_
  refine lv_iconst (v := (2 : Int32)) hx hb dL_law_1214 (by decide) ?_
  refine lv_iadd hx hb dL_law_1215 ?_
  refine xr_scr X O hX hz hbl (j := 6 * n + 2) (nI_add (6 * n) 2) (by omega) hL dL_law_1216 ?_
  refine xr_callVR (rest := [.int r]) X O (T_X12_mean l κ 164 (xs (6 * n + 1)) (xs (6 * n + 2)) M1 r M2 h2) lk_L_173 hc2 ⟨Nat.le_of_ble_eq_true rfl, Nat.le_of_ble_eq_true rfl⟩ rfl hl.1 rfl (Nat.le_of_ble_eq_true rfl) dL_law_1217 ⟨Nat.le_of_ble_eq_true rfl, Nat.le_of_ble_eq_true rfl⟩ (fun H locs O => ?_)
  refine W.eq (g2 := F0 m 1220 ls [.int r, .int r]) rfl ?_
  refine lv_icmp_eq (tgt := 1434) hx hb dL_law_1220 (by decide) (fun _ => ?_) (fun hc => absurd rfl hc)
  exact kk M2 hI H locs ls O hl
set_option maxRecDepth 100000 in
set_option maxHeartbeats 4000000 in
theorem lw_case_numbers {p : Program} {e : Env} {s : State} {m : MethodId} {below : List Frame} {meth : Method} {c : Code} (l : Launch) {b L : Nat} {xs : Nat → Int32} {κ : xQ} (X : xX p s m #[Value.ref b] c code 4 RL κ) (hX : va_X b L xs s s.heap) (hz : κ.1 = s.heap.size) (hbl : b < s.heap.size) (hL : L ≤ 3072) {INV : Nat → xM → Prop} (S : ∀ (a1 : Int32) (a2 : Int32) (a3 : Int32), xSim INV (F_X11_numbers 0 a1 a2 a3) (F_X12_numbers 164 a1 a2 a3)) (n : Nat) (hn : 6 * n + 6 ≤ L) (M : xM) (hI : INV n M)
    (kk : ∀ (M : xM), INV (n + 1) M → ∀ (H : Heap) (locs : List Loc) (ls : Array Slot), xO κ s M H locs → lv_has ls 4 [(3, .int (nI (6 * n))), (2, .ref (κ.1 + 164)), (1, .ref (κ.1 + 0)), (0, .ref b)] → W p l e room_1 s m #[Value.ref b] below meth c H locs 185 17741 (lw_Z below #[Value.ref b] s) (F0 m 1434 ls []))
    (H : Heap) (locs : List Loc) (ls : Array Slot) (O : xO κ s M H locs) (hl : lv_has ls 4 [(3, .int (nI (6 * n))), (2, .ref (κ.1 + 164)), (1, .ref (κ.1 + 0)), (0, .ref b)]) : W p l e room_1 s m #[Value.ref b] below meth c H locs 185 17741 (lw_Z below #[Value.ref b] s) (F0 m 1225 ls []) := by
  have hx := X.1
  have hb := X.2.1
  obtain ⟨r, M1, M2, h1, h2, hc1, hc2, hI⟩ := S (xs (6 * n + 1)) (xs (6 * n + 2)) (xs (6 * n + 3)) n M (by omega) hI
  refine lv_aload_n hx hb dL_law_1225 rfl (lv_at hl 2 rfl) ?_
  refine lv_aload_n hx hb dL_law_1226 rfl (lv_at hl 3 rfl) ?_
  refine lv_iload_n hx hb dL_law_1227 rfl (lv_at hl 0 rfl) ?_
  refine lv_iconst (v := (1 : Int32)) hx hb dL_law_1228 (by decide) ?_
  refine lv_iadd hx hb dL_law_1229 ?_
  refine xr_scr X O hX hz hbl (j := 6 * n + 1) (nI_add (6 * n) 1) (by omega) hL dL_law_1230 ?_
  refine lv_aload_n hx hb dL_law_1231 rfl (lv_at hl 3 rfl) ?_
  refine lv_iload_n hx hb dL_law_1232 rfl (lv_at hl 0 rfl) ?_
  refine lv_iconst (v := (2 : Int32)) hx hb dL_law_1233 (by decide) ?_
  refine lv_iadd hx hb dL_law_1234 ?_
  refine xr_scr X O hX hz hbl (j := 6 * n + 2) (nI_add (6 * n) 2) (by omega) hL dL_law_1235 ?_
  refine lv_aload_n hx hb dL_law_1236 rfl (lv_at hl 3 rfl) ?_
  refine lv_iload_n hx hb dL_law_1237 rfl (lv_at hl 0 rfl) ?_
  refine lv_iconst (v := (3 : Int32)) hx hb dL_law_1238 (by decide) ?_
  refine lv_iadd hx hb dL_law_1239 ?_
  refine xr_scr X O hX hz hbl (j := 6 * n + 3) (nI_add (6 * n) 3) (by omega) hL dL_law_1240 ?_
  refine xr_callVR (rest := []) X O (T_X11_numbers l κ 0 (xs (6 * n + 1)) (xs (6 * n + 2)) (xs (6 * n + 3)) M r M1 h1) lk_L_174 hc1 ⟨Nat.le_of_ble_eq_true rfl, Nat.le_of_ble_eq_true rfl⟩ rfl hl.1 rfl (Nat.le_of_ble_eq_true rfl) dL_law_1241 ⟨Nat.le_of_ble_eq_true rfl, Nat.le_of_ble_eq_true rfl⟩ (fun H locs O => ?_)
  refine W.eq (g2 := F0 m 1244 ls [.int r]) rfl ?_
  refine lv_aload_n hx hb dL_law_1244 rfl (lv_at hl 1 rfl) ?_
  refine lv_aload_n hx hb dL_law_1245 rfl (lv_at hl 3 rfl) ?_
  refine lv_iload_n hx hb dL_law_1246 rfl (lv_at hl 0 rfl) ?_
  refine lv_iconst (v := (1 : Int32)) hx hb dL_law_1247 (by decide) ?_
  refine lv_iadd hx hb dL_law_1248 ?_
  refine xr_scr X O hX hz hbl (j := 6 * n + 1) (nI_add (6 * n) 1) (by omega) hL dL_law_1249 ?_
  refine lv_aload_n hx hb dL_law_1250 rfl (lv_at hl 3 rfl) ?_
  refine lv_iload_n hx hb dL_law_1251 rfl (lv_at hl 0 rfl) ?_
  refine lv_iconst (v := (2 : Int32)) hx hb dL_law_1252 (by decide) ?_
  refine lv_iadd hx hb dL_law_1253 ?_
  refine xr_scr X O hX hz hbl (j := 6 * n + 2) (nI_add (6 * n) 2) (by omega) hL dL_law_1254 ?_
  refine lv_aload_n hx hb dL_law_1255 rfl (lv_at hl 3 rfl) ?_
  refine lv_iload_n hx hb dL_law_1256 rfl (lv_at hl 0 rfl) ?_
  refine lv_iconst (v := (3 : Int32)) hx hb dL_law_1257 (by decide) ?_
  refine lv_iadd hx hb dL_law_1258 ?_
  refine xr_scr X O hX hz hbl (j := 6 * n + 3) (nI_add (6 * n) 3) (by omega) hL dL_law_1259 ?_
  refine xr_callVR (rest := [.int r]) X O (T_X12_numbers l κ 164 (xs (6 * n + 1)) (xs (6 * n + 2)) (xs (6 * n + 3)) M1 r M2 h2) lk_L_177 hc2 ⟨Nat.le_of_ble_eq_true rfl, Nat.le_of_ble_eq_true rfl⟩ rfl hl.1 rfl (Nat.le_of_ble_eq_true rfl) dL_law_1260 ⟨Nat.le_of_ble_eq_true rfl, Nat.le_of_ble_eq_true rfl⟩ (fun H locs O => ?_)
  refine W.eq (g2 := F0 m 1263 ls [.int r, .int r]) rfl ?_
  refine lv_icmp_eq (tgt := 1434) hx hb dL_law_1263 (by decide) (fun _ => ?_) (fun hc => absurd rfl hc)
  exact kk M2 hI H locs ls O hl
set_option maxRecDepth 100000 in
set_option maxHeartbeats 4000000 in
theorem lw_case_write {p : Program} {e : Env} {s : State} {m : MethodId} {below : List Frame} {meth : Method} {c : Code} (l : Launch) {b L : Nat} {xs : Nat → Int32} {κ : xQ} (X : xX p s m #[Value.ref b] c code 4 RL κ) (hX : va_X b L xs s s.heap) (hz : κ.1 = s.heap.size) (hbl : b < s.heap.size) (hL : L ≤ 3072) {INV : Nat → xM → Prop} (S : ∀ (a1 : Int32) (a2 : Int32) (a3 : Int64), xSimL INV (F_X11_write 0 a1 a2 a3) (F_X12_write 164 a1 a2 a3)) (n : Nat) (hn : 6 * n + 6 ≤ L) (M : xM) (hI : INV n M)
    (kk : ∀ (M : xM), INV (n + 1) M → ∀ (H : Heap) (locs : List Loc) (ls : Array Slot), xO κ s M H locs → lv_has ls 4 [(3, .int (nI (6 * n))), (2, .ref (κ.1 + 164)), (1, .ref (κ.1 + 0)), (0, .ref b)] → W p l e room_1 s m #[Value.ref b] below meth c H locs 185 17741 (lw_Z below #[Value.ref b] s) (F0 m 1434 ls []))
    (H : Heap) (locs : List Loc) (ls : Array Slot) (O : xO κ s M H locs) (hl : lv_has ls 4 [(3, .int (nI (6 * n))), (2, .ref (κ.1 + 164)), (1, .ref (κ.1 + 0)), (0, .ref b)]) : W p l e room_1 s m #[Value.ref b] below meth c H locs 185 17741 (lw_Z below #[Value.ref b] s) (F0 m 1268 ls []) := by
  have hx := X.1
  have hb := X.2.1
  obtain ⟨r, M1, M2, h1, h2, hc1, hc2, hI⟩ := S (xs (6 * n + 1)) (xs (6 * n + 2)) (((xs (6 * n + 3)).toInt64 <<< ((32 : Int32).toInt64 &&& 63)) ||| ((xs (6 * n + 4)).toInt64 &&& (4294967295 : Int64))) n M (by omega) hI
  refine lv_aload_n hx hb dL_law_1268 rfl (lv_at hl 2 rfl) ?_
  refine lv_aload_n hx hb dL_law_1269 rfl (lv_at hl 3 rfl) ?_
  refine lv_iload_n hx hb dL_law_1270 rfl (lv_at hl 0 rfl) ?_
  refine lv_iconst (v := (1 : Int32)) hx hb dL_law_1271 (by decide) ?_
  refine lv_iadd hx hb dL_law_1272 ?_
  refine xr_scr X O hX hz hbl (j := 6 * n + 1) (nI_add (6 * n) 1) (by omega) hL dL_law_1273 ?_
  refine lv_aload_n hx hb dL_law_1274 rfl (lv_at hl 3 rfl) ?_
  refine lv_iload_n hx hb dL_law_1275 rfl (lv_at hl 0 rfl) ?_
  refine lv_iconst (v := (2 : Int32)) hx hb dL_law_1276 (by decide) ?_
  refine lv_iadd hx hb dL_law_1277 ?_
  refine xr_scr X O hX hz hbl (j := 6 * n + 2) (nI_add (6 * n) 2) (by omega) hL dL_law_1278 ?_
  refine lv_aload_n hx hb dL_law_1279 rfl (lv_at hl 3 rfl) ?_
  refine lv_iload_n hx hb dL_law_1280 rfl (lv_at hl 0 rfl) ?_
  refine lv_iconst (v := (3 : Int32)) hx hb dL_law_1281 (by decide) ?_
  refine lv_iadd hx hb dL_law_1282 ?_
  refine xr_scr X O hX hz hbl (j := 6 * n + 3) (nI_add (6 * n) 3) (by omega) hL dL_law_1283 ?_
  refine lv_i2l (v := (xs (6 * n + 3)).toInt64) hx hb dL_law_1284 rfl ?_
  refine lv_bipush (v := (32 : Int32)) hx hb dL_law_1285 (by decide) ?_
  refine lv_lshl (v := ((xs (6 * n + 3)).toInt64 <<< ((32 : Int32).toInt64 &&& 63))) hx hb dL_law_1287 rfl ?_
  refine lv_aload_n hx hb dL_law_1288 rfl (lv_at hl 3 rfl) ?_
  refine lv_iload_n hx hb dL_law_1289 rfl (lv_at hl 0 rfl) ?_
  refine lv_iconst (v := (4 : Int32)) hx hb dL_law_1290 (by decide) ?_
  refine lv_iadd hx hb dL_law_1291 ?_
  refine xr_scr X O hX hz hbl (j := 6 * n + 4) (nI_add (6 * n) 4) (by omega) hL dL_law_1292 ?_
  refine lv_i2l (v := (xs (6 * n + 4)).toInt64) hx hb dL_law_1293 rfl ?_
  refine lv_ldc2 (v := (4294967295 : Int64)) hx hb X.2.2.2.1 (X.2.2.2.2.1 _ ct_L_178) dL_law_1294 ?_
  refine lv_land hx hb dL_law_1297 ?_
  refine lv_lor hx hb dL_law_1298 ?_
  refine xr_callVR (rest := []) X O (T_X11_write l κ 0 (xs (6 * n + 1)) (xs (6 * n + 2)) (((xs (6 * n + 3)).toInt64 <<< ((32 : Int32).toInt64 &&& 63)) ||| ((xs (6 * n + 4)).toInt64 &&& (4294967295 : Int64))) M r M1 h1) lk_L_180 hc1 ⟨Nat.le_of_ble_eq_true rfl, Nat.le_of_ble_eq_true rfl⟩ rfl hl.1 rfl (Nat.le_of_ble_eq_true rfl) dL_law_1299 ⟨Nat.le_of_ble_eq_true rfl, Nat.le_of_ble_eq_true rfl⟩ (fun H locs O => ?_)
  refine W.eq (g2 := F0 m 1302 ls [.long r]) rfl ?_
  refine lv_aload_n hx hb dL_law_1302 rfl (lv_at hl 1 rfl) ?_
  refine lv_aload_n hx hb dL_law_1303 rfl (lv_at hl 3 rfl) ?_
  refine lv_iload_n hx hb dL_law_1304 rfl (lv_at hl 0 rfl) ?_
  refine lv_iconst (v := (1 : Int32)) hx hb dL_law_1305 (by decide) ?_
  refine lv_iadd hx hb dL_law_1306 ?_
  refine xr_scr X O hX hz hbl (j := 6 * n + 1) (nI_add (6 * n) 1) (by omega) hL dL_law_1307 ?_
  refine lv_aload_n hx hb dL_law_1308 rfl (lv_at hl 3 rfl) ?_
  refine lv_iload_n hx hb dL_law_1309 rfl (lv_at hl 0 rfl) ?_
  refine lv_iconst (v := (2 : Int32)) hx hb dL_law_1310 (by decide) ?_
  refine lv_iadd hx hb dL_law_1311 ?_
  refine xr_scr X O hX hz hbl (j := 6 * n + 2) (nI_add (6 * n) 2) (by omega) hL dL_law_1312 ?_
  refine lv_aload_n hx hb dL_law_1313 rfl (lv_at hl 3 rfl) ?_
  refine lv_iload_n hx hb dL_law_1314 rfl (lv_at hl 0 rfl) ?_
  refine lv_iconst (v := (3 : Int32)) hx hb dL_law_1315 (by decide) ?_
  refine lv_iadd hx hb dL_law_1316 ?_
  refine xr_scr X O hX hz hbl (j := 6 * n + 3) (nI_add (6 * n) 3) (by omega) hL dL_law_1317 ?_
  refine lv_i2l (v := (xs (6 * n + 3)).toInt64) hx hb dL_law_1318 rfl ?_
  refine lv_bipush (v := (32 : Int32)) hx hb dL_law_1319 (by decide) ?_
  refine lv_lshl (v := ((xs (6 * n + 3)).toInt64 <<< ((32 : Int32).toInt64 &&& 63))) hx hb dL_law_1321 rfl ?_
  refine lv_aload_n hx hb dL_law_1322 rfl (lv_at hl 3 rfl) ?_
  refine lv_iload_n hx hb dL_law_1323 rfl (lv_at hl 0 rfl) ?_
  refine lv_iconst (v := (4 : Int32)) hx hb dL_law_1324 (by decide) ?_
  refine lv_iadd hx hb dL_law_1325 ?_
  refine xr_scr X O hX hz hbl (j := 6 * n + 4) (nI_add (6 * n) 4) (by omega) hL dL_law_1326 ?_
  refine lv_i2l (v := (xs (6 * n + 4)).toInt64) hx hb dL_law_1327 rfl ?_
  refine lv_ldc2 (v := (4294967295 : Int64)) hx hb X.2.2.2.1 (X.2.2.2.2.1 _ ct_L_178) dL_law_1328 ?_
  refine lv_land hx hb dL_law_1331 ?_
  refine lv_lor hx hb dL_law_1332 ?_
  refine xr_callVR (rest := [.long r]) X O (T_X12_write l κ 164 (xs (6 * n + 1)) (xs (6 * n + 2)) (((xs (6 * n + 3)).toInt64 <<< ((32 : Int32).toInt64 &&& 63)) ||| ((xs (6 * n + 4)).toInt64 &&& (4294967295 : Int64))) M1 r M2 h2) lk_L_184 hc2 ⟨Nat.le_of_ble_eq_true rfl, Nat.le_of_ble_eq_true rfl⟩ rfl hl.1 rfl (Nat.le_of_ble_eq_true rfl) dL_law_1333 ⟨Nat.le_of_ble_eq_true rfl, Nat.le_of_ble_eq_true rfl⟩ (fun H locs O => ?_)
  refine W.eq (g2 := F0 m 1336 ls [.long r, .long r]) rfl ?_
  refine W.lcmp hx hb dL_law_1336 ?_
  refine lv_if_eq (tgt := 1434) hx hb dL_law_1337 (by decide) (fun _ => ?_) (fun hc => absurd (lg_cmp_self r) hc)
  exact kk M2 hI H locs ls O hl
set_option maxRecDepth 100000 in
set_option maxHeartbeats 4000000 in
theorem lw_case_lists {p : Program} {e : Env} {s : State} {m : MethodId} {below : List Frame} {meth : Method} {c : Code} (l : Launch) {b L : Nat} {xs : Nat → Int32} {κ : xQ} (X : xX p s m #[Value.ref b] c code 4 RL κ) (hX : va_X b L xs s s.heap) (hz : κ.1 = s.heap.size) (hbl : b < s.heap.size) (hL : L ≤ 3072) {INV : Nat → xM → Prop} (S : ∀ (a1 : Int32), xSim INV (F_X11_lists 0 a1) (F_X12_lists 164 a1)) (n : Nat) (hn : 6 * n + 6 ≤ L) (M : xM) (hI : INV n M)
    (kk : ∀ (M : xM), INV (n + 1) M → ∀ (H : Heap) (locs : List Loc) (ls : Array Slot), xO κ s M H locs → lv_has ls 4 [(3, .int (nI (6 * n))), (2, .ref (κ.1 + 164)), (1, .ref (κ.1 + 0)), (0, .ref b)] → W p l e room_1 s m #[Value.ref b] below meth c H locs 185 17741 (lw_Z below #[Value.ref b] s) (F0 m 1434 ls []))
    (H : Heap) (locs : List Loc) (ls : Array Slot) (O : xO κ s M H locs) (hl : lv_has ls 4 [(3, .int (nI (6 * n))), (2, .ref (κ.1 + 164)), (1, .ref (κ.1 + 0)), (0, .ref b)]) : W p l e room_1 s m #[Value.ref b] below meth c H locs 185 17741 (lw_Z below #[Value.ref b] s) (F0 m 1342 ls []) := by
  have hx := X.1
  have hb := X.2.1
  obtain ⟨r, M1, M2, h1, h2, hc1, hc2, hI⟩ := S (xs (6 * n + 1)) n M (by omega) hI
  refine lv_aload_n hx hb dL_law_1342 rfl (lv_at hl 2 rfl) ?_
  refine lv_aload_n hx hb dL_law_1343 rfl (lv_at hl 3 rfl) ?_
  refine lv_iload_n hx hb dL_law_1344 rfl (lv_at hl 0 rfl) ?_
  refine lv_iconst (v := (1 : Int32)) hx hb dL_law_1345 (by decide) ?_
  refine lv_iadd hx hb dL_law_1346 ?_
  refine xr_scr X O hX hz hbl (j := 6 * n + 1) (nI_add (6 * n) 1) (by omega) hL dL_law_1347 ?_
  refine xr_callVR (rest := []) X O (T_X11_lists l κ 0 (xs (6 * n + 1)) M r M1 h1) lk_L_185 hc1 ⟨Nat.le_of_ble_eq_true rfl, Nat.le_of_ble_eq_true rfl⟩ rfl hl.1 rfl (Nat.le_of_ble_eq_true rfl) dL_law_1348 ⟨Nat.le_of_ble_eq_true rfl, Nat.le_of_ble_eq_true rfl⟩ (fun H locs O => ?_)
  refine W.eq (g2 := F0 m 1351 ls [.int r]) rfl ?_
  refine lv_aload_n hx hb dL_law_1351 rfl (lv_at hl 1 rfl) ?_
  refine lv_aload_n hx hb dL_law_1352 rfl (lv_at hl 3 rfl) ?_
  refine lv_iload_n hx hb dL_law_1353 rfl (lv_at hl 0 rfl) ?_
  refine lv_iconst (v := (1 : Int32)) hx hb dL_law_1354 (by decide) ?_
  refine lv_iadd hx hb dL_law_1355 ?_
  refine xr_scr X O hX hz hbl (j := 6 * n + 1) (nI_add (6 * n) 1) (by omega) hL dL_law_1356 ?_
  refine xr_callVR (rest := [.int r]) X O (T_X12_lists l κ 164 (xs (6 * n + 1)) M1 r M2 h2) lk_L_188 hc2 ⟨Nat.le_of_ble_eq_true rfl, Nat.le_of_ble_eq_true rfl⟩ rfl hl.1 rfl (Nat.le_of_ble_eq_true rfl) dL_law_1357 ⟨Nat.le_of_ble_eq_true rfl, Nat.le_of_ble_eq_true rfl⟩ (fun H locs O => ?_)
  refine W.eq (g2 := F0 m 1360 ls [.int r, .int r]) rfl ?_
  refine lv_icmp_eq (tgt := 1434) hx hb dL_law_1360 (by decide) (fun _ => ?_) (fun hc => absurd rfl hc)
  exact kk M2 hI H locs ls O hl
set_option maxRecDepth 100000 in
set_option maxHeartbeats 4000000 in
theorem lw_case_image {p : Program} {e : Env} {s : State} {m : MethodId} {below : List Frame} {meth : Method} {c : Code} (l : Launch) {b L : Nat} {xs : Nat → Int32} {κ : xQ} (X : xX p s m #[Value.ref b] c code 4 RL κ) (hX : va_X b L xs s s.heap) (hz : κ.1 = s.heap.size) (hbl : b < s.heap.size) (hL : L ≤ 3072) {INV : Nat → xM → Prop} (S : ∀ (a1 : Int32), xSim INV (F_X11_image 0 a1) (F_X12_image 164 a1)) (n : Nat) (hn : 6 * n + 6 ≤ L) (M : xM) (hI : INV n M)
    (kk : ∀ (M : xM), INV (n + 1) M → ∀ (H : Heap) (locs : List Loc) (ls : Array Slot), xO κ s M H locs → lv_has ls 4 [(3, .int (nI (6 * n))), (2, .ref (κ.1 + 164)), (1, .ref (κ.1 + 0)), (0, .ref b)] → W p l e room_1 s m #[Value.ref b] below meth c H locs 185 17741 (lw_Z below #[Value.ref b] s) (F0 m 1434 ls []))
    (H : Heap) (locs : List Loc) (ls : Array Slot) (O : xO κ s M H locs) (hl : lv_has ls 4 [(3, .int (nI (6 * n))), (2, .ref (κ.1 + 164)), (1, .ref (κ.1 + 0)), (0, .ref b)]) : W p l e room_1 s m #[Value.ref b] below meth c H locs 185 17741 (lw_Z below #[Value.ref b] s) (F0 m 1365 ls []) := by
  have hx := X.1
  have hb := X.2.1
  obtain ⟨r, M1, M2, h1, h2, hc1, hc2, hI⟩ := S (xs (6 * n + 1)) n M (by omega) hI
  refine lv_aload_n hx hb dL_law_1365 rfl (lv_at hl 2 rfl) ?_
  refine lv_aload_n hx hb dL_law_1366 rfl (lv_at hl 3 rfl) ?_
  refine lv_iload_n hx hb dL_law_1367 rfl (lv_at hl 0 rfl) ?_
  refine lv_iconst (v := (1 : Int32)) hx hb dL_law_1368 (by decide) ?_
  refine lv_iadd hx hb dL_law_1369 ?_
  refine xr_scr X O hX hz hbl (j := 6 * n + 1) (nI_add (6 * n) 1) (by omega) hL dL_law_1370 ?_
  refine xr_callVR (rest := []) X O (T_X11_image l κ 0 (xs (6 * n + 1)) M r M1 h1) lk_L_189 hc1 ⟨Nat.le_of_ble_eq_true rfl, Nat.le_of_ble_eq_true rfl⟩ rfl hl.1 rfl (Nat.le_of_ble_eq_true rfl) dL_law_1371 ⟨Nat.le_of_ble_eq_true rfl, Nat.le_of_ble_eq_true rfl⟩ (fun H locs O => ?_)
  refine W.eq (g2 := F0 m 1374 ls [.int r]) rfl ?_
  refine lv_aload_n hx hb dL_law_1374 rfl (lv_at hl 1 rfl) ?_
  refine lv_aload_n hx hb dL_law_1375 rfl (lv_at hl 3 rfl) ?_
  refine lv_iload_n hx hb dL_law_1376 rfl (lv_at hl 0 rfl) ?_
  refine lv_iconst (v := (1 : Int32)) hx hb dL_law_1377 (by decide) ?_
  refine lv_iadd hx hb dL_law_1378 ?_
  refine xr_scr X O hX hz hbl (j := 6 * n + 1) (nI_add (6 * n) 1) (by omega) hL dL_law_1379 ?_
  refine xr_callVR (rest := [.int r]) X O (T_X12_image l κ 164 (xs (6 * n + 1)) M1 r M2 h2) lk_L_192 hc2 ⟨Nat.le_of_ble_eq_true rfl, Nat.le_of_ble_eq_true rfl⟩ rfl hl.1 rfl (Nat.le_of_ble_eq_true rfl) dL_law_1380 ⟨Nat.le_of_ble_eq_true rfl, Nat.le_of_ble_eq_true rfl⟩ (fun H locs O => ?_)
  refine W.eq (g2 := F0 m 1383 ls [.int r, .int r]) rfl ?_
  refine lv_icmp_eq (tgt := 1434) hx hb dL_law_1383 (by decide) (fun _ => ?_) (fun hc => absurd rfl hc)
  exact kk M2 hI H locs ls O hl
set_option maxRecDepth 100000 in
set_option maxHeartbeats 4000000 in
theorem lw_case_restore {p : Program} {e : Env} {s : State} {m : MethodId} {below : List Frame} {meth : Method} {c : Code} (l : Launch) {b L : Nat} {xs : Nat → Int32} {κ : xQ} (X : xX p s m #[Value.ref b] c code 4 RL κ) (hX : va_X b L xs s s.heap) (hz : κ.1 = s.heap.size) (hbl : b < s.heap.size) (hL : L ≤ 3072) {INV : Nat → xM → Prop} (S : ∀ (a1 : Int32), xSim INV (F_X11_restore 0 a1) (F_X12_restore 164 a1)) (n : Nat) (hn : 6 * n + 6 ≤ L) (M : xM) (hI : INV n M)
    (kk : ∀ (M : xM), INV (n + 1) M → ∀ (H : Heap) (locs : List Loc) (ls : Array Slot), xO κ s M H locs → lv_has ls 4 [(3, .int (nI (6 * n))), (2, .ref (κ.1 + 164)), (1, .ref (κ.1 + 0)), (0, .ref b)] → W p l e room_1 s m #[Value.ref b] below meth c H locs 185 17741 (lw_Z below #[Value.ref b] s) (F0 m 1434 ls []))
    (H : Heap) (locs : List Loc) (ls : Array Slot) (O : xO κ s M H locs) (hl : lv_has ls 4 [(3, .int (nI (6 * n))), (2, .ref (κ.1 + 164)), (1, .ref (κ.1 + 0)), (0, .ref b)]) : W p l e room_1 s m #[Value.ref b] below meth c H locs 185 17741 (lw_Z below #[Value.ref b] s) (F0 m 1388 ls []) := by
  have hx := X.1
  have hb := X.2.1
  obtain ⟨r, M1, M2, h1, h2, hc1, hc2, hI⟩ := S (xs (6 * n + 1)) n M (by omega) hI
  refine lv_aload_n hx hb dL_law_1388 rfl (lv_at hl 2 rfl) ?_
  refine lv_aload_n hx hb dL_law_1389 rfl (lv_at hl 3 rfl) ?_
  refine lv_iload_n hx hb dL_law_1390 rfl (lv_at hl 0 rfl) ?_
  refine lv_iconst (v := (1 : Int32)) hx hb dL_law_1391 (by decide) ?_
  refine lv_iadd hx hb dL_law_1392 ?_
  refine xr_scr X O hX hz hbl (j := 6 * n + 1) (nI_add (6 * n) 1) (by omega) hL dL_law_1393 ?_
  refine xr_callVR (rest := []) X O (T_X11_restore l κ 0 (xs (6 * n + 1)) M r M1 h1) lk_L_193 hc1 ⟨Nat.le_of_ble_eq_true rfl, Nat.le_of_ble_eq_true rfl⟩ rfl hl.1 rfl (Nat.le_of_ble_eq_true rfl) dL_law_1394 ⟨Nat.le_of_ble_eq_true rfl, Nat.le_of_ble_eq_true rfl⟩ (fun H locs O => ?_)
  refine W.eq (g2 := F0 m 1397 ls [.int r]) rfl ?_
  refine lv_aload_n hx hb dL_law_1397 rfl (lv_at hl 1 rfl) ?_
  refine lv_aload_n hx hb dL_law_1398 rfl (lv_at hl 3 rfl) ?_
  refine lv_iload_n hx hb dL_law_1399 rfl (lv_at hl 0 rfl) ?_
  refine lv_iconst (v := (1 : Int32)) hx hb dL_law_1400 (by decide) ?_
  refine lv_iadd hx hb dL_law_1401 ?_
  refine xr_scr X O hX hz hbl (j := 6 * n + 1) (nI_add (6 * n) 1) (by omega) hL dL_law_1402 ?_
  refine xr_callVR (rest := [.int r]) X O (T_X12_restore l κ 164 (xs (6 * n + 1)) M1 r M2 h2) lk_L_196 hc2 ⟨Nat.le_of_ble_eq_true rfl, Nat.le_of_ble_eq_true rfl⟩ rfl hl.1 rfl (Nat.le_of_ble_eq_true rfl) dL_law_1403 ⟨Nat.le_of_ble_eq_true rfl, Nat.le_of_ble_eq_true rfl⟩ (fun H locs O => ?_)
  refine W.eq (g2 := F0 m 1406 ls [.int r, .int r]) rfl ?_
  refine lv_icmp_eq (tgt := 1434) hx hb dL_law_1406 (by decide) (fun _ => ?_) (fun hc => absurd rfl hc)
  exact kk M2 hI H locs ls O hl
set_option maxRecDepth 100000 in
set_option maxHeartbeats 4000000 in
theorem lw_case_count {p : Program} {e : Env} {s : State} {m : MethodId} {below : List Frame} {meth : Method} {c : Code} (l : Launch) {b L : Nat} {xs : Nat → Int32} {κ : xQ} (X : xX p s m #[Value.ref b] c code 4 RL κ) (hX : va_X b L xs s s.heap) (hz : κ.1 = s.heap.size) (hbl : b < s.heap.size) (hL : L ≤ 3072) {INV : Nat → xM → Prop} (S : ∀ (a1 : Int32), xSim INV (F_X11_count 0 a1) (F_X12_count 164 a1)) (n : Nat) (hn : 6 * n + 6 ≤ L) (M : xM) (hI : INV n M)
    (kk : ∀ (M : xM), INV (n + 1) M → ∀ (H : Heap) (locs : List Loc) (ls : Array Slot), xO κ s M H locs → lv_has ls 4 [(3, .int (nI (6 * n))), (2, .ref (κ.1 + 164)), (1, .ref (κ.1 + 0)), (0, .ref b)] → W p l e room_1 s m #[Value.ref b] below meth c H locs 185 17741 (lw_Z below #[Value.ref b] s) (F0 m 1434 ls []))
    (H : Heap) (locs : List Loc) (ls : Array Slot) (O : xO κ s M H locs) (hl : lv_has ls 4 [(3, .int (nI (6 * n))), (2, .ref (κ.1 + 164)), (1, .ref (κ.1 + 0)), (0, .ref b)]) : W p l e room_1 s m #[Value.ref b] below meth c H locs 185 17741 (lw_Z below #[Value.ref b] s) (F0 m 1411 ls []) := by
  have hx := X.1
  have hb := X.2.1
  obtain ⟨r, M1, M2, h1, h2, hc1, hc2, hI⟩ := S (xs (6 * n + 1)) n M (by omega) hI
  refine lv_aload_n hx hb dL_law_1411 rfl (lv_at hl 2 rfl) ?_
  refine lv_aload_n hx hb dL_law_1412 rfl (lv_at hl 3 rfl) ?_
  refine lv_iload_n hx hb dL_law_1413 rfl (lv_at hl 0 rfl) ?_
  refine lv_iconst (v := (1 : Int32)) hx hb dL_law_1414 (by decide) ?_
  refine lv_iadd hx hb dL_law_1415 ?_
  refine xr_scr X O hX hz hbl (j := 6 * n + 1) (nI_add (6 * n) 1) (by omega) hL dL_law_1416 ?_
  refine xr_callVR (rest := []) X O (T_X11_count l κ 0 (xs (6 * n + 1)) M r M1 h1) lk_L_197 hc1 ⟨Nat.le_of_ble_eq_true rfl, Nat.le_of_ble_eq_true rfl⟩ rfl hl.1 rfl (Nat.le_of_ble_eq_true rfl) dL_law_1417 ⟨Nat.le_of_ble_eq_true rfl, Nat.le_of_ble_eq_true rfl⟩ (fun H locs O => ?_)
  refine W.eq (g2 := F0 m 1420 ls [.int r]) rfl ?_
  refine lv_aload_n hx hb dL_law_1420 rfl (lv_at hl 1 rfl) ?_
  refine lv_aload_n hx hb dL_law_1421 rfl (lv_at hl 3 rfl) ?_
  refine lv_iload_n hx hb dL_law_1422 rfl (lv_at hl 0 rfl) ?_
  refine lv_iconst (v := (1 : Int32)) hx hb dL_law_1423 (by decide) ?_
  refine lv_iadd hx hb dL_law_1424 ?_
  refine xr_scr X O hX hz hbl (j := 6 * n + 1) (nI_add (6 * n) 1) (by omega) hL dL_law_1425 ?_
  refine xr_callVR (rest := [.int r]) X O (T_X12_count l κ 164 (xs (6 * n + 1)) M1 r M2 h2) lk_L_200 hc2 ⟨Nat.le_of_ble_eq_true rfl, Nat.le_of_ble_eq_true rfl⟩ rfl hl.1 rfl (Nat.le_of_ble_eq_true rfl) dL_law_1426 ⟨Nat.le_of_ble_eq_true rfl, Nat.le_of_ble_eq_true rfl⟩ (fun H locs O => ?_)
  refine W.eq (g2 := F0 m 1429 ls [.int r, .int r]) rfl ?_
  refine lv_icmp_eq (tgt := 1434) hx hb dL_law_1429 (by decide) (fun _ => ?_) (fun hc => absurd rfl hc)
  exact kk M2 hI H locs ls O hl
def xAll (INV : Nat → xM → Prop) : Prop := (∃ M1 M2 : xM, F_X11_init 0 (xnw xM0 (11, 0)) = some M1 ∧ M1.1.length = 164 ∧ F_X12_init 164 (xnw M1 (12, 0)) = some M2 ∧ INV 0 M2) ∧
  (∀ (a1 : Int32) (a2 : Int32) (a3 : Int32) (a4 : Int32) (a5 : Int32), xSim INV (F_X11_feed 0 a1 a2 a3 a4 a5) (F_X12_feed 164 a1 a2 a3 a4 a5)) ∧
  (∀ (a1 : Int32), xSim INV (F_X11_shore 0 a1) (F_X12_shore 164 a1)) ∧
  (∀ (a1 : Int32), xSim INV (F_X11_fault 0 a1) (F_X12_fault 164 a1)) ∧
  (∀ (a1 : Int32), xSim INV (F_X11_sand 0 a1) (F_X12_sand 164 a1)) ∧
  (∀ (a1 : Int32) (a2 : Int32), xSim INV (F_X11_house 0 a1 a2) (F_X12_house 164 a1 a2)) ∧
  (∀ (a1 : Int32) (a2 : Int32), xSim INV (F_X11_plot 0 a1 a2) (F_X12_plot 164 a1 a2)) ∧
  (∀ (a1 : Int32), xSim INV (F_X11_level 0 a1) (F_X12_level 164 a1)) ∧
  (∀ (a1 : Int32), xSim INV (F_X11_wet 0 a1) (F_X12_wet 164 a1)) ∧
  (∀ (a1 : Int32), xSim INV (F_X11_minutes 0 a1) (F_X12_minutes 164 a1)) ∧
  (∀ (a1 : Int32), xSim INV (F_X11_raise 0 a1) (F_X12_raise 164 a1)) ∧
  (∀ (a1 : Int32), xSim INV (F_X11_dig 0 a1) (F_X12_dig 164 a1)) ∧
  (∀ (a1 : Int32) (a2 : Int32), xSim INV (F_X11_build 0 a1 a2) (F_X12_build 164 a1 a2)) ∧
  (∀ (a1 : Int32), xSim INV (F_X11_moon 0 a1) (F_X12_moon 164 a1)) ∧
  (∀ (a1 : Int32), xSim INV (F_X11_undo 0 a1) (F_X12_undo 164 a1)) ∧
  (∀ (a1 : Int32) (a2 : Int32), xSim INV (F_X11_judge 0 a1 a2) (F_X12_judge 164 a1 a2)) ∧
  (∀ (a1 : Int32), xSim INV (F_X11_perform 0 a1) (F_X12_perform 164 a1)) ∧
  (∀ (a1 : Int32) (a2 : Int32), xSim INV (F_X11_day 0 a1 a2) (F_X12_day 164 a1 a2)) ∧
  (∀ (a1 : Int32), xSim INV (F_X11_falls 0 a1) (F_X12_falls 164 a1)) ∧
  (∀ (a1 : Int32), xSim INV (F_X11_stands 0 a1) (F_X12_stands 164 a1)) ∧
  (∀ (a1 : Int32), xSim INV (F_X11_when 0 a1) (F_X12_when 164 a1)) ∧
  (∀ (a1 : Int32) (a2 : Int32), xSim INV (F_X11_worn 0 a1 a2) (F_X12_worn 164 a1 a2)) ∧
  (xSim INV (F_X11_last 0 ) (F_X12_last 164 )) ∧
  (∀ (a1 : Int32), xSim INV (F_X11_owner 0 a1) (F_X12_owner 164 a1)) ∧
  (∀ (a1 : Int32) (a2 : Int32), xSim INV (F_X11_least 0 a1 a2) (F_X12_least 164 a1 a2)) ∧
  (∀ (a1 : Int32), xSim INV (F_X11_safe 0 a1) (F_X12_safe 164 a1)) ∧
  (xSim INV (F_X11_worst 0 ) (F_X12_worst 164 )) ∧
  (∀ (a1 : Int32), xSim INV (F_X11_plan 0 a1) (F_X12_plan 164 a1)) ∧
  (∀ (a1 : Int32), xSim INV (F_X11_order 0 a1) (F_X12_order 164 a1)) ∧
  (∀ (a1 : Int32), xSim INV (F_X11_colours 0 a1) (F_X12_colours 164 a1)) ∧
  (∀ (a1 : Int32), xSim INV (F_X11_clique 0 a1) (F_X12_clique 164 a1)) ∧
  (∀ (a1 : Int32), xSim INV (F_X11_papers 0 a1) (F_X12_papers 164 a1)) ∧
  (∀ (a1 : Int32), xSim INV (F_X11_balance 0 a1) (F_X12_balance 164 a1)) ∧
  (xSim INV (F_X11_payments 0 ) (F_X12_payments 164 )) ∧
  (∀ (a1 : Int32), xSim INV (F_X11_moons 0 a1) (F_X12_moons 164 a1)) ∧
  (∀ (a1 : Int32), xSim INV (F_X11_look 0 a1) (F_X12_look 164 a1)) ∧
  (∀ (a1 : Int32), xSim INV (F_X11_puts 0 a1) (F_X12_puts 164 a1)) ∧
  (xSim INV (F_X11_wins 0 ) (F_X12_wins 164 )) ∧
  (∀ (a1 : Int32) (a2 : Int32) (a3 : Int32), xSim INV (F_X11_chance 0 a1 a2 a3) (F_X12_chance 164 a1 a2 a3)) ∧
  (∀ (a1 : Int32) (a2 : Int32), xSim INV (F_X11_mean 0 a1 a2) (F_X12_mean 164 a1 a2)) ∧
  (∀ (a1 : Int32) (a2 : Int32) (a3 : Int32), xSim INV (F_X11_numbers 0 a1 a2 a3) (F_X12_numbers 164 a1 a2 a3)) ∧
  (∀ (a1 : Int32) (a2 : Int32) (a3 : Int64), xSimL INV (F_X11_write 0 a1 a2 a3) (F_X12_write 164 a1 a2 a3)) ∧
  (∀ (a1 : Int32), xSim INV (F_X11_lists 0 a1) (F_X12_lists 164 a1)) ∧
  (∀ (a1 : Int32), xSim INV (F_X11_image 0 a1) (F_X12_image 164 a1)) ∧
  (∀ (a1 : Int32), xSim INV (F_X11_restore 0 a1) (F_X12_restore 164 a1)) ∧
  (∀ (a1 : Int32), xSim INV (F_X11_count 0 a1) (F_X12_count 164 a1))
theorem xAll_feed {INV : Nat → xM → Prop} (h : xAll INV) : ∀ (a1 : Int32) (a2 : Int32) (a3 : Int32) (a4 : Int32) (a5 : Int32), xSim INV (F_X11_feed 0 a1 a2 a3 a4 a5) (F_X12_feed 164 a1 a2 a3 a4 a5) := h.2.1
theorem xAll_shore {INV : Nat → xM → Prop} (h : xAll INV) : ∀ (a1 : Int32), xSim INV (F_X11_shore 0 a1) (F_X12_shore 164 a1) := h.2.2.1
theorem xAll_fault {INV : Nat → xM → Prop} (h : xAll INV) : ∀ (a1 : Int32), xSim INV (F_X11_fault 0 a1) (F_X12_fault 164 a1) := h.2.2.2.1
theorem xAll_sand {INV : Nat → xM → Prop} (h : xAll INV) : ∀ (a1 : Int32), xSim INV (F_X11_sand 0 a1) (F_X12_sand 164 a1) := h.2.2.2.2.1
theorem xAll_house {INV : Nat → xM → Prop} (h : xAll INV) : ∀ (a1 : Int32) (a2 : Int32), xSim INV (F_X11_house 0 a1 a2) (F_X12_house 164 a1 a2) := h.2.2.2.2.2.1
theorem xAll_plot {INV : Nat → xM → Prop} (h : xAll INV) : ∀ (a1 : Int32) (a2 : Int32), xSim INV (F_X11_plot 0 a1 a2) (F_X12_plot 164 a1 a2) := h.2.2.2.2.2.2.1
theorem xAll_level {INV : Nat → xM → Prop} (h : xAll INV) : ∀ (a1 : Int32), xSim INV (F_X11_level 0 a1) (F_X12_level 164 a1) := h.2.2.2.2.2.2.2.1
theorem xAll_wet {INV : Nat → xM → Prop} (h : xAll INV) : ∀ (a1 : Int32), xSim INV (F_X11_wet 0 a1) (F_X12_wet 164 a1) := h.2.2.2.2.2.2.2.2.1
theorem xAll_minutes {INV : Nat → xM → Prop} (h : xAll INV) : ∀ (a1 : Int32), xSim INV (F_X11_minutes 0 a1) (F_X12_minutes 164 a1) := h.2.2.2.2.2.2.2.2.2.1
theorem xAll_raise {INV : Nat → xM → Prop} (h : xAll INV) : ∀ (a1 : Int32), xSim INV (F_X11_raise 0 a1) (F_X12_raise 164 a1) := h.2.2.2.2.2.2.2.2.2.2.1
theorem xAll_dig {INV : Nat → xM → Prop} (h : xAll INV) : ∀ (a1 : Int32), xSim INV (F_X11_dig 0 a1) (F_X12_dig 164 a1) := h.2.2.2.2.2.2.2.2.2.2.2.1
theorem xAll_build {INV : Nat → xM → Prop} (h : xAll INV) : ∀ (a1 : Int32) (a2 : Int32), xSim INV (F_X11_build 0 a1 a2) (F_X12_build 164 a1 a2) := h.2.2.2.2.2.2.2.2.2.2.2.2.1
theorem xAll_moon {INV : Nat → xM → Prop} (h : xAll INV) : ∀ (a1 : Int32), xSim INV (F_X11_moon 0 a1) (F_X12_moon 164 a1) := h.2.2.2.2.2.2.2.2.2.2.2.2.2.1
theorem xAll_undo {INV : Nat → xM → Prop} (h : xAll INV) : ∀ (a1 : Int32), xSim INV (F_X11_undo 0 a1) (F_X12_undo 164 a1) := h.2.2.2.2.2.2.2.2.2.2.2.2.2.2.1
theorem xAll_judge {INV : Nat → xM → Prop} (h : xAll INV) : ∀ (a1 : Int32) (a2 : Int32), xSim INV (F_X11_judge 0 a1 a2) (F_X12_judge 164 a1 a2) := h.2.2.2.2.2.2.2.2.2.2.2.2.2.2.2.1
theorem xAll_perform {INV : Nat → xM → Prop} (h : xAll INV) : ∀ (a1 : Int32), xSim INV (F_X11_perform 0 a1) (F_X12_perform 164 a1) := h.2.2.2.2.2.2.2.2.2.2.2.2.2.2.2.2.1
theorem xAll_day {INV : Nat → xM → Prop} (h : xAll INV) : ∀ (a1 : Int32) (a2 : Int32), xSim INV (F_X11_day 0 a1 a2) (F_X12_day 164 a1 a2) := h.2.2.2.2.2.2.2.2.2.2.2.2.2.2.2.2.2.1
theorem xAll_falls {INV : Nat → xM → Prop} (h : xAll INV) : ∀ (a1 : Int32), xSim INV (F_X11_falls 0 a1) (F_X12_falls 164 a1) := h.2.2.2.2.2.2.2.2.2.2.2.2.2.2.2.2.2.2.1
theorem xAll_stands {INV : Nat → xM → Prop} (h : xAll INV) : ∀ (a1 : Int32), xSim INV (F_X11_stands 0 a1) (F_X12_stands 164 a1) := h.2.2.2.2.2.2.2.2.2.2.2.2.2.2.2.2.2.2.2.1
theorem xAll_when {INV : Nat → xM → Prop} (h : xAll INV) : ∀ (a1 : Int32), xSim INV (F_X11_when 0 a1) (F_X12_when 164 a1) := h.2.2.2.2.2.2.2.2.2.2.2.2.2.2.2.2.2.2.2.2.1
theorem xAll_worn {INV : Nat → xM → Prop} (h : xAll INV) : ∀ (a1 : Int32) (a2 : Int32), xSim INV (F_X11_worn 0 a1 a2) (F_X12_worn 164 a1 a2) := h.2.2.2.2.2.2.2.2.2.2.2.2.2.2.2.2.2.2.2.2.2.1
theorem xAll_last {INV : Nat → xM → Prop} (h : xAll INV) : xSim INV (F_X11_last 0 ) (F_X12_last 164 ) := h.2.2.2.2.2.2.2.2.2.2.2.2.2.2.2.2.2.2.2.2.2.2.1
theorem xAll_owner {INV : Nat → xM → Prop} (h : xAll INV) : ∀ (a1 : Int32), xSim INV (F_X11_owner 0 a1) (F_X12_owner 164 a1) := h.2.2.2.2.2.2.2.2.2.2.2.2.2.2.2.2.2.2.2.2.2.2.2.1
theorem xAll_least {INV : Nat → xM → Prop} (h : xAll INV) : ∀ (a1 : Int32) (a2 : Int32), xSim INV (F_X11_least 0 a1 a2) (F_X12_least 164 a1 a2) := h.2.2.2.2.2.2.2.2.2.2.2.2.2.2.2.2.2.2.2.2.2.2.2.2.1
theorem xAll_safe {INV : Nat → xM → Prop} (h : xAll INV) : ∀ (a1 : Int32), xSim INV (F_X11_safe 0 a1) (F_X12_safe 164 a1) := h.2.2.2.2.2.2.2.2.2.2.2.2.2.2.2.2.2.2.2.2.2.2.2.2.2.1
theorem xAll_worst {INV : Nat → xM → Prop} (h : xAll INV) : xSim INV (F_X11_worst 0 ) (F_X12_worst 164 ) := h.2.2.2.2.2.2.2.2.2.2.2.2.2.2.2.2.2.2.2.2.2.2.2.2.2.2.1
theorem xAll_plan {INV : Nat → xM → Prop} (h : xAll INV) : ∀ (a1 : Int32), xSim INV (F_X11_plan 0 a1) (F_X12_plan 164 a1) := h.2.2.2.2.2.2.2.2.2.2.2.2.2.2.2.2.2.2.2.2.2.2.2.2.2.2.2.1
theorem xAll_order {INV : Nat → xM → Prop} (h : xAll INV) : ∀ (a1 : Int32), xSim INV (F_X11_order 0 a1) (F_X12_order 164 a1) := h.2.2.2.2.2.2.2.2.2.2.2.2.2.2.2.2.2.2.2.2.2.2.2.2.2.2.2.2.1
theorem xAll_colours {INV : Nat → xM → Prop} (h : xAll INV) : ∀ (a1 : Int32), xSim INV (F_X11_colours 0 a1) (F_X12_colours 164 a1) := h.2.2.2.2.2.2.2.2.2.2.2.2.2.2.2.2.2.2.2.2.2.2.2.2.2.2.2.2.2.1
theorem xAll_clique {INV : Nat → xM → Prop} (h : xAll INV) : ∀ (a1 : Int32), xSim INV (F_X11_clique 0 a1) (F_X12_clique 164 a1) := h.2.2.2.2.2.2.2.2.2.2.2.2.2.2.2.2.2.2.2.2.2.2.2.2.2.2.2.2.2.2.1
theorem xAll_papers {INV : Nat → xM → Prop} (h : xAll INV) : ∀ (a1 : Int32), xSim INV (F_X11_papers 0 a1) (F_X12_papers 164 a1) := h.2.2.2.2.2.2.2.2.2.2.2.2.2.2.2.2.2.2.2.2.2.2.2.2.2.2.2.2.2.2.2.1
theorem xAll_balance {INV : Nat → xM → Prop} (h : xAll INV) : ∀ (a1 : Int32), xSim INV (F_X11_balance 0 a1) (F_X12_balance 164 a1) := h.2.2.2.2.2.2.2.2.2.2.2.2.2.2.2.2.2.2.2.2.2.2.2.2.2.2.2.2.2.2.2.2.1
theorem xAll_payments {INV : Nat → xM → Prop} (h : xAll INV) : xSim INV (F_X11_payments 0 ) (F_X12_payments 164 ) := h.2.2.2.2.2.2.2.2.2.2.2.2.2.2.2.2.2.2.2.2.2.2.2.2.2.2.2.2.2.2.2.2.2.1
theorem xAll_moons {INV : Nat → xM → Prop} (h : xAll INV) : ∀ (a1 : Int32), xSim INV (F_X11_moons 0 a1) (F_X12_moons 164 a1) := h.2.2.2.2.2.2.2.2.2.2.2.2.2.2.2.2.2.2.2.2.2.2.2.2.2.2.2.2.2.2.2.2.2.2.1
theorem xAll_look {INV : Nat → xM → Prop} (h : xAll INV) : ∀ (a1 : Int32), xSim INV (F_X11_look 0 a1) (F_X12_look 164 a1) := h.2.2.2.2.2.2.2.2.2.2.2.2.2.2.2.2.2.2.2.2.2.2.2.2.2.2.2.2.2.2.2.2.2.2.2.1
theorem xAll_puts {INV : Nat → xM → Prop} (h : xAll INV) : ∀ (a1 : Int32), xSim INV (F_X11_puts 0 a1) (F_X12_puts 164 a1) := h.2.2.2.2.2.2.2.2.2.2.2.2.2.2.2.2.2.2.2.2.2.2.2.2.2.2.2.2.2.2.2.2.2.2.2.2.1
theorem xAll_wins {INV : Nat → xM → Prop} (h : xAll INV) : xSim INV (F_X11_wins 0 ) (F_X12_wins 164 ) := h.2.2.2.2.2.2.2.2.2.2.2.2.2.2.2.2.2.2.2.2.2.2.2.2.2.2.2.2.2.2.2.2.2.2.2.2.2.1
theorem xAll_chance {INV : Nat → xM → Prop} (h : xAll INV) : ∀ (a1 : Int32) (a2 : Int32) (a3 : Int32), xSim INV (F_X11_chance 0 a1 a2 a3) (F_X12_chance 164 a1 a2 a3) := h.2.2.2.2.2.2.2.2.2.2.2.2.2.2.2.2.2.2.2.2.2.2.2.2.2.2.2.2.2.2.2.2.2.2.2.2.2.2.1
theorem xAll_mean {INV : Nat → xM → Prop} (h : xAll INV) : ∀ (a1 : Int32) (a2 : Int32), xSim INV (F_X11_mean 0 a1 a2) (F_X12_mean 164 a1 a2) := h.2.2.2.2.2.2.2.2.2.2.2.2.2.2.2.2.2.2.2.2.2.2.2.2.2.2.2.2.2.2.2.2.2.2.2.2.2.2.2.1
theorem xAll_numbers {INV : Nat → xM → Prop} (h : xAll INV) : ∀ (a1 : Int32) (a2 : Int32) (a3 : Int32), xSim INV (F_X11_numbers 0 a1 a2 a3) (F_X12_numbers 164 a1 a2 a3) := h.2.2.2.2.2.2.2.2.2.2.2.2.2.2.2.2.2.2.2.2.2.2.2.2.2.2.2.2.2.2.2.2.2.2.2.2.2.2.2.2.1
theorem xAll_write {INV : Nat → xM → Prop} (h : xAll INV) : ∀ (a1 : Int32) (a2 : Int32) (a3 : Int64), xSimL INV (F_X11_write 0 a1 a2 a3) (F_X12_write 164 a1 a2 a3) := h.2.2.2.2.2.2.2.2.2.2.2.2.2.2.2.2.2.2.2.2.2.2.2.2.2.2.2.2.2.2.2.2.2.2.2.2.2.2.2.2.2.1
theorem xAll_lists {INV : Nat → xM → Prop} (h : xAll INV) : ∀ (a1 : Int32), xSim INV (F_X11_lists 0 a1) (F_X12_lists 164 a1) := h.2.2.2.2.2.2.2.2.2.2.2.2.2.2.2.2.2.2.2.2.2.2.2.2.2.2.2.2.2.2.2.2.2.2.2.2.2.2.2.2.2.2.1
theorem xAll_image {INV : Nat → xM → Prop} (h : xAll INV) : ∀ (a1 : Int32), xSim INV (F_X11_image 0 a1) (F_X12_image 164 a1) := h.2.2.2.2.2.2.2.2.2.2.2.2.2.2.2.2.2.2.2.2.2.2.2.2.2.2.2.2.2.2.2.2.2.2.2.2.2.2.2.2.2.2.2.1
theorem xAll_restore {INV : Nat → xM → Prop} (h : xAll INV) : ∀ (a1 : Int32), xSim INV (F_X11_restore 0 a1) (F_X12_restore 164 a1) := h.2.2.2.2.2.2.2.2.2.2.2.2.2.2.2.2.2.2.2.2.2.2.2.2.2.2.2.2.2.2.2.2.2.2.2.2.2.2.2.2.2.2.2.2.1
theorem xAll_count {INV : Nat → xM → Prop} (h : xAll INV) : ∀ (a1 : Int32), xSim INV (F_X11_count 0 a1) (F_X12_count 164 a1) := h.2.2.2.2.2.2.2.2.2.2.2.2.2.2.2.2.2.2.2.2.2.2.2.2.2.2.2.2.2.2.2.2.2.2.2.2.2.2.2.2.2.2.2.2.2
set_option maxRecDepth 100000 in
set_option maxHeartbeats 4000000 in
theorem lw_loop {p : Program} {e : Env} {s : State} {m : MethodId} {below : List Frame} {meth : Method} {c : Code} (l : Launch) {b L : Nat} {xs : Nat → Int32} {κ : xQ} (X : xX p s m #[Value.ref b] c code 4 RL κ) (hr : meth.sig.returnType = ret) (hlk : meth.locks = false) (hX : va_X b L xs s s.heap) (hz : κ.1 = s.heap.size) (hbl : b < s.heap.size) (hL : L ≤ 3072) {INV : Nat → xM → Prop} (hAll : xAll INV) (hmono : ∀ n M, INV n M → INV (n + 1) M) :
    ∀ (k n : Nat) (M : xM), INV n M → 6 * n ≤ L → L + 1 ≤ 6 * n + k → ∀ (H : Heap) (locs : List Loc) (ls : Array Slot), xO κ s M H locs → lv_has ls 4 [(3, .int (nI (6 * n))), (2, .ref (κ.1 + 164)), (1, .ref (κ.1 + 0)), (0, .ref b)] → W p l e room_1 s m #[Value.ref b] below meth c H locs 185 17741 (lw_Z below #[Value.ref b] s) (F0 m 18 ls []) := by
  have hx := X.1
  have hb := X.2.1
  intro k
  induction k with
  | zero => intro n M hI h1 h2; omega
  | succ k ih =>
    intro n M hI h1 h2 H locs ls O hl
    refine lv_iload_n hx hb dL_law_18 rfl (lv_at hl 0 rfl) ?_
    refine lv_aload_n hx hb dL_law_19 rfl (lv_at hl 3 rfl) ?_
    refine va_slen X.1 X.2.1 hX hbl (fun h => absurd (show κ.1 ≤ b from h) (by omega)) O.2 dL_law_20 ?_
    refine lv_bipush (v := (6 : Int32)) hx hb dL_law_21 (by decide) ?_
    refine lv_isub hx hb dL_law_23 ?_
    have e6 : (Int32.ofNat L - 6 : Int32).toInt = (L : Int) - 6 := pk_sub_toInt (a := L) (b := 6) (by omega) (by omega)
    have e7 : (nI (6 * n)).toInt = ((6 * n : Nat) : Int) := nI_toInt (by omega)
    refine lv_icmp_gt (tgt := 1440) hx hb dL_law_24 (by decide) (fun hc => ?_) (fun hc => ?_)
    · refine lv_iconst (v := (1 : Int32)) hx hb dL_law_1440 (by decide) ?_
      refine va_forget (fun q hq => by have := O.2.2.2 q hq; show s.heap.size ≤ q.base; have h9 : κ.1 ≤ q.base := this; omega) ?_
      refine W.widen (k := 600000) (n := 7302250) (Nat.le_of_ble_eq_true rfl) (Nat.le_of_ble_eq_true rfl) ?_
      exact lw_ret hx hb hr hlk dL_law_1441
    have hn : 6 * n + 6 ≤ L := by
      have h1 : ¬ ((Int32.ofNat L - 6 : Int32).toInt < (nI (6 * n)).toInt) := fun z => hc (Int32.lt_iff_toInt_lt.mpr z)
      rw [e6, e7] at h1
      omega
    refine lv_aload_n hx hb dL_law_27 rfl (lv_at hl 3 rfl) ?_
    refine lv_iload_n hx hb dL_law_28 rfl (lv_at hl 0 rfl) ?_
    refine xr_scr X O hX hz hbl (j := 6 * n) rfl (by omega) hL dL_law_29 ?_
    refine lv_bipush (v := (63 : Int32)) hx hb dL_law_30 (by decide) ?_
    refine lv_iand hx hb dL_law_32 ?_
    have go : ∀ (M : xM), INV (n + 1) M → ∀ (H : Heap) (locs : List Loc) (ls : Array Slot), xO κ s M H locs → lv_has ls 4 [(3, .int (nI (6 * n))), (2, .ref (κ.1 + 164)), (1, .ref (κ.1 + 0)), (0, .ref b)] → W p l e room_1 s m #[Value.ref b] below meth c H locs 185 17741 (lw_Z below #[Value.ref b] s) (F0 m 1434 ls []) := by
      intro M hI H locs ls O hl
      refine lv_iinc (v := nI (6 * (n + 1))) (lv' := [(3, .int (nI (6 * (n + 1)))), (2, .ref (κ.1 + 164)), (1, .ref (κ.1 + 0)), (0, .ref b)]) hx hb dL_law_1434 hl (k := 0) rfl (nI_add (6 * n) 6) (by decide) rfl (fun ls hl => ?_)
      refine lv_goto (tgt := 18) hx hb dL_law_1437 (by decide) ?_
      exact ih (n + 1) M hI (by omega) (by omega) H locs ls O hl
    by_cases hs0 : xs (6 * n) &&& 63 = (0 : Int32)
    · refine xr_tabIn (tgt := 228) (off := 195) X dL_law_33 hs0 (by decide +kernel) (by decide +kernel) (by decide +kernel) (by decide) ?_
      exact lw_case_feed l X hX hz hbl hL (xAll_feed hAll) n hn M hI go H locs ls O hl
    by_cases hs1 : xs (6 * n) &&& 63 = (1 : Int32)
    · refine xr_tabIn (tgt := 291) (off := 258) X dL_law_33 hs1 (by decide +kernel) (by decide +kernel) (by decide +kernel) (by decide) ?_
      exact lw_case_shore l X hX hz hbl hL (xAll_shore hAll) n hn M hI go H locs ls O hl
    by_cases hs2 : xs (6 * n) &&& 63 = (2 : Int32)
    · refine xr_tabIn (tgt := 314) (off := 281) X dL_law_33 hs2 (by decide +kernel) (by decide +kernel) (by decide +kernel) (by decide) ?_
      exact lw_case_fault l X hX hz hbl hL (xAll_fault hAll) n hn M hI go H locs ls O hl
    by_cases hs3 : xs (6 * n) &&& 63 = (3 : Int32)
    · refine xr_tabIn (tgt := 337) (off := 304) X dL_law_33 hs3 (by decide +kernel) (by decide +kernel) (by decide +kernel) (by decide) ?_
      exact lw_case_sand l X hX hz hbl hL (xAll_sand hAll) n hn M hI go H locs ls O hl
    by_cases hs4 : xs (6 * n) &&& 63 = (4 : Int32)
    · refine xr_tabIn (tgt := 360) (off := 327) X dL_law_33 hs4 (by decide +kernel) (by decide +kernel) (by decide +kernel) (by decide) ?_
      exact lw_case_house l X hX hz hbl hL (xAll_house hAll) n hn M hI go H locs ls O hl
    by_cases hs5 : xs (6 * n) &&& 63 = (5 : Int32)
    · refine xr_tabIn (tgt := 393) (off := 360) X dL_law_33 hs5 (by decide +kernel) (by decide +kernel) (by decide +kernel) (by decide) ?_
      exact lw_case_plot l X hX hz hbl hL (xAll_plot hAll) n hn M hI go H locs ls O hl
    by_cases hs6 : xs (6 * n) &&& 63 = (6 : Int32)
    · refine xr_tabIn (tgt := 426) (off := 393) X dL_law_33 hs6 (by decide +kernel) (by decide +kernel) (by decide +kernel) (by decide) ?_
      exact lw_case_level l X hX hz hbl hL (xAll_level hAll) n hn M hI go H locs ls O hl
    by_cases hs7 : xs (6 * n) &&& 63 = (7 : Int32)
    · refine xr_tabIn (tgt := 449) (off := 416) X dL_law_33 hs7 (by decide +kernel) (by decide +kernel) (by decide +kernel) (by decide) ?_
      exact lw_case_wet l X hX hz hbl hL (xAll_wet hAll) n hn M hI go H locs ls O hl
    by_cases hs8 : xs (6 * n) &&& 63 = (8 : Int32)
    · refine xr_tabIn (tgt := 472) (off := 439) X dL_law_33 hs8 (by decide +kernel) (by decide +kernel) (by decide +kernel) (by decide) ?_
      exact lw_case_minutes l X hX hz hbl hL (xAll_minutes hAll) n hn M hI go H locs ls O hl
    by_cases hs9 : xs (6 * n) &&& 63 = (9 : Int32)
    · refine xr_tabIn (tgt := 495) (off := 462) X dL_law_33 hs9 (by decide +kernel) (by decide +kernel) (by decide +kernel) (by decide) ?_
      exact lw_case_raise l X hX hz hbl hL (xAll_raise hAll) n hn M hI go H locs ls O hl
    by_cases hs10 : xs (6 * n) &&& 63 = (10 : Int32)
    · refine xr_tabIn (tgt := 518) (off := 485) X dL_law_33 hs10 (by decide +kernel) (by decide +kernel) (by decide +kernel) (by decide) ?_
      exact lw_case_dig l X hX hz hbl hL (xAll_dig hAll) n hn M hI go H locs ls O hl
    by_cases hs11 : xs (6 * n) &&& 63 = (11 : Int32)
    · refine xr_tabIn (tgt := 541) (off := 508) X dL_law_33 hs11 (by decide +kernel) (by decide +kernel) (by decide +kernel) (by decide) ?_
      exact lw_case_build l X hX hz hbl hL (xAll_build hAll) n hn M hI go H locs ls O hl
    by_cases hs12 : xs (6 * n) &&& 63 = (12 : Int32)
    · refine xr_tabIn (tgt := 574) (off := 541) X dL_law_33 hs12 (by decide +kernel) (by decide +kernel) (by decide +kernel) (by decide) ?_
      exact lw_case_moon l X hX hz hbl hL (xAll_moon hAll) n hn M hI go H locs ls O hl
    by_cases hs13 : xs (6 * n) &&& 63 = (13 : Int32)
    · refine xr_tabIn (tgt := 597) (off := 564) X dL_law_33 hs13 (by decide +kernel) (by decide +kernel) (by decide +kernel) (by decide) ?_
      exact lw_case_undo l X hX hz hbl hL (xAll_undo hAll) n hn M hI go H locs ls O hl
    by_cases hs14 : xs (6 * n) &&& 63 = (14 : Int32)
    · refine xr_tabIn (tgt := 620) (off := 587) X dL_law_33 hs14 (by decide +kernel) (by decide +kernel) (by decide +kernel) (by decide) ?_
      exact lw_case_judge l X hX hz hbl hL (xAll_judge hAll) n hn M hI go H locs ls O hl
    by_cases hs15 : xs (6 * n) &&& 63 = (15 : Int32)
    · refine xr_tabIn (tgt := 653) (off := 620) X dL_law_33 hs15 (by decide +kernel) (by decide +kernel) (by decide +kernel) (by decide) ?_
      exact lw_case_perform l X hX hz hbl hL (xAll_perform hAll) n hn M hI go H locs ls O hl
    by_cases hs16 : xs (6 * n) &&& 63 = (16 : Int32)
    · refine xr_tabIn (tgt := 676) (off := 643) X dL_law_33 hs16 (by decide +kernel) (by decide +kernel) (by decide +kernel) (by decide) ?_
      exact lw_case_day l X hX hz hbl hL (xAll_day hAll) n hn M hI go H locs ls O hl
    by_cases hs17 : xs (6 * n) &&& 63 = (17 : Int32)
    · refine xr_tabIn (tgt := 709) (off := 676) X dL_law_33 hs17 (by decide +kernel) (by decide +kernel) (by decide +kernel) (by decide) ?_
      exact lw_case_falls l X hX hz hbl hL (xAll_falls hAll) n hn M hI go H locs ls O hl
    by_cases hs18 : xs (6 * n) &&& 63 = (18 : Int32)
    · refine xr_tabIn (tgt := 732) (off := 699) X dL_law_33 hs18 (by decide +kernel) (by decide +kernel) (by decide +kernel) (by decide) ?_
      exact lw_case_stands l X hX hz hbl hL (xAll_stands hAll) n hn M hI go H locs ls O hl
    by_cases hs19 : xs (6 * n) &&& 63 = (19 : Int32)
    · refine xr_tabIn (tgt := 755) (off := 722) X dL_law_33 hs19 (by decide +kernel) (by decide +kernel) (by decide +kernel) (by decide) ?_
      exact lw_case_when l X hX hz hbl hL (xAll_when hAll) n hn M hI go H locs ls O hl
    by_cases hs20 : xs (6 * n) &&& 63 = (20 : Int32)
    · refine xr_tabIn (tgt := 778) (off := 745) X dL_law_33 hs20 (by decide +kernel) (by decide +kernel) (by decide +kernel) (by decide) ?_
      exact lw_case_worn l X hX hz hbl hL (xAll_worn hAll) n hn M hI go H locs ls O hl
    by_cases hs21 : xs (6 * n) &&& 63 = (21 : Int32)
    · refine xr_tabIn (tgt := 811) (off := 778) X dL_law_33 hs21 (by decide +kernel) (by decide +kernel) (by decide +kernel) (by decide) ?_
      exact lw_case_last l X hX hz hbl hL (xAll_last hAll) n hn M hI go H locs ls O hl
    by_cases hs22 : xs (6 * n) &&& 63 = (22 : Int32)
    · refine xr_tabIn (tgt := 824) (off := 791) X dL_law_33 hs22 (by decide +kernel) (by decide +kernel) (by decide +kernel) (by decide) ?_
      exact lw_case_owner l X hX hz hbl hL (xAll_owner hAll) n hn M hI go H locs ls O hl
    by_cases hs23 : xs (6 * n) &&& 63 = (23 : Int32)
    · refine xr_tabIn (tgt := 847) (off := 814) X dL_law_33 hs23 (by decide +kernel) (by decide +kernel) (by decide +kernel) (by decide) ?_
      exact lw_case_least l X hX hz hbl hL (xAll_least hAll) n hn M hI go H locs ls O hl
    by_cases hs24 : xs (6 * n) &&& 63 = (24 : Int32)
    · refine xr_tabIn (tgt := 880) (off := 847) X dL_law_33 hs24 (by decide +kernel) (by decide +kernel) (by decide +kernel) (by decide) ?_
      exact lw_case_safe l X hX hz hbl hL (xAll_safe hAll) n hn M hI go H locs ls O hl
    by_cases hs25 : xs (6 * n) &&& 63 = (25 : Int32)
    · refine xr_tabIn (tgt := 903) (off := 870) X dL_law_33 hs25 (by decide +kernel) (by decide +kernel) (by decide +kernel) (by decide) ?_
      exact lw_case_worst l X hX hz hbl hL (xAll_worst hAll) n hn M hI go H locs ls O hl
    by_cases hs26 : xs (6 * n) &&& 63 = (26 : Int32)
    · refine xr_tabIn (tgt := 916) (off := 883) X dL_law_33 hs26 (by decide +kernel) (by decide +kernel) (by decide +kernel) (by decide) ?_
      exact lw_case_plan l X hX hz hbl hL (xAll_plan hAll) n hn M hI go H locs ls O hl
    by_cases hs27 : xs (6 * n) &&& 63 = (27 : Int32)
    · refine xr_tabIn (tgt := 939) (off := 906) X dL_law_33 hs27 (by decide +kernel) (by decide +kernel) (by decide +kernel) (by decide) ?_
      exact lw_case_order l X hX hz hbl hL (xAll_order hAll) n hn M hI go H locs ls O hl
    by_cases hs28 : xs (6 * n) &&& 63 = (28 : Int32)
    · refine xr_tabIn (tgt := 962) (off := 929) X dL_law_33 hs28 (by decide +kernel) (by decide +kernel) (by decide +kernel) (by decide) ?_
      exact lw_case_colours l X hX hz hbl hL (xAll_colours hAll) n hn M hI go H locs ls O hl
    by_cases hs29 : xs (6 * n) &&& 63 = (29 : Int32)
    · refine xr_tabIn (tgt := 985) (off := 952) X dL_law_33 hs29 (by decide +kernel) (by decide +kernel) (by decide +kernel) (by decide) ?_
      exact lw_case_clique l X hX hz hbl hL (xAll_clique hAll) n hn M hI go H locs ls O hl
    by_cases hs30 : xs (6 * n) &&& 63 = (30 : Int32)
    · refine xr_tabIn (tgt := 1008) (off := 975) X dL_law_33 hs30 (by decide +kernel) (by decide +kernel) (by decide +kernel) (by decide) ?_
      exact lw_case_papers l X hX hz hbl hL (xAll_papers hAll) n hn M hI go H locs ls O hl
    by_cases hs31 : xs (6 * n) &&& 63 = (31 : Int32)
    · refine xr_tabIn (tgt := 1031) (off := 998) X dL_law_33 hs31 (by decide +kernel) (by decide +kernel) (by decide +kernel) (by decide) ?_
      exact lw_case_balance l X hX hz hbl hL (xAll_balance hAll) n hn M hI go H locs ls O hl
    by_cases hs32 : xs (6 * n) &&& 63 = (32 : Int32)
    · refine xr_tabIn (tgt := 1054) (off := 1021) X dL_law_33 hs32 (by decide +kernel) (by decide +kernel) (by decide +kernel) (by decide) ?_
      exact lw_case_payments l X hX hz hbl hL (xAll_payments hAll) n hn M hI go H locs ls O hl
    by_cases hs33 : xs (6 * n) &&& 63 = (33 : Int32)
    · refine xr_tabIn (tgt := 1067) (off := 1034) X dL_law_33 hs33 (by decide +kernel) (by decide +kernel) (by decide +kernel) (by decide) ?_
      exact lw_case_moons l X hX hz hbl hL (xAll_moons hAll) n hn M hI go H locs ls O hl
    by_cases hs34 : xs (6 * n) &&& 63 = (34 : Int32)
    · refine xr_tabIn (tgt := 1090) (off := 1057) X dL_law_33 hs34 (by decide +kernel) (by decide +kernel) (by decide +kernel) (by decide) ?_
      exact lw_case_look l X hX hz hbl hL (xAll_look hAll) n hn M hI go H locs ls O hl
    by_cases hs35 : xs (6 * n) &&& 63 = (35 : Int32)
    · refine xr_tabIn (tgt := 1113) (off := 1080) X dL_law_33 hs35 (by decide +kernel) (by decide +kernel) (by decide +kernel) (by decide) ?_
      exact lw_case_puts l X hX hz hbl hL (xAll_puts hAll) n hn M hI go H locs ls O hl
    by_cases hs36 : xs (6 * n) &&& 63 = (36 : Int32)
    · refine xr_tabIn (tgt := 1136) (off := 1103) X dL_law_33 hs36 (by decide +kernel) (by decide +kernel) (by decide +kernel) (by decide) ?_
      exact lw_case_wins l X hX hz hbl hL (xAll_wins hAll) n hn M hI go H locs ls O hl
    by_cases hs37 : xs (6 * n) &&& 63 = (37 : Int32)
    · refine xr_tabIn (tgt := 1149) (off := 1116) X dL_law_33 hs37 (by decide +kernel) (by decide +kernel) (by decide +kernel) (by decide) ?_
      exact lw_case_chance l X hX hz hbl hL (xAll_chance hAll) n hn M hI go H locs ls O hl
    by_cases hs38 : xs (6 * n) &&& 63 = (38 : Int32)
    · refine xr_tabIn (tgt := 1192) (off := 1159) X dL_law_33 hs38 (by decide +kernel) (by decide +kernel) (by decide +kernel) (by decide) ?_
      exact lw_case_mean l X hX hz hbl hL (xAll_mean hAll) n hn M hI go H locs ls O hl
    by_cases hs39 : xs (6 * n) &&& 63 = (39 : Int32)
    · refine xr_tabIn (tgt := 1225) (off := 1192) X dL_law_33 hs39 (by decide +kernel) (by decide +kernel) (by decide +kernel) (by decide) ?_
      exact lw_case_numbers l X hX hz hbl hL (xAll_numbers hAll) n hn M hI go H locs ls O hl
    by_cases hs40 : xs (6 * n) &&& 63 = (40 : Int32)
    · refine xr_tabIn (tgt := 1268) (off := 1235) X dL_law_33 hs40 (by decide +kernel) (by decide +kernel) (by decide +kernel) (by decide) ?_
      exact lw_case_write l X hX hz hbl hL (xAll_write hAll) n hn M hI go H locs ls O hl
    by_cases hs41 : xs (6 * n) &&& 63 = (41 : Int32)
    · refine xr_tabIn (tgt := 1342) (off := 1309) X dL_law_33 hs41 (by decide +kernel) (by decide +kernel) (by decide +kernel) (by decide) ?_
      exact lw_case_lists l X hX hz hbl hL (xAll_lists hAll) n hn M hI go H locs ls O hl
    by_cases hs42 : xs (6 * n) &&& 63 = (42 : Int32)
    · refine xr_tabIn (tgt := 1365) (off := 1332) X dL_law_33 hs42 (by decide +kernel) (by decide +kernel) (by decide +kernel) (by decide) ?_
      exact lw_case_image l X hX hz hbl hL (xAll_image hAll) n hn M hI go H locs ls O hl
    by_cases hs43 : xs (6 * n) &&& 63 = (43 : Int32)
    · refine xr_tabIn (tgt := 1388) (off := 1355) X dL_law_33 hs43 (by decide +kernel) (by decide +kernel) (by decide +kernel) (by decide) ?_
      exact lw_case_restore l X hX hz hbl hL (xAll_restore hAll) n hn M hI go H locs ls O hl
    by_cases hs44 : xs (6 * n) &&& 63 = (44 : Int32)
    · refine xr_tabIn (tgt := 1411) (off := 1378) X dL_law_33 hs44 (by decide +kernel) (by decide +kernel) (by decide +kernel) (by decide) ?_
      exact lw_case_count l X hX hz hbl hL (xAll_count hAll) n hn M hI go H locs ls O hl
    have i0 := xr_nei (k := 0) (by decide) hs0
    have i1 := xr_nei (k := 1) (by decide) hs1
    have i2 := xr_nei (k := 2) (by decide) hs2
    have i3 := xr_nei (k := 3) (by decide) hs3
    have i4 := xr_nei (k := 4) (by decide) hs4
    have i5 := xr_nei (k := 5) (by decide) hs5
    have i6 := xr_nei (k := 6) (by decide) hs6
    have i7 := xr_nei (k := 7) (by decide) hs7
    have i8 := xr_nei (k := 8) (by decide) hs8
    have i9 := xr_nei (k := 9) (by decide) hs9
    have i10 := xr_nei (k := 10) (by decide) hs10
    have i11 := xr_nei (k := 11) (by decide) hs11
    have i12 := xr_nei (k := 12) (by decide) hs12
    have i13 := xr_nei (k := 13) (by decide) hs13
    have i14 := xr_nei (k := 14) (by decide) hs14
    have i15 := xr_nei (k := 15) (by decide) hs15
    have i16 := xr_nei (k := 16) (by decide) hs16
    have i17 := xr_nei (k := 17) (by decide) hs17
    have i18 := xr_nei (k := 18) (by decide) hs18
    have i19 := xr_nei (k := 19) (by decide) hs19
    have i20 := xr_nei (k := 20) (by decide) hs20
    have i21 := xr_nei (k := 21) (by decide) hs21
    have i22 := xr_nei (k := 22) (by decide) hs22
    have i23 := xr_nei (k := 23) (by decide) hs23
    have i24 := xr_nei (k := 24) (by decide) hs24
    have i25 := xr_nei (k := 25) (by decide) hs25
    have i26 := xr_nei (k := 26) (by decide) hs26
    have i27 := xr_nei (k := 27) (by decide) hs27
    have i28 := xr_nei (k := 28) (by decide) hs28
    have i29 := xr_nei (k := 29) (by decide) hs29
    have i30 := xr_nei (k := 30) (by decide) hs30
    have i31 := xr_nei (k := 31) (by decide) hs31
    have i32 := xr_nei (k := 32) (by decide) hs32
    have i33 := xr_nei (k := 33) (by decide) hs33
    have i34 := xr_nei (k := 34) (by decide) hs34
    have i35 := xr_nei (k := 35) (by decide) hs35
    have i36 := xr_nei (k := 36) (by decide) hs36
    have i37 := xr_nei (k := 37) (by decide) hs37
    have i38 := xr_nei (k := 38) (by decide) hs38
    have i39 := xr_nei (k := 39) (by decide) hs39
    have i40 := xr_nei (k := 40) (by decide) hs40
    have i41 := xr_nei (k := 41) (by decide) hs41
    have i42 := xr_nei (k := 42) (by decide) hs42
    have i43 := xr_nei (k := 43) (by decide) hs43
    have i44 := xr_nei (k := 44) (by decide) hs44
    obtain ⟨j, hj, ej⟩ := pk_andE (xs (6 * n)) (m := 63) 6 (by decide)
    rw [ej] at i0 i1 i2 i3 i4 i5 i6 i7 i8 i9 i10 i11 i12 i13 i14 i15 i16 i17 i18 i19 i20 i21 i22 i23 i24 i25 i26 i27 i28 i29 i30 i31 i32 i33 i34 i35 i36 i37 i38 i39 i40 i41 i42 i43 i44
    have e8 : (nI j).toInt = (j : Int) := nI_toInt (by omega)
    rw [e8] at i0 i1 i2 i3 i4 i5 i6 i7 i8 i9 i10 i11 i12 i13 i14 i15 i16 i17 i18 i19 i20 i21 i22 i23 i24 i25 i26 i27 i28 i29 i30 i31 i32 i33 i34 i35 i36 i37 i38 i39 i40 i41 i42 i43 i44
    refine lv_tableOut (tgt := 1434) hx hb dL_law_33 (by rw [ej, e8]; omega) (by decide) ?_
    obtain ⟨r, M1, M2, h1, h2, hc1, hc2, hI2⟩ := xAll_count hAll 99 n M (by omega) hI
    exact go M (hmono n M hI) H locs ls O hl
