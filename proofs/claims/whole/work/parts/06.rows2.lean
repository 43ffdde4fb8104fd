section XR2
variable {p : Program} {l : Launch} {e : Env} {R : Room} {s : State} {m : MethodId} {args : Array Value} {below : List Frame} {meth : Method} {c : Code} {H : Heap} {locs : List Loc} {cells slots : Nat} {Q : State → Prop}
variable {cc : ByteArray} {nL : Nat} {own : String} {κ : xQ} {M M' : xM} {pc : Nat} {ls : Array Slot} {rest : List Value}
theorem xr_size {g : JFrame} (h : s.heap.size ≤ H.size → H.size ≤ s.heap.size + cells → W p l e R s m args below meth c H locs cells slots Q g) : W p l e R s m args below meth c H locs cells slots Q g := by
  intro T hT X
  have h1 := X.same.2.1
  have h2 := X.same.2.2.1
  have e1 : (T.setVm s.vm).heap = H := hT
  rw [e1] at h1 h2
  exact h h1 h2 T hT X
theorem xr_putV (X : xX p s m args c cc nL own κ) (O : xO κ s M H locs) {k ci n f kd idx : Nat} {fin : Bool} {v : Value} (hs : M.1[k]? = some (ci, n)) (fl : xFL own idx ci f kd fin) (hfin : fin = true → meth.name = "<init>" ∧ vwCl[ci]?.map Prod.fst = some own)
    (hok : ∀ t, xtk t = kd → narrow t v = v ∧ fits t v = true) (h1 : M'.1 = M.1) (hI : ∀ j, j ≠ k → M'.2.1 j = M.2.1 j) (hJ : M'.2.2.1 = M.2.2.1) (hP : ∀ j, j ≠ k → M'.2.2.2 j = M.2.2.2 j)
    (hv : v = xfv κ.1 (M'.2.1 k) (M.2.2.1 k) (M'.2.2.2 k) f kd) (hI2 : ∀ j, j ≠ f → M'.2.1 k j = M.2.1 k j) (hP2 : ∀ j, j ≠ f → M'.2.2.2 k j = M.2.2.2 k j) (hdg : decode cc pc = .ok (.putfield idx, 3))
    (kk : ∀ (H : Heap) (locs : List Loc), xO κ s M' H locs → W p l e R s m args below meth c H locs cells slots Q (F0 m (pc + 3) ls rest)) : W p l e R s m args below meth c H locs cells slots Q (F0 m pc ls (v :: .ref (κ.1 + k) :: rest)) := by
  obtain ⟨C, T, N, ty, ⟨hc, h20, hin, hty, hnm, hN⟩, hf, hl, hk, htk, hfn, -, hT⟩ := fl
  have hts := X.2.2.2.2.1
  have hKK : va_K κ.2.2.1 vwCl (xtys κ.2.1) s := X.2.2.2.2.2.1
  have hap := va_apart (own := own) hts hin ty hty hnm hKK hc
  have hw := xWs_at (z := κ.1) (cA := κ.2.1) hs
  rw [xE_obj h20] at hw
  obtain ⟨r, hr1, cell, q1, q2, q3, q4⟩ := O.1.1 k _ hw
  have hr : r = (C, T, N) := Option.some.inj (hr1.symm.trans hc)
  subst hr
  obtain ⟨hS, hfc, kC, hkC, hkind⟩ := hKK.1 ci _ hc
  obtain ⟨cf, kf, fi, fd, hi, hsl⟩ := hS f hf
  have hlay := hts _ (hin _ (u_in_lay hf))
  have hst := (u_facts hfc hkC (u_lays hts hin hf) hi).1
  obtain ⟨hn, hfit⟩ := hok (ty f) htk
  have hlen : f < (xF κ.1 (xts ci) (M.2.1 k) (M.2.2.1 k) (M.2.2.2 k)).length := by rw [xF_len, hN]; exact hf
  have fin1 : ∀ H1 : Heap, H1[κ.1 + k]? = some (cell.setSlot (κ.2.2.1.2 ci f) v) → H1.size = H.size → (∀ q : Nat, q ≠ κ.1 + k → H1[q]? = H[q]?) → xO κ s M' H1 (locs ++ [⟨κ.1 + k, κ.2.2.1.2 ci f⟩]) := by
    intro H1 e1 e2 e3
    refine xO_set O hs h1 hI (fun j _ => by rw [hJ]) hP ?_ e2 e3
    rw [xE_obj h20, hJ, ← xF_set hk hv hI2 hP2]
    exact ⟨_, hc, t_OB.to (V := updV (vp_V _) f v) ⟨_, e1, q2, q3, t_set q4 hap hf v⟩ (fun j _ => vp_updV_set hlen v j)⟩
  unfold u_lay at hlay
  cases hfb : fin with
  | false =>
    rw [if_neg (by rw [hfn, hfb]; decide)] at hlay
    have h6 := u_store hfc hkC hkind hlay hi (hty f hf) hn hfit
    refine W.putK X.1 X.2.1 (f := fd) ⟨X.2.2.2.1, hts _ hl, ⟨_, _, _, hi⟩, hst⟩ (by rw [q2]; exact h6) q1 q3 (by rw [hsl]; exact k2_hasslot (q4 f hf)) rfl rfl hdg fun H' e1 e2 e3 => ?_
    rw [hsl] at e1 ⊢
    exact kk H' _ (fin1 H' e1 e2 e3)
  | true =>
    obtain ⟨hin2, hdecl⟩ := hfin hfb
    rw [if_pos (hfn.trans hfb)] at hlay
    have hCo : C = own := by rw [hc] at hdecl; exact Option.some.inj hdecl
    have hcf : m.cls = cf := by
      obtain ⟨_, _, c', _, _, _, -, -, hf', -, -, -, hown2, -⟩ := Cond.laysFinal_spec hlay
      have e1 : c' = cf := by have := hi.symm.trans hf'; simp at this; exact this.1.symm
      rw [hT, hCo] at hown2
      rw [← e1]; exact Option.some.inj (X.2.2.2.1.symm.trans hown2)
    have h6 := u_fits hfc hkC hkind (Or.inr hlay) hi (hty f hf) hn hfit
    refine W.putFinK X.1 X.2.1 X.2.2.2.1 (hts _ hl) hi hst hcf hin2 (by rw [q2]; exact h6) q1 q3 (by rw [hsl]; exact k2_hasslot (q4 f hf)) rfl rfl hdg fun H' e1 e2 e3 => ?_
    rw [hsl] at e1 ⊢
    exact kk H' _ (fin1 H' e1 e2 e3)
theorem xtk_int {t : FieldType} (h : xtk t = 0) : t = .int := by cases t <;> simp [xtk] at h; rfl
theorem xtk_bool {t : FieldType} (h : xtk t = 3) : t = .boolean := by cases t <;> simp [xtk] at h; rfl
theorem xr_putI (X : xX p s m args c cc nL own κ) (O : xO κ s M H locs) {k ci f idx : Nat} {v : Int32} (hv : xpI M k ci f v = some M') (fl : xFL own idx ci f 0 false) (hdg : decode cc pc = .ok (.putfield idx, 3))
    (kk : ∀ (H : Heap) (locs : List Loc), xO κ s M' H locs → W p l e R s m args below meth c H locs cells slots Q (F0 m (pc + 3) ls rest)) : W p l e R s m args below meth c H locs cells slots Q (F0 m pc ls (.int v :: .ref (κ.1 + k) :: rest)) := by
  unfold xpI at hv
  split at hv
  · next hs =>
    cases hv
    obtain ⟨n, hs⟩ := xk_of hs
    exact xr_putV (M' := (M.1, xu M.2.1 k f v, M.2.2.1, M.2.2.2)) X O hs fl (fun h => by cases h) (fun t ht => by rw [xtk_int ht]; exact ⟨rfl, rfl⟩) rfl (fun j hj => xu_ne hj) rfl (fun _ _ => rfl) (by simp [xfv, xu]) (fun j hj => by simp [xu, hj]) (fun _ _ => rfl) hdg kk
  · cases hv
theorem xr_putZ (X : xX p s m args c cc nL own κ) (O : xO κ s M H locs) {k ci f idx : Nat} {v : Int32} (hv : xpZ M k ci f v = some M') (fl : xFL own idx ci f 3 false) (hdg : decode cc pc = .ok (.putfield idx, 3))
    (kk : ∀ (H : Heap) (locs : List Loc), xO κ s M' H locs → W p l e R s m args below meth c H locs cells slots Q (F0 m (pc + 3) ls rest)) : W p l e R s m args below meth c H locs cells slots Q (F0 m pc ls (.int v :: .ref (κ.1 + k) :: rest)) := by
  unfold xpZ at hv
  split at hv
  · next hs =>
    cases hv
    obtain ⟨hs, hz⟩ := hs
    obtain ⟨n, hs⟩ := xk_of hs
    exact xr_putV (M' := (M.1, xu M.2.1 k f v, M.2.2.1, M.2.2.2)) X O hs fl (fun h => by cases h) (fun t ht => by rw [xtk_bool ht]; rcases hz with rfl | rfl <;> exact ⟨rfl, rfl⟩) rfl (fun j hj => xu_ne hj) rfl (fun _ _ => rfl) (by simp [xfv, xu]) (fun j hj => by simp [xu, hj]) (fun _ _ => rfl) hdg kk
  · cases hv
theorem xr_putP (X : xX p s m args c cc nL own κ) (O : xO κ s M H locs) {k ci f idx v : Nat} {fin : Bool} (hv : xpP M k ci f v = some M') (fl : xFL own idx ci f 2 fin) (hfin : fin = true → meth.name = "<init>" ∧ vwCl[ci]?.map Prod.fst = some own) (hdg : decode cc pc = .ok (.putfield idx, 3))
    (kk : ∀ (H : Heap) (locs : List Loc), xO κ s M' H locs → W p l e R s m args below meth c H locs cells slots Q (F0 m (pc + 3) ls rest)) : W p l e R s m args below meth c H locs cells slots Q (F0 m pc ls (.ref (κ.1 + v) :: .ref (κ.1 + k) :: rest)) := by
  unfold xpP at hv
  split at hv
  · next hs =>
    cases hv
    obtain ⟨n, hs⟩ := xk_of hs
    exact xr_putV (M' := (M.1, M.2.1, M.2.2.1, xu M.2.2.2 k f (some v))) X O hs fl hfin (fun t ht => by cases t <;> simp [xtk] at ht <;> exact ⟨rfl, rfl⟩) rfl (fun _ _ => rfl) rfl (fun j hj => xu_ne hj) (by simp [xfv, xu, va_rf]) (fun _ _ => rfl) (fun j hj => by simp [xu, hj]) hdg kk
  · cases hv
/-! ===== new cells ===== -/
def xnw (M : xM) (sh : xS) : xM := (M.1 ++ [sh], xur M.2.1 M.1.length (fun _ => 0), xur M.2.2.1 M.1.length (fun _ => 0), xur M.2.2.2 M.1.length (fun _ => none))
theorem xWs_nw {z : Nat} {cA : Nat → ClassId} {sh : xS} : xWs z cA (xnw M sh) = xWs z cA M ++ [(z + M.1.length, xE z cA sh (fun _ => 0) (fun _ => 0) (fun _ => none))] := by
  apply List.ext_getElem?
  intro j
  have hL : (xWs z cA M).length = M.1.length := by simp [xWs]
  by_cases hj : j < M.1.length
  · rw [List.getElem?_append_left (by rw [hL]; exact hj)]
    simp only [xWs, xnw]
    rw [List.getElem?_mapIdx, List.getElem?_mapIdx, List.getElem?_append_left hj]
    simp only [xur_ne (Nat.ne_of_lt hj)]
  · by_cases hj2 : j = M.1.length
    · subst hj2
      rw [List.getElem?_append_right (by rw [hL]; exact Nat.le_refl _), hL, Nat.sub_self]
      simp only [xWs, xnw]
      rw [List.getElem?_mapIdx]
      simp [xur_eq]
    · rw [List.getElem?_eq_none (by simp [xWs, xnw]; omega), List.getElem?_eq_none (by simp [hL]; omega)]
theorem xO_nw {sh : xS} {H1 : Heap} (O : xO κ s M H locs) (hat : va_at κ.2.2.1 vwCl (κ.1 + M.1.length, xE κ.1 κ.2.1 sh (fun _ => 0) (fun _ => 0) (fun _ => none)) H1) (hz : H1.size = H.size + 1) (hq : ∀ q : Nat, q < H.size → H1[q]? = H[q]?) : xO κ s (xnw M sh) H1 locs := by
  refine ⟨⟨?_, ?_⟩, ⟨Nat.le_trans O.2.1 (by omega), fun x h1 h2 => (hq x (Nat.lt_of_lt_of_le h1 O.2.1)).trans (O.2.2.1 x h1 h2), O.2.2.2⟩⟩
  · rw [xWs_nw]
    refine (O.1.1.kept (fun k x hx => hq x.1 ((O.1.1 k x hx).lt))).app (fun k x hx => ?_)
    have hz : k < 1 := (List.getElem?_eq_some_iff.mp hx).1
    rw [show k = 0 by omega] at hx
    cases hx
    exact hat
  · rw [hz, O.1.2]
    simp [xnw]
    omega
theorem xr_new (X : xX p s m args c cc nL own κ) (O : xO κ s M H locs) {ci idx : Nat} {C : String} {T : u_T} {N : Nat} {ty : Nat → FieldType} (hc : xCL ci C T N ty) (hk : ∀ j, j < N → xtk (ty j) = (xts ci).getD j 9) (hcl : Cond.classLink own idx C ∈ xw) (hin : Cond.instantiable C N ∈ xw) (hini : Cond.initialized C ∈ xw) (hkd : (xts ci).all (fun t => t == 0 || t == 2 || t == 3) = true)
    (hcells : cells + 1 ≤ R.cells) (hslots : slots + N ≤ R.slots) (hdg : decode cc pc = .ok (.new idx, 3))
    (kk : ∀ (H : Heap) (locs : List Loc), xO κ s (xnw M (ci, 0)) H locs → W p l e R s m args below meth c H locs (cells + 1) (slots + N) Q (F0 m (pc + 3) ls (.ref (κ.1 + M.1.length) :: rest))) : W p l e R s m args below meth c H locs cells slots Q (F0 m pc ls rest) := by
  obtain ⟨hc, h20, hi, hty, hnm, hN⟩ := hc
  have hts := X.2.2.2.2.1
  have hKn := X.2.2.2.2.2.1.1 ci _ hc
  refine W.newcK X.1 X.2.1 X.2.2.2.1 (hts _ hcl) (hts _ hin) (hts _ hini) rfl hdg hcells hslots hKn.2.1 O.1.2 fun H1 kC hkC e1 z1 o1 => ?_
  refine kk H1 _ (xO_nw O ?_ (by rw [z1, O.1.2]) (fun q hq => o1 q (by rw [← O.1.2]; exact hq)))
  rw [xE_obj h20]
  refine ⟨_, hc, (u_born ty hts hi hKn hkC e1 hty).to (fun j hj => ?_)⟩
  have hj2 : j < (xts ci).length := by rw [hN]; exact hj
  have hg : (xts ci)[j]? = some (xts ci)[j] := List.getElem?_eq_getElem hj2
  have h1 := hk j hj
  rw [List.getD_eq_getElem?_getD, hg, Option.getD_some] at h1
  have h2 : ((xts ci)[j] == 0 || (xts ci)[j] == 2 || (xts ci)[j] == 3) = true := List.all_eq_true.mp hkd _ (List.getElem_mem hj2)
  simp only [vp_V, List.getD_eq_getElem?_getD, xF_at hg, Option.getD_some, xfv]
  revert h1 h2
  generalize (xts ci)[j] = t
  generalize ty j = tt
  intro h1 h2
  cases tt <;> simp only [xtk] at h1 <;> subst h1 <;> first | rfl | (exfalso; revert h2; decide)
theorem xr_newI (X : xX p s m args c cc nL own κ) (O : xO κ s M H locs) {n : Int32} {N : Nat} (har : Cond.arrayClass .int ∈ xw) (hn : ¬ n < 0) (hN : n.toNatClampNeg = N) (hb : N * 4 ≤ 536870912) (hcells : cells + 1 ≤ R.cells) (hslots : slots + N ≤ R.slots) (hdg : decode cc pc = .ok (.newarray .int, 2))
    (kk : ∀ (H : Heap) (locs : List Loc), xO κ s (xnw M (20, N)) H locs → W p l e R s m args below meth c H locs (cells + 1) (slots + N) Q (F0 m (pc + 2) ls (.ref (κ.1 + M.1.length) :: rest))) : W p l e R s m args below meth c H locs cells slots Q (F0 m pc ls (.int n :: rest)) := by
  refine va_newaK (atype := .int) X.1 X.2.1 (X.2.2.2.2.1 _ har) rfl hdg rfl hn hN hb hcells hslots O.1.2 fun H1 cA e1 z1 o1 hAr hNm => ?_
  have hcA : cA = κ.2.1 20 := Option.some.inj (hNm.symm.trans (X.2.2.2.2.2.1.2 0 _ rfl).2)
  subst hcA
  refine kk H1 _ (xO_nw O ?_ (by rw [z1, O.1.2]) (fun q hq => o1 q (by rw [← O.1.2]; exact hq)))
  rw [xE_i (by decide) (by decide)]
  exact e1
theorem xr_newB (X : xX p s m args c cc nL own κ) (O : xO κ s M H locs) {n : Int32} {N : Nat} (har : Cond.arrayClass .byte ∈ xw) (hn : ¬ n < 0) (hN : n.toNatClampNeg = N) (hb : N * 1 ≤ 536870912) (hcells : cells + 1 ≤ R.cells) (hslots : slots + N ≤ R.slots) (hdg : decode cc pc = .ok (.newarray .byte, 2))
    (kk : ∀ (H : Heap) (locs : List Loc), xO κ s (xnw M (21, N)) H locs → W p l e R s m args below meth c H locs (cells + 1) (slots + N) Q (F0 m (pc + 2) ls (.ref (κ.1 + M.1.length) :: rest))) : W p l e R s m args below meth c H locs cells slots Q (F0 m pc ls (.int n :: rest)) := by
  refine va_newaK (atype := .byte) X.1 X.2.1 (X.2.2.2.2.1 _ har) rfl hdg rfl hn hN hb hcells hslots O.1.2 fun H1 cA e1 z1 o1 hAr hNm => ?_
  have hcA : cA = κ.2.1 21 := Option.some.inj (hNm.symm.trans (X.2.2.2.2.2.1.2 1 _ rfl).2)
  subst hcA
  refine kk H1 _ (xO_nw O ?_ (by rw [z1, O.1.2]) (fun q hq => o1 q (by rw [← O.1.2]; exact hq)))
  rw [xE_i (by decide) (by decide)]
  exact e1
theorem xr_newZ (X : xX p s m args c cc nL own κ) (O : xO κ s M H locs) {n : Int32} {N : Nat} (har : Cond.arrayClass .boolean ∈ xw) (hn : ¬ n < 0) (hN : n.toNatClampNeg = N) (hb : N * 1 ≤ 536870912) (hcells : cells + 1 ≤ R.cells) (hslots : slots + N ≤ R.slots) (hdg : decode cc pc = .ok (.newarray .boolean, 2))
    (kk : ∀ (H : Heap) (locs : List Loc), xO κ s (xnw M (22, N)) H locs → W p l e R s m args below meth c H locs (cells + 1) (slots + N) Q (F0 m (pc + 2) ls (.ref (κ.1 + M.1.length) :: rest))) : W p l e R s m args below meth c H locs cells slots Q (F0 m pc ls (.int n :: rest)) := by
  refine va_newaK (atype := .boolean) X.1 X.2.1 (X.2.2.2.2.1 _ har) rfl hdg rfl hn hN hb hcells hslots O.1.2 fun H1 cA e1 z1 o1 hAr hNm => ?_
  have hcA : cA = κ.2.1 22 := Option.some.inj (hNm.symm.trans (X.2.2.2.2.2.1.2 2 _ rfl).2)
  subst hcA
  refine kk H1 _ (xO_nw O ?_ (by rw [z1, O.1.2]) (fun q hq => o1 q (by rw [← O.1.2]; exact hq)))
  rw [xE_i (by decide) (by decide)]
  exact e1
theorem xr_newJ (X : xX p s m args c cc nL own κ) (O : xO κ s M H locs) {n : Int32} {N : Nat} (har : Cond.arrayClass .long ∈ xw) (hn : ¬ n < 0) (hN : n.toNatClampNeg = N) (hb : N * 8 ≤ 536870912) (hcells : cells + 1 ≤ R.cells) (hslots : slots + N ≤ R.slots) (hdg : decode cc pc = .ok (.newarray .long, 2))
    (kk : ∀ (H : Heap) (locs : List Loc), xO κ s (xnw M (24, N)) H locs → W p l e R s m args below meth c H locs (cells + 1) (slots + N) Q (F0 m (pc + 2) ls (.ref (κ.1 + M.1.length) :: rest))) : W p l e R s m args below meth c H locs cells slots Q (F0 m pc ls (.int n :: rest)) := by
  refine va_newaK (atype := .long) X.1 X.2.1 (X.2.2.2.2.1 _ har) rfl hdg rfl hn hN hb hcells hslots O.1.2 fun H1 cA e1 z1 o1 hAr hNm => ?_
  have hcA : cA = κ.2.1 24 := Option.some.inj (hNm.symm.trans (X.2.2.2.2.2.1.2 3 _ rfl).2)
  subst hcA
  refine kk H1 _ (xO_nw O ?_ (by rw [z1, O.1.2]) (fun q hq => o1 q (by rw [← O.1.2]; exact hq)))
  rw [xE_j]
  exact e1
theorem xr_newQ (X : xX p s m args c cc nL own κ) (O : xO κ s M H locs) {t t0 idx : Nat} {C : String} {n : Int32} {N : Nat} (ht : xRk t t0 C) (hcl : Cond.classLink own idx C ∈ xw) (hov : va_AO C s) (hn : ¬ n < 0) (hN : n.toNatClampNeg = N) (hb : N * 4 ≤ 536870912) (hcells : cells + 1 ≤ R.cells) (hslots : slots + N ≤ R.slots) (hdg : decode cc pc = .ok (.anewarray idx, 3))
    (kk : ∀ (H : Heap) (locs : List Loc), xO κ s (xnw M (t, N)) H locs → W p l e R s m args below meth c H locs (cells + 1) (slots + N) Q (F0 m (pc + 3) ls (.ref (κ.1 + M.1.length) :: rest))) : W p l e R s m args below meth c H locs cells slots Q (F0 m pc ls (.int n :: rest)) := by
  subst hN
  refine W.anew X.1 X.2.1 X.2.2.2.1 (X.2.2.2.2.1 _ hcl) (va_AO.use hov) rfl hdg rfl hn hb hcells hslots fun cA kA comp f1 f2 f3 f4 => ?_
  obtain ⟨kA', comp', -, -, -, k4⟩ := (X.2.2.2.2.2.1.2 t0 _ (xRk_ty ht κ.2.1).1).2
  have hcA : cA = κ.2.1 t := Option.some.inj (f1.symm.trans k4)
  subst hcA
  have hsz : H.size = κ.1 + M.1.length := O.1.2
  show W _ _ _ _ _ _ _ _ _ _ _ _ _ _ _ (F0 m (pc + 3) ls (.ref H.size :: rest))
  rw [hsz]
  refine kk _ _ (xO_nw O ?_ (by rw [Array.size_push]) (fun q hq => by rw [Array.getElem?_push, if_neg (Nat.ne_of_lt hq)]))
  rw [xE_q (xRk_ty ht κ.2.1).2]
  show (H.push _)[κ.1 + M.1.length]? = some (vp_cell _ _)
  rw [← hsz, Array.getElem?_push_size, vp_cell_q, ← arrV_new]
  rfl
end XR2
