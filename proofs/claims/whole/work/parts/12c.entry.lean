theorem xin_0 : Cond.instantiable RX0 7 ∈ xw := xw_t1 135 (by decide +kernel) rfl
theorem xin_1 : Cond.instantiable RX1 6 ∈ xw := xw_t2 53 (by decide +kernel) rfl
theorem xin_2 : Cond.instantiable RX2 2 ∈ xw := xw_t2 110 (by decide +kernel) rfl
theorem xin_3 : Cond.instantiable RX3 18 ∈ xw := xw_t1 38 (by decide +kernel) rfl
theorem xin_4 : Cond.instantiable RX4 2 ∈ xw := xw_t1 228 (by decide +kernel) rfl
theorem xin_5 : Cond.instantiable RX5 3 ∈ xw := xw_t2 12 (by decide +kernel) rfl
theorem xin_6 : Cond.instantiable RX6 1 ∈ xw := xw_t2 78 (by decide +kernel) rfl
theorem xin_7 : Cond.instantiable RX7 11 ∈ xw := xw_t1 32 (by decide +kernel) rfl
theorem xin_8 : Cond.instantiable RX8 3 ∈ xw := xw_t1 222 (by decide +kernel) rfl
theorem xin_9 : Cond.instantiable RX9 1 ∈ xw := xw_t2 89 (by decide +kernel) rfl
theorem xin_10 : Cond.instantiable RX10 3 ∈ xw := xw_t2 33 (by decide +kernel) rfl
theorem xin_11 : Cond.instantiable RX11 17 ∈ xw := xw_t1 24 (by decide +kernel) rfl
theorem xin_12 : Cond.instantiable RX12 36 ∈ xw := xw_t6 21 (by decide +kernel) rfl
theorem xac_int : Cond.arrayClass .int ∈ xw := xw_t1 133 (by decide +kernel) rfl
theorem xac_byte : Cond.arrayClass .byte ∈ xw := xw_t1 132 (by decide +kernel) rfl
theorem xac_boolean : Cond.arrayClass .boolean ∈ xw := xw_t6 138 (by decide +kernel) rfl
theorem xac_long : Cond.arrayClass .long ∈ xw := xw_t2 50 (by decide +kernel) rfl
theorem xao_0 : Cond.arrayOver (.object RX0) ∈ lw_tbl := List.mem_of_getElem? (i := 396) (by decide +kernel)
theorem xao_3 : Cond.arrayOver (.object RX3) ∈ lw_tbl := List.mem_of_getElem? (i := 429) (by decide +kernel)
theorem xao_10 : Cond.arrayOver (.object RX10) ∈ lw_tbl := List.mem_of_getElem? (i := 410) (by decide +kernel)
theorem xii_0 : Cond.initialized "java/lang/String" ∈ xw := xw_t1 17 (by decide +kernel) rfl
theorem xii_1 : Cond.initialized "jdk/internal/util/Preconditions" ∈ xw := xw_t1 20 (by decide +kernel) rfl
theorem xKn_all {s : State} {args : Array Value} (hts : ∀ w ∈ xw, w.before args s = true) : ∃ D : va_G, ∀ (ci : Nat) (q : vw_C), vwCl[ci]? = some q → u_Kn s q.1 q.2.1 q.2.2 (D.1 ci) (D.2 ci) := by
  have h : ∀ ci : Nat, ∃ d : ClassId × (Nat → Nat), ∀ q : vw_C, vwCl[ci]? = some q → u_Kn s q.1 q.2.1 q.2.2 d.1 d.2 := by
    intro ci
    match ci with
    | 0 =>
      obtain ⟨a, b, hh⟩ := u_known (C := RX0) (T := TX0) (N := 7) (n := 7) hts cl_X0.2.2.1 (hts _ xin_0)
      exact ⟨(a, b), fun q hq => by cases hq; exact hh⟩
    | 1 =>
      obtain ⟨a, b, hh⟩ := u_known (C := RX1) (T := TX1) (N := 6) (n := 6) hts cl_X1.2.2.1 (hts _ xin_1)
      exact ⟨(a, b), fun q hq => by cases hq; exact hh⟩
    | 2 =>
      obtain ⟨a, b, hh⟩ := u_known (C := RX2) (T := TX2) (N := 2) (n := 2) hts cl_X2.2.2.1 (hts _ xin_2)
      exact ⟨(a, b), fun q hq => by cases hq; exact hh⟩
    | 3 =>
      obtain ⟨a, b, hh⟩ := u_known (C := RX3) (T := TX3) (N := 18) (n := 18) hts cl_X3.2.2.1 (hts _ xin_3)
      exact ⟨(a, b), fun q hq => by cases hq; exact hh⟩
    | 4 =>
      obtain ⟨a, b, hh⟩ := u_known (C := RX4) (T := TX4) (N := 2) (n := 2) hts cl_X4.2.2.1 (hts _ xin_4)
      exact ⟨(a, b), fun q hq => by cases hq; exact hh⟩
    | 5 =>
      obtain ⟨a, b, hh⟩ := u_known (C := RX5) (T := TX5) (N := 3) (n := 3) hts cl_X5.2.2.1 (hts _ xin_5)
      exact ⟨(a, b), fun q hq => by cases hq; exact hh⟩
    | 6 =>
      obtain ⟨a, b, hh⟩ := u_known (C := RX6) (T := TX6) (N := 1) (n := 1) hts cl_X6.2.2.1 (hts _ xin_6)
      exact ⟨(a, b), fun q hq => by cases hq; exact hh⟩
    | 7 =>
      obtain ⟨a, b, hh⟩ := u_known (C := RX7) (T := TX7) (N := 11) (n := 11) hts cl_X7.2.2.1 (hts _ xin_7)
      exact ⟨(a, b), fun q hq => by cases hq; exact hh⟩
    | 8 =>
      obtain ⟨a, b, hh⟩ := u_known (C := RX8) (T := TX8) (N := 3) (n := 3) hts cl_X8.2.2.1 (hts _ xin_8)
      exact ⟨(a, b), fun q hq => by cases hq; exact hh⟩
    | 9 =>
      obtain ⟨a, b, hh⟩ := u_known (C := RX9) (T := TX9) (N := 1) (n := 1) hts cl_X9.2.2.1 (hts _ xin_9)
      exact ⟨(a, b), fun q hq => by cases hq; exact hh⟩
    | 10 =>
      obtain ⟨a, b, hh⟩ := u_known (C := RX10) (T := TX10) (N := 3) (n := 3) hts cl_X10.2.2.1 (hts _ xin_10)
      exact ⟨(a, b), fun q hq => by cases hq; exact hh⟩
    | 11 =>
      obtain ⟨a, b, hh⟩ := u_known (C := RX11) (T := TX11) (N := 17) (n := 17) hts cl_X11.2.2.1 (hts _ xin_11)
      exact ⟨(a, b), fun q hq => by cases hq; exact hh⟩
    | 12 =>
      obtain ⟨a, b, hh⟩ := u_known (C := RX12) (T := TX12) (N := 36) (n := 36) hts cl_X12.2.2.1 (hts _ xin_12)
      exact ⟨(a, b), fun q hq => by cases hq; exact hh⟩
    | n + 13 => exact ⟨(0, fun _ => 0), fun q hq => by cases hq⟩
  obtain ⟨f, hf⟩ := Classical.axiomOfChoice h
  exact ⟨(fun ci => (f ci).1, fun ci => (f ci).2), hf⟩
theorem xarr {s : State} {args : Array Value} {ty : FieldType} (h : (Cond.arrayClass ty).before args s = true) (ht : ∀ C, ty ≠ .object C) : ∃ cA : ClassId, ArrOfT s cA ty ∧ va_RA s cA ty := by
  obtain ⟨c, k, comp, h1, h2, h3⟩ := Cond.arrayClass_spec h
  refine ⟨c, fun N z => ⟨(fun k h => by cases h), k, h2, comp, h3⟩, ?_⟩
  cases ty <;> first | exact h1 | exact absurd rfl (ht _)
theorem xarrO {s : State} {C : String} (h : va_AO C s) : ∃ cA : ClassId, ArrOfT s cA (.object C) ∧ va_RA s cA (.object C) := by
  obtain ⟨comp, c, k, h1, h2, h3, h4, h5⟩ := Cond.arrayOver_spec h
  exact ⟨c, fun N z => ⟨(fun k h => by cases h), k, h3, comp, h4⟩, k, comp, h3, h4, h1, h5⟩
set_option maxRecDepth 100000 in
set_option maxHeartbeats 4000000 in
theorem xstr_all {s : State} {b : Nat} (hts : ∀ w ∈ lw_tbl, w.before #[Value.ref b] s = true) (hgv : (Jvm.Cond.and given_1 narrow_1).before #[Value.ref b] s = true) : ∃ sa sv : Nat → Nat, ∀ (i : Nat) (q : String × Nat × String × List Int32), xSC[i]? = some q → vk_R q.1 q.2.1 q.2.2.1 (sa i) s ∧ xT1 (fun q => s.heap.size ≤ q) (sa i) (sv i) q.2.2.2 s s.heap := by
  have hA : ∀ a : Nat, a < s.heap.size → ¬ (fun q => s.heap.size ≤ q) a := fun a h1 h2 => absurd (show s.heap.size ≤ a from h2) (by omega)
  have h : ∀ i : Nat, ∃ d : Nat × Nat, ∀ q : String × Nat × String × List Int32, xSC[i]? = some q → vk_R q.1 q.2.1 q.2.2.1 d.1 s ∧ xT1 (fun q => s.heap.size ≤ q) d.1 d.2 q.2.2.2 s s.heap := by
    intro i
    match i with
    | 0 =>
      obtain ⟨a, v, h1, h2⟩ := xT1_need (bs := [59, 58, 43, 45, 42, 40, 41, 91, 93, 61, 60, 62]) (A := fun q => s.heap.size ≤ q) hgv (by decide) xnd_0 hA
      exact ⟨(a, v), fun q hq => by cases hq; exact ⟨vk_R.of (hts _ xsr_0) h1, h2⟩⟩
    | 1 =>
      obtain ⟨a, v, h1, h2⟩ := xT1_need (bs := [115, 104, 111, 114, 101]) (A := fun q => s.heap.size ≤ q) hgv (by decide) xnd_1 hA
      exact ⟨(a, v), fun q hq => by cases hq; exact ⟨vk_R.of (hts _ xsr_1) h1, h2⟩⟩
    | 2 =>
      obtain ⟨a, v, h1, h2⟩ := xT1_need (bs := [114, 111, 119, 115]) (A := fun q => s.heap.size ≤ q) hgv (by decide) xnd_2 hA
      exact ⟨(a, v), fun q hq => by cases hq; exact ⟨vk_R.of (hts _ xsr_2) h1, h2⟩⟩
    | 3 =>
      obtain ⟨a, v, h1, h2⟩ := xT1_need (bs := [99, 111, 108, 117, 109, 110, 115]) (A := fun q => s.heap.size ≤ q) hgv (by decide) xnd_3 hA
      exact ⟨(a, v), fun q hq => by cases hq; exact ⟨vk_R.of (hts _ xsr_3) h1, h2⟩⟩
    | 4 =>
      obtain ⟨a, v, h1, h2⟩ := xT1_need (bs := [115, 97, 110, 100]) (A := fun q => s.heap.size ≤ q) hgv (by decide) xnd_4 hA
      exact ⟨(a, v), fun q hq => by cases hq; exact ⟨vk_R.of (hts _ xsr_4) h1, h2⟩⟩
    | 5 =>
      obtain ⟨a, v, h1, h2⟩ := xT1_need (bs := [104, 111, 117, 115, 101]) (A := fun q => s.heap.size ≤ q) hgv (by decide) xnd_5 hA
      exact ⟨(a, v), fun q hq => by cases hq; exact ⟨vk_R.of (hts _ xsr_5) h1, h2⟩⟩
    | 6 =>
      obtain ⟨a, v, h1, h2⟩ := xT1_need (bs := [111, 119, 110, 101, 114]) (A := fun q => s.heap.size ≤ q) hgv (by decide) xnd_6 hA
      exact ⟨(a, v), fun q hq => by cases hq; exact ⟨vk_R.of (hts _ xsr_6) h1, h2⟩⟩
    | 7 =>
      obtain ⟨a, v, h1, h2⟩ := xT1_need (bs := [112, 108, 111, 116]) (A := fun q => s.heap.size ≤ q) hgv (by decide) xnd_7 hA
      exact ⟨(a, v), fun q hq => by cases hq; exact ⟨vk_R.of (hts _ xsr_7) h1, h2⟩⟩
    | 8 =>
      obtain ⟨a, v, h1, h2⟩ := xT1_need (bs := [109, 105, 110, 117, 116, 101, 115]) (A := fun q => s.heap.size ≤ q) hgv (by decide) xnd_8 hA
      exact ⟨(a, v), fun q hq => by cases hq; exact ⟨vk_R.of (hts _ xsr_8) h1, h2⟩⟩
    | 9 =>
      obtain ⟨a, v, h1, h2⟩ := xT1_need (bs := [119, 111, 114, 116, 104]) (A := fun q => s.heap.size ≤ q) hgv (by decide) xnd_9 hA
      exact ⟨(a, v), fun q hq => by cases hq; exact ⟨vk_R.of (hts _ xsr_9) h1, h2⟩⟩
    | 10 =>
      obtain ⟨a, v, h1, h2⟩ := xT1_need (bs := [112, 97, 112, 101, 114]) (A := fun q => s.heap.size ≤ q) hgv (by decide) xnd_10 hA
      exact ⟨(a, v), fun q hq => by cases hq; exact ⟨vk_R.of (hts _ xsr_10) h1, h2⟩⟩
    | 11 =>
      obtain ⟨a, v, h1, h2⟩ := xT1_need (bs := [111, 119, 101, 115]) (A := fun q => s.heap.size ≤ q) hgv (by decide) xnd_11 hA
      exact ⟨(a, v), fun q hq => by cases hq; exact ⟨vk_R.of (hts _ xsr_11) h1, h2⟩⟩
    | 12 =>
      obtain ⟨a, v, h1, h2⟩ := xT1_need (bs := [109, 111, 111, 110]) (A := fun q => s.heap.size ≤ q) hgv (by decide) xnd_12 hA
      exact ⟨(a, v), fun q hq => by cases hq; exact ⟨vk_R.of (hts _ xsr_12) h1, h2⟩⟩
    | 13 =>
      obtain ⟨a, v, h1, h2⟩ := xT1_need (bs := [103, 97, 108, 101]) (A := fun q => s.heap.size ≤ q) hgv (by decide) xnd_13 hA
      exact ⟨(a, v), fun q hq => by cases hq; exact ⟨vk_R.of (hts _ xsr_13) h1, h2⟩⟩
    | 14 =>
      obtain ⟨a, v, h1, h2⟩ := xT1_need (bs := [116, 105, 100, 101]) (A := fun q => s.heap.size ≤ q) hgv (by decide) xnd_14 hA
      exact ⟨(a, v), fun q hq => by cases hq; exact ⟨vk_R.of (hts _ xsr_14) h1, h2⟩⟩
    | 15 =>
      obtain ⟨a, v, h1, h2⟩ := xT1_need (bs := [109, 105, 110, 117, 116, 101]) (A := fun q => s.heap.size ≤ q) hgv (by decide) xnd_15 hA
      exact ⟨(a, v), fun q hq => by cases hq; exact ⟨vk_R.of (hts _ xsr_15) h1, h2⟩⟩
    | 16 =>
      obtain ⟨a, v, h1, h2⟩ := xT1_need (bs := [114, 111, 119]) (A := fun q => s.heap.size ≤ q) hgv (by decide) xnd_16 hA
      exact ⟨(a, v), fun q hq => by cases hq; exact ⟨vk_R.of (hts _ xsr_16) h1, h2⟩⟩
    | 17 =>
      obtain ⟨a, v, h1, h2⟩ := xT1_need (bs := [104, 101, 105, 103, 104, 116]) (A := fun q => s.heap.size ≤ q) hgv (by decide) xnd_17 hA
      exact ⟨(a, v), fun q hq => by cases hq; exact ⟨vk_R.of (hts _ xsr_17) h1, h2⟩⟩
    | 18 =>
      obtain ⟨a, v, h1, h2⟩ := xT1_need (bs := [108, 101, 118, 101, 108]) (A := fun q => s.heap.size ≤ q) hgv (by decide) xnd_18 hA
      exact ⟨(a, v), fun q hq => by cases hq; exact ⟨vk_R.of (hts _ xsr_18) h1, h2⟩⟩
    | 19 =>
      obtain ⟨a, v, h1, h2⟩ := xT1_need (bs := [110, 101, 97, 114]) (A := fun q => s.heap.size ≤ q) hgv (by decide) xnd_19 hA
      exact ⟨(a, v), fun q hq => by cases hq; exact ⟨vk_R.of (hts _ xsr_19) h1, h2⟩⟩
    | 20 =>
      obtain ⟨a, v, h1, h2⟩ := xT1_need (bs := [105, 102]) (A := fun q => s.heap.size ≤ q) hgv (by decide) xnd_20 hA
      exact ⟨(a, v), fun q hq => by cases hq; exact ⟨vk_R.of (hts _ xsr_20) h1, h2⟩⟩
    | 21 =>
      obtain ⟨a, v, h1, h2⟩ := xT1_need (bs := [110, 111, 116]) (A := fun q => s.heap.size ≤ q) hgv (by decide) xnd_21 hA
      exact ⟨(a, v), fun q hq => by cases hq; exact ⟨vk_R.of (hts _ xsr_21) h1, h2⟩⟩
    | 22 =>
      obtain ⟨a, v, h1, h2⟩ := xT1_need (bs := [97, 110, 100]) (A := fun q => s.heap.size ≤ q) hgv (by decide) xnd_22 hA
      exact ⟨(a, v), fun q hq => by cases hq; exact ⟨vk_R.of (hts _ xsr_22) h1, h2⟩⟩
    | 23 =>
      obtain ⟨a, v, h1, h2⟩ := xT1_need (bs := [111, 114]) (A := fun q => s.heap.size ≤ q) hgv (by decide) xnd_23 hA
      exact ⟨(a, v), fun q hq => by cases hq; exact ⟨vk_R.of (hts _ xsr_23) h1, h2⟩⟩
    | 24 =>
      obtain ⟨a, v, h1, h2⟩ := xT1_need (bs := [116, 104, 101, 110]) (A := fun q => s.heap.size ≤ q) hgv (by decide) xnd_24 hA
      exact ⟨(a, v), fun q hq => by cases hq; exact ⟨vk_R.of (hts _ xsr_24) h1, h2⟩⟩
    | 25 =>
      obtain ⟨a, v, h1, h2⟩ := xT1_need (bs := [101, 108, 115, 101]) (A := fun q => s.heap.size ≤ q) hgv (by decide) xnd_25 hA
      exact ⟨(a, v), fun q hq => by cases hq; exact ⟨vk_R.of (hts _ xsr_25) h1, h2⟩⟩
    | 26 =>
      obtain ⟨a, v, h1, h2⟩ := xT1_need (bs := [101, 110, 100]) (A := fun q => s.heap.size ≤ q) hgv (by decide) xnd_26 hA
      exact ⟨(a, v), fun q hq => by cases hq; exact ⟨vk_R.of (hts _ xsr_26) h1, h2⟩⟩
    | 27 =>
      obtain ⟨a, v, h1, h2⟩ := xT1_need (bs := [119, 97, 115, 104, 101, 115]) (A := fun q => s.heap.size ≤ q) hgv (by decide) xnd_27 hA
      exact ⟨(a, v), fun q hq => by cases hq; exact ⟨vk_R.of (hts _ xsr_27) h1, h2⟩⟩
    | 28 =>
      obtain ⟨a, v, h1, h2⟩ := xT1_need (bs := [32, 115, 104, 111, 114, 101, 32, 114, 111, 119, 115, 32, 99, 111, 108, 117, 109, 110, 115, 32, 115, 97, 110, 100, 32, 104, 111, 117, 115, 101, 32, 111, 119, 110, 101, 114, 32, 112, 108, 111, 116, 32, 109, 105, 110, 117, 116, 101, 115, 32, 119, 111, 114, 116, 104, 32, 112, 97, 112, 101, 114, 32, 111, 119, 101, 115, 32, 109, 111, 111, 110, 32, 103, 97, 108, 101, 32, 116, 105, 100, 101, 32, 119, 97, 115, 104, 101, 115, 32, 105, 102, 32, 116, 104, 101, 110, 32, 101, 108, 115, 101, 32, 101, 110, 100, 32, 109, 105, 110, 117, 116, 101, 32, 114, 111, 119, 32, 104, 101, 105, 103, 104, 116, 32, 108, 101, 118, 101, 108, 32, 110, 101, 97, 114, 32, 97, 110, 100, 32, 111, 114, 32, 110, 111, 116, 32]) (A := fun q => s.heap.size ≤ q) hgv (by decide) xnd_28 hA
      exact ⟨(a, v), fun q hq => by cases hq; exact ⟨vk_R.of (hts _ xsr_28) h1, h2⟩⟩
    | 29 =>
      obtain ⟨a, v, h1, h2⟩ := xT1_need (bs := [59, 58, 43, 45, 42, 40, 41, 91, 93, 61, 60, 62]) (A := fun q => s.heap.size ≤ q) hgv (by decide) xnd_0 hA
      have h3 := flat_of_before _ hgv _ xnd_eq
      have h4 : (Term.string RX12 127).eval #[Value.ref b] s none [] s = some (.ref a) := by
        cases hv : (Term.string RX12 127).eval #[Value.ref b] s none [] s with
        | none => simp [Cond.before, Cond.holds, Cond.value, hv, h1] at h3
        | some w =>
          simp only [Cond.before, Cond.holds, Cond.value, hv, h1] at h3
          cases w <;> simp_all
      exact ⟨(a, v), fun q hq => by cases hq; exact ⟨vk_R.of (hts _ xsr_29) h4, h2⟩⟩
    | n + 30 => exact ⟨(0, 0), fun q hq => by cases hq⟩
  obtain ⟨f, hf⟩ := Classical.axiomOfChoice h
  exact ⟨fun i => (f i).1, fun i => (f i).2, hf⟩
theorem xstart {p : Program} {s : State} {m : MethodId} {meth : Method} {c : Code} {b L : Nat} {xs : Nat → Int32} (C0 : lw_At p s m meth c b L xs) : ∃ κ : xQ, κ.1 = s.heap.size ∧ xX p s m #[Value.ref b] c code 4 RL κ := by
  obtain ⟨hx, hb, hr, hml, hown, hts, hX, hbl, hlocks, hgv⟩ := C0
  have hxw : ∀ w ∈ xw, w.before #[Value.ref b] s = true := fun w hw => hts w (List.mem_filter.mp hw).1
  have hA : ∀ a : Nat, a < s.heap.size → ¬ (fun q => s.heap.size ≤ q) a := fun a h1 h2 => absurd (show s.heap.size ≤ a from h2) (by omega)
  obtain ⟨D, hD⟩ := xKn_all hxw
  obtain ⟨sa, sv, hsc⟩ := xstr_all hts hgv
  have ao0 : va_AO RX0 s := va_AO.of (hts _ xao_0)
  have ao3 : va_AO RX3 s := va_AO.of (hts _ xao_3)
  have ao10 : va_AO RX10 s := va_AO.of (hts _ xao_10)
  obtain ⟨c20, q20⟩ := xarr (hxw _ xac_int) (fun C h => by cases h)
  obtain ⟨c21, q21⟩ := xarr (hxw _ xac_byte) (fun C h => by cases h)
  obtain ⟨c22, q22⟩ := xarr (hxw _ xac_boolean) (fun C h => by cases h)
  obtain ⟨c24, q24⟩ := xarr (hxw _ xac_long) (fun C h => by cases h)
  obtain ⟨c30, q30⟩ := xarrO ao0
  obtain ⟨c33, q33⟩ := xarrO ao3
  obtain ⟨c40, q40⟩ := xarrO ao10
  have hsf := flat_of_before _ hgv
  refine ⟨(s.heap.size, (fun k => if k = 20 then c20 else if k = 21 then c21 else if k = 22 then c22 else if k = 24 then c24 else if k = 30 then c30 else if k = 33 then c33 else c40), D, sa, sv), rfl, hx, hb, hml, hown, hxw, ⟨hD, ?_⟩, hsc, va_Zof (hts _ xls_0) (hxw _ xii_0) (va_eqi (hsf _ xnd_cs)) hA, va_Zqof (hts _ xls_1) (hxw _ xii_1) (hsf _ xnd_sf) hA, ao0, ao3, ao10⟩
  intro k q hk
  match k, hk with
  | 0, hk => cases hk; exact q20
  | 1, hk => cases hk; exact q21
  | 2, hk => cases hk; exact q22
  | 3, hk => cases hk; exact q24
  | 4, hk => cases hk; exact q30
  | 5, hk => cases hk; exact q33
  | 6, hk => cases hk; exact q40
  | n + 7, hk => cases hk
set_option maxRecDepth 100000 in
set_option maxHeartbeats 4000000 in
/-- the law's walk, out of what the calls must keep -/
theorem whole_of {INV : Nat → xM → Prop} (hAll : xAll INV) (hmono : ∀ n M, INV n M → INV (n + 1) M) {p : Program} {e : Env} {s : State} {m : MethodId} {below : List Frame} {meth : Method} {c : Code} (l : Launch) {b L : Nat} {xs : Nat → Int32} (hL : L ≤ 3072) (C0 : lw_At p s m meth c b L xs) : W p l e room_1 s m #[Value.ref b] below meth c s.heap [] 0 0 (lw_Z below #[Value.ref b] s) (entryFrame m ([Value.ref b] : List Value).toArray 4) := by
  obtain ⟨κ, hz, X⟩ := xstart C0
  obtain ⟨-, -, hr, -, -, -, hX, hbl, hlk, -⟩ := C0
  have hx := X.1
  have hb := X.2.1
  obtain ⟨M1, M2, h1, hlen, h2, hI⟩ := hAll.1
  have O : xO κ s xM0 s.heap [] := ⟨⟨fun k q hq => (by cases hq), by rw [hz]; rfl⟩, va_S.rf⟩
  have hl := lv_entry ([.ref b]) (n := 4) (Nat.le_of_ble_eq_true rfl)
  rw [lg_entry_eq]
  generalize (lg_sl ([.ref b]) ++ List.replicate (4 - (lg_sl ([.ref b])).length) Slot.unset).toArray = ls at hl ⊢
  have hl : lv_has ls 4 [(0, .ref b)] := hl
  refine xr_new X O cl_X11 (by decide) (xw_t1 23 (by decide +kernel) rfl) xin_11 (xw_t1 1 (by decide +kernel) rfl) (by decide) (Nat.le_of_ble_eq_true rfl) (Nat.le_of_ble_eq_true rfl) dL_law_0 (fun H locs O => ?_)
  refine W.eq (g2 := F0 m 3 ls [.ref (κ.1 + 0)]) rfl ?_
  refine lv_dup hx hb dL_law_3 rfl ?_
  refine xr_callIR (rest := [.ref (κ.1 + 0)]) X O (T_X11_init l κ 0 _ _ h1) lk_L_9 ⟨Nat.le_of_ble_eq_true rfl, Nat.le_of_ble_eq_true rfl⟩ rfl hl.1 rfl (Nat.le_of_ble_eq_true rfl) dL_law_4 ⟨Nat.le_of_ble_eq_true rfl, Nat.le_of_ble_eq_true rfl⟩ (fun H locs O => ?_)
  refine W.eq (g2 := F0 m 7 ls [.ref (κ.1 + 0)]) rfl ?_
  refine lv_astore_n (lv' := [(1, .ref (κ.1 + 0)), (0, .ref b)]) hx hb dL_law_7 rfl hl (by decide) rfl (fun ls hl => ?_)
  refine xr_new X O cl_X12 (by decide) (xw_t6 20 (by decide +kernel) rfl) xin_12 (xw_t1 14 (by decide +kernel) rfl) (by decide) (Nat.le_of_ble_eq_true rfl) (Nat.le_of_ble_eq_true rfl) dL_law_8 (fun H locs O => ?_)
  refine W.eq (g2 := F0 m 11 ls [.ref (κ.1 + 164)]) (by rw [hlen]) ?_
  refine lv_dup hx hb dL_law_11 rfl ?_
  refine xr_callIR (rest := [.ref (κ.1 + 164)]) X O (T_X12_init l κ 164 _ _ h2) lk_L_12 ⟨Nat.le_of_ble_eq_true rfl, Nat.le_of_ble_eq_true rfl⟩ rfl hl.1 rfl (Nat.le_of_ble_eq_true rfl) dL_law_12 ⟨Nat.le_of_ble_eq_true rfl, Nat.le_of_ble_eq_true rfl⟩ (fun H locs O => ?_)
  refine W.eq (g2 := F0 m 15 ls [.ref (κ.1 + 164)]) rfl ?_
  refine lv_astore_n (lv' := [(2, .ref (κ.1 + 164)), (1, .ref (κ.1 + 0)), (0, .ref b)]) hx hb dL_law_15 rfl hl (by decide) rfl (fun ls hl => ?_)
  refine lv_iconst (v := (0 : Int32)) hx hb dL_law_16 (by decide) ?_
  refine lv_istore_n (lv' := [(3, .int (nI (6 * 0))), (2, .ref (κ.1 + 164)), (1, .ref (κ.1 + 0)), (0, .ref b)]) hx hb dL_law_17 rfl hl (by decide) rfl (fun ls hl => ?_)
  exact lw_loop l X hr hlk hX hz hbl hL hAll hmono (L + 1) 0 M2 hI (Nat.zero_le _) (by omega) H locs ls O hl
