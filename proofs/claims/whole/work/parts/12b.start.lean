/-! ===== the law's entry ===== -/
theorem xT1_of {args : Array Value} {s : State} {tm : Term} {bs : List Int32} {A : Nat → Prop} (hN : bs.length < 2 ^ 31) (hex : (Cond.exactly tm "java/lang/String").before args s = true) (hco : (Cond.eq (.field tm "java/lang/String" "coder" "B") (.int 0)).before args s = true)
    (har : (Cond.arrayOf (.field tm "java/lang/String" "value" "[B") .byte).before args s = true) (hle : (Cond.eq (.length (.field tm "java/lang/String" "value" "[B")) (.int (Int32.ofNat bs.length))).before args s = true)
    (hel : ∀ j : Nat, j < bs.length → (Cond.eq (.elem (.field tm "java/lang/String" "value" "[B") (.int (Int32.ofNat j))) (.int (bs.getD j 0))).before args s = true) (hA : ∀ a : Nat, a < s.heap.size → ¬ A a) :
    ∃ a v : Nat, tm.eval args s none [] s = some (.ref a) ∧ xT1 A a v bs s s.heap := by
  obtain ⟨a, c, cA, kA, q1, q2, q3, q4, q5, q6, -⟩ := Cond.exactly_spec (args := args) (first := s) (o := none) (s := s) (idx := []) (t := tm) (cls := "java/lang/String") hex
  obtain ⟨t, ht, hT⟩ := va_Tof (f := fun j => .int (bs.getD j 0)) (A := A) hN har (va_eqt hle) (fun j hj => va_eqt (hel j hj)) hA
  exact ⟨a, t, q1, ⟨cA, q3, q5, by rw [q6]; exact q2, hA a (Array.getElem?_eq_some_iff.mp q3).1⟩, vk_OFof q1 (va_eqt hco) hA, vk_OFof q1 ht hA, hT⟩
def xneed (own : String) (k : Nat) (bs : List Int32) : List Cond :=
  [.exactly (.string own k) "java/lang/String", .eq (.field (.string own k) "java/lang/String" "coder" "B") (.int 0), .arrayOf (.field (.string own k) "java/lang/String" "value" "[B") .byte, .eq (.length (.field (.string own k) "java/lang/String" "value" "[B")) (.int (Int32.ofNat bs.length))] ++
  (List.range bs.length).map (fun j => .eq (.elem (.field (.string own k) "java/lang/String" "value" "[B") (.int (Int32.ofNat j))) (.int (bs.getD j 0)))
def xflat : List Cond := flatC (Jvm.Cond.and given_1 narrow_1)
theorem xT1_need {args : Array Value} {s : State} {own : String} {k p : Nat} {bs : List Int32} {A : Nat → Prop} (hgv : (Jvm.Cond.and given_1 narrow_1).before args s = true) (hN : bs.length < 2 ^ 31) (h : (xflat.drop p).take (4 + bs.length) = xneed own k bs) (hA : ∀ a : Nat, a < s.heap.size → ¬ A a) :
    ∃ a v : Nat, (Term.string own k).eval args s none [] s = some (.ref a) ∧ xT1 A a v bs s s.heap := by
  have hs := flat_of_before _ hgv
  have hn : ∀ c ∈ xneed own k bs, c.before args s = true := fun c hc => hs c (by rw [← h] at hc; exact List.mem_of_mem_drop (List.mem_of_mem_take hc))
  refine xT1_of hN (hn _ (by simp [xneed])) (hn _ (by simp [xneed])) (hn _ (by simp [xneed])) (hn _ (by simp [xneed])) (fun j hj => hn _ ?_) hA
  unfold xneed
  exact List.mem_append_right _ (List.mem_map.mpr ⟨j, List.mem_range.mpr hj, rfl⟩)
theorem xnd_0 : (xflat.drop 48).take (4 + 12) = xneed RX7 84 [59, 58, 43, 45, 42, 40, 41, 91, 93, 61, 60, 62] := by decide +kernel
theorem xnd_1 : (xflat.drop 64).take (4 + 5) = xneed RX7 121 [115, 104, 111, 114, 101] := by decide +kernel
theorem xnd_2 : (xflat.drop 73).take (4 + 4) = xneed RX7 127 [114, 111, 119, 115] := by decide +kernel
theorem xnd_3 : (xflat.drop 81).take (4 + 7) = xneed RX7 129 [99, 111, 108, 117, 109, 110, 115] := by decide +kernel
theorem xnd_4 : (xflat.drop 92).take (4 + 4) = xneed RX7 139 [115, 97, 110, 100] := by decide +kernel
theorem xnd_5 : (xflat.drop 100).take (4 + 5) = xneed RX7 143 [104, 111, 117, 115, 101] := by decide +kernel
theorem xnd_6 : (xflat.drop 109).take (4 + 5) = xneed RX7 188 [111, 119, 110, 101, 114] := by decide +kernel
theorem xnd_7 : (xflat.drop 118).take (4 + 4) = xneed RX7 148 [112, 108, 111, 116] := by decide +kernel
theorem xnd_8 : (xflat.drop 126).take (4 + 7) = xneed RX7 199 [109, 105, 110, 117, 116, 101, 115] := by decide +kernel
theorem xnd_9 : (xflat.drop 137).take (4 + 5) = xneed RX7 201 [119, 111, 114, 116, 104] := by decide +kernel
theorem xnd_10 : (xflat.drop 146).take (4 + 5) = xneed RX7 153 [112, 97, 112, 101, 114] := by decide +kernel
theorem xnd_11 : (xflat.drop 155).take (4 + 4) = xneed RX7 158 [111, 119, 101, 115] := by decide +kernel
theorem xnd_12 : (xflat.drop 163).take (4 + 4) = xneed RX7 163 [109, 111, 111, 110] := by decide +kernel
theorem xnd_13 : (xflat.drop 171).take (4 + 4) = xneed RX7 167 [103, 97, 108, 101] := by decide +kernel
theorem xnd_14 : (xflat.drop 179).take (4 + 4) = xneed RX7 171 [116, 105, 100, 101] := by decide +kernel
theorem xnd_15 : (xflat.drop 187).take (4 + 6) = xneed RX7 261 [109, 105, 110, 117, 116, 101] := by decide +kernel
theorem xnd_16 : (xflat.drop 197).take (4 + 3) = xneed RX7 263 [114, 111, 119] := by decide +kernel
theorem xnd_17 : (xflat.drop 204).take (4 + 6) = xneed RX7 265 [104, 101, 105, 103, 104, 116] := by decide +kernel
theorem xnd_18 : (xflat.drop 214).take (4 + 5) = xneed RX7 267 [108, 101, 118, 101, 108] := by decide +kernel
theorem xnd_19 : (xflat.drop 223).take (4 + 4) = xneed RX7 269 [110, 101, 97, 114] := by decide +kernel
theorem xnd_20 : (xflat.drop 231).take (4 + 2) = xneed RX7 256 [105, 102] := by decide +kernel
theorem xnd_21 : (xflat.drop 237).take (4 + 3) = xneed RX7 290 [110, 111, 116] := by decide +kernel
theorem xnd_22 : (xflat.drop 244).take (4 + 3) = xneed RX7 288 [97, 110, 100] := by decide +kernel
theorem xnd_23 : (xflat.drop 251).take (4 + 2) = xneed RX7 283 [111, 114] := by decide +kernel
theorem xnd_24 : (xflat.drop 257).take (4 + 4) = xneed RX7 274 [116, 104, 101, 110] := by decide +kernel
theorem xnd_25 : (xflat.drop 265).take (4 + 4) = xneed RX7 276 [101, 108, 115, 101] := by decide +kernel
theorem xnd_26 : (xflat.drop 273).take (4 + 3) = xneed RX7 278 [101, 110, 100] := by decide +kernel
theorem xnd_27 : (xflat.drop 280).take (4 + 6) = xneed RX7 177 [119, 97, 115, 104, 101, 115] := by decide +kernel
theorem xnd_28 : (xflat.drop 290).take (4 + 146) = xneed RX12 89 [32, 115, 104, 111, 114, 101, 32, 114, 111, 119, 115, 32, 99, 111, 108, 117, 109, 110, 115, 32, 115, 97, 110, 100, 32, 104, 111, 117, 115, 101, 32, 111, 119, 110, 101, 114, 32, 112, 108, 111, 116, 32, 109, 105, 110, 117, 116, 101, 115, 32, 119, 111, 114, 116, 104, 32, 112, 97, 112, 101, 114, 32, 111, 119, 101, 115, 32, 109, 111, 111, 110, 32, 103, 97, 108, 101, 32, 116, 105, 100, 101, 32, 119, 97, 115, 104, 101, 115, 32, 105, 102, 32, 116, 104, 101, 110, 32, 101, 108, 115, 101, 32, 101, 110, 100, 32, 109, 105, 110, 117, 116, 101, 32, 114, 111, 119, 32, 104, 101, 105, 103, 104, 116, 32, 108, 101, 118, 101, 108, 32, 110, 101, 97, 114, 32, 97, 110, 100, 32, 111, 114, 32, 110, 111, 116, 32] := by decide +kernel
theorem xnd_29 : (xflat.drop 440).take (4 + 12) = xneed RX12 127 [59, 58, 43, 45, 42, 40, 41, 91, 93, 61, 60, 62] := by decide +kernel
theorem xnd_eq : (Cond.eq (.string RX7 84) (.string RX12 127)) ∈ xflat := List.mem_of_getElem? (i := 456) (by decide +kernel)
theorem xnd_cs : (Cond.eq (.static "java/lang/String" "COMPACT_STRINGS" "Z") (.int 1)) ∈ xflat := List.mem_of_getElem? (i := 4) (by decide +kernel)
theorem xnd_sf : (Cond.isRef (.static "jdk/internal/util/Preconditions" "SIOOBE_FORMATTER" "Ljava/util/function/BiFunction;")) ∈ xflat := List.mem_of_getElem? (i := 5) (by decide +kernel)
theorem xsr_0 : Cond.stringRef RX7 84 ";:+-*()[]=<>" ∈ lw_tbl := List.mem_of_getElem? (i := 601) (by decide +kernel)
theorem xsr_1 : Cond.stringRef RX7 121 "shore" ∈ lw_tbl := List.mem_of_getElem? (i := 688) (by decide +kernel)
theorem xsr_2 : Cond.stringRef RX7 127 "rows" ∈ lw_tbl := List.mem_of_getElem? (i := 722) (by decide +kernel)
theorem xsr_3 : Cond.stringRef RX7 129 "columns" ∈ lw_tbl := List.mem_of_getElem? (i := 731) (by decide +kernel)
theorem xsr_4 : Cond.stringRef RX7 139 "sand" ∈ lw_tbl := List.mem_of_getElem? (i := 749) (by decide +kernel)
theorem xsr_5 : Cond.stringRef RX7 143 "house" ∈ lw_tbl := List.mem_of_getElem? (i := 758) (by decide +kernel)
theorem xsr_6 : Cond.stringRef RX7 188 "owner" ∈ lw_tbl := List.mem_of_getElem? (i := 767) (by decide +kernel)
theorem xsr_7 : Cond.stringRef RX7 148 "plot" ∈ lw_tbl := List.mem_of_getElem? (i := 777) (by decide +kernel)
theorem xsr_8 : Cond.stringRef RX7 199 "minutes" ∈ lw_tbl := List.mem_of_getElem? (i := 782) (by decide +kernel)
theorem xsr_9 : Cond.stringRef RX7 201 "worth" ∈ lw_tbl := List.mem_of_getElem? (i := 783) (by decide +kernel)
theorem xsr_10 : Cond.stringRef RX7 153 "paper" ∈ lw_tbl := List.mem_of_getElem? (i := 788) (by decide +kernel)
theorem xsr_11 : Cond.stringRef RX7 158 "owes" ∈ lw_tbl := List.mem_of_getElem? (i := 803) (by decide +kernel)
theorem xsr_12 : Cond.stringRef RX7 163 "moon" ∈ lw_tbl := List.mem_of_getElem? (i := 808) (by decide +kernel)
theorem xsr_13 : Cond.stringRef RX7 167 "gale" ∈ lw_tbl := List.mem_of_getElem? (i := 809) (by decide +kernel)
theorem xsr_14 : Cond.stringRef RX7 171 "tide" ∈ lw_tbl := List.mem_of_getElem? (i := 810) (by decide +kernel)
theorem xsr_15 : Cond.stringRef RX7 261 "minute" ∈ lw_tbl := List.mem_of_getElem? (i := 831) (by decide +kernel)
theorem xsr_16 : Cond.stringRef RX7 263 "row" ∈ lw_tbl := List.mem_of_getElem? (i := 832) (by decide +kernel)
theorem xsr_17 : Cond.stringRef RX7 265 "height" ∈ lw_tbl := List.mem_of_getElem? (i := 833) (by decide +kernel)
theorem xsr_18 : Cond.stringRef RX7 267 "level" ∈ lw_tbl := List.mem_of_getElem? (i := 834) (by decide +kernel)
theorem xsr_19 : Cond.stringRef RX7 269 "near" ∈ lw_tbl := List.mem_of_getElem? (i := 835) (by decide +kernel)
theorem xsr_20 : Cond.stringRef RX7 256 "if" ∈ lw_tbl := List.mem_of_getElem? (i := 844) (by decide +kernel)
theorem xsr_21 : Cond.stringRef RX7 290 "not" ∈ lw_tbl := List.mem_of_getElem? (i := 861) (by decide +kernel)
theorem xsr_22 : Cond.stringRef RX7 288 "and" ∈ lw_tbl := List.mem_of_getElem? (i := 866) (by decide +kernel)
theorem xsr_23 : Cond.stringRef RX7 283 "or" ∈ lw_tbl := List.mem_of_getElem? (i := 867) (by decide +kernel)
theorem xsr_24 : Cond.stringRef RX7 274 "then" ∈ lw_tbl := List.mem_of_getElem? (i := 868) (by decide +kernel)
theorem xsr_25 : Cond.stringRef RX7 276 "else" ∈ lw_tbl := List.mem_of_getElem? (i := 869) (by decide +kernel)
theorem xsr_26 : Cond.stringRef RX7 278 "end" ∈ lw_tbl := List.mem_of_getElem? (i := 870) (by decide +kernel)
theorem xsr_27 : Cond.stringRef RX7 177 "washes" ∈ lw_tbl := List.mem_of_getElem? (i := 871) (by decide +kernel)
theorem xsr_28 : Cond.stringRef RX12 89 " shore rows columns sand house owner plot minutes worth paper owes moon gale tide washes if then else end minute row height level near and or not " ∈ lw_tbl := List.mem_of_getElem? (i := 1503) (by decide +kernel)
theorem xsr_29 : Cond.stringRef RX12 127 ";:+-*()[]=<>" ∈ lw_tbl := List.mem_of_getElem? (i := 1509) (by decide +kernel)
theorem xls_0 : Cond.laysStatic "java/lang/String" "COMPACT_STRINGS" "Z" ∈ lw_tbl := List.mem_of_getElem? (i := 615) (by decide +kernel)
theorem xls_1 : Cond.laysStatic "jdk/internal/util/Preconditions" "SIOOBE_FORMATTER" "Ljava/util/function/BiFunction;" ∈ lw_tbl := List.mem_of_getElem? (i := 654) (by decide +kernel)
