theorem xcl_in {C : String} {T : u_T} {N : Nat} (ps : List Nat) (h : u_ws C T N = ps.filterMap (fun i => lw_tbl[i]?)) (g : (u_ws C T N).all goodWord = true) : ∀ w ∈ u_ws C T N, w ∈ xw := by
  intro w hw
  refine List.mem_filter.mpr ⟨?_, List.all_eq_true.mp g w hw⟩
  rw [h] at hw
  obtain ⟨i, -, hi⟩ := List.mem_filterMap.mp hw
  exact List.mem_of_getElem? hi
theorem xw_tt {w : Cond} (h : w ∈ tables_1) (g : goodWord w = true) : w ∈ xw := List.mem_filter.mpr ⟨List.mem_append_right _ h, g⟩
theorem xw_pp {q : MethodName × Nat} (h : q ∈ lw_privs) : Cond.selects q.1.cls q.1 q.1 ∈ xw := List.mem_filter.mpr ⟨List.mem_append_left _ (List.mem_map.mpr ⟨q, h, rfl⟩), rfl⟩
theorem xw_t1 {w : Cond} (i : Nat) (h : tables_1_1[i]? = some w) (g : goodWord w = true) : w ∈ xw := xw_tt (List.mem_append_left _ (List.mem_of_getElem? h)) g
theorem xw_t2 {w : Cond} (i : Nat) (h : tables_1_2[i]? = some w) (g : goodWord w = true) : w ∈ xw := xw_tt (List.mem_append_right _ (List.mem_append_left _ (List.mem_of_getElem? h))) g
theorem xw_t3 {w : Cond} (i : Nat) (h : tables_1_3[i]? = some w) (g : goodWord w = true) : w ∈ xw := xw_tt (List.mem_append_right _ (List.mem_append_right _ (List.mem_append_left _ (List.mem_of_getElem? h)))) g
theorem xw_t4 {w : Cond} (i : Nat) (h : tables_1_4[i]? = some w) (g : goodWord w = true) : w ∈ xw := xw_tt (List.mem_append_right _ (List.mem_append_right _ (List.mem_append_right _ (List.mem_append_left _ (List.mem_of_getElem? h))))) g
theorem xw_t5 {w : Cond} (i : Nat) (h : tables_1_5[i]? = some w) (g : goodWord w = true) : w ∈ xw := xw_tt (List.mem_append_right _ (List.mem_append_right _ (List.mem_append_right _ (List.mem_append_right _ (List.mem_append_left _ (List.mem_of_getElem? h)))))) g
theorem xw_t6 {w : Cond} (i : Nat) (h : tables_1_6[i]? = some w) (g : goodWord w = true) : w ∈ xw := xw_tt (List.mem_append_right _ (List.mem_append_right _ (List.mem_append_right _ (List.mem_append_right _ (List.mem_append_right _ (List.mem_append_left _ (List.mem_of_getElem? h))))))) g
theorem xw_t7 {w : Cond} (i : Nat) (h : tables_1_7[i]? = some w) (g : goodWord w = true) : w ∈ xw := xw_tt (List.mem_append_right _ (List.mem_append_right _ (List.mem_append_right _ (List.mem_append_right _ (List.mem_append_right _ (List.mem_append_right _ (List.mem_append_left _ (List.mem_of_getElem? h)))))))) g
theorem xw_t8 {w : Cond} (i : Nat) (h : tables_1_8[i]? = some w) (g : goodWord w = true) : w ∈ xw := xw_tt (List.mem_append_right _ (List.mem_append_right _ (List.mem_append_right _ (List.mem_append_right _ (List.mem_append_right _ (List.mem_append_right _ (List.mem_append_right _ (List.mem_of_getElem? h)))))))) g
theorem xw_p1 {y : MethodName} (i : Nat) (h : (lw_privs_1[i]?).map Prod.fst = some y) : Cond.selects y.cls y y ∈ xw := by
  obtain ⟨q, h2, rfl⟩ := Option.map_eq_some_iff.mp h
  exact xw_pp (List.mem_append_left _ (List.mem_of_getElem? h2))
theorem xw_p2 {y : MethodName} (i : Nat) (h : (lw_privs_2[i]?).map Prod.fst = some y) : Cond.selects y.cls y y ∈ xw := by
  obtain ⟨q, h2, rfl⟩ := Option.map_eq_some_iff.mp h
  exact xw_pp (List.mem_append_right _ (List.mem_append_left _ (List.mem_of_getElem? h2)))
theorem xw_p3 {y : MethodName} (i : Nat) (h : (lw_privs_3[i]?).map Prod.fst = some y) : Cond.selects y.cls y y ∈ xw := by
  obtain ⟨q, h2, rfl⟩ := Option.map_eq_some_iff.mp h
  exact xw_pp (List.mem_append_right _ (List.mem_append_right _ (List.mem_append_left _ (List.mem_of_getElem? h2))))
theorem xw_p4 {y : MethodName} (i : Nat) (h : (lw_privs_4[i]?).map Prod.fst = some y) : Cond.selects y.cls y y ∈ xw := by
  obtain ⟨q, h2, rfl⟩ := Option.map_eq_some_iff.mp h
  exact xw_pp (List.mem_append_right _ (List.mem_append_right _ (List.mem_append_right _ (List.mem_append_left _ (List.mem_of_getElem? h2)))))
theorem xw_p5 {y : MethodName} (i : Nat) (h : (lw_privs_5[i]?).map Prod.fst = some y) : Cond.selects y.cls y y ∈ xw := by
  obtain ⟨q, h2, rfl⟩ := Option.map_eq_some_iff.mp h
  exact xw_pp (List.mem_append_right _ (List.mem_append_right _ (List.mem_append_right _ (List.mem_append_right _ (List.mem_append_left _ (List.mem_of_getElem? h2))))))
theorem xw_p6 {y : MethodName} (i : Nat) (h : (lw_privs_6[i]?).map Prod.fst = some y) : Cond.selects y.cls y y ∈ xw := by
  obtain ⟨q, h2, rfl⟩ := Option.map_eq_some_iff.mp h
  exact xw_pp (List.mem_append_right _ (List.mem_append_right _ (List.mem_append_right _ (List.mem_append_right _ (List.mem_append_right _ (List.mem_append_left _ (List.mem_of_getElem? h2)))))))
theorem xw_p7 {y : MethodName} (i : Nat) (h : (lw_privs_7[i]?).map Prod.fst = some y) : Cond.selects y.cls y y ∈ xw := by
  obtain ⟨q, h2, rfl⟩ := Option.map_eq_some_iff.mp h
  exact xw_pp (List.mem_append_right _ (List.mem_append_right _ (List.mem_append_right _ (List.mem_append_right _ (List.mem_append_right _ (List.mem_append_right _ (List.mem_append_left _ (List.mem_of_getElem? h2))))))))
theorem xw_p8 {y : MethodName} (i : Nat) (h : (lw_privs_8[i]?).map Prod.fst = some y) : Cond.selects y.cls y y ∈ xw := by
  obtain ⟨q, h2, rfl⟩ := Option.map_eq_some_iff.mp h
  exact xw_pp (List.mem_append_right _ (List.mem_append_right _ (List.mem_append_right _ (List.mem_append_right _ (List.mem_append_right _ (List.mem_append_right _ (List.mem_append_right _ (List.mem_append_left _ (List.mem_of_getElem? h2)))))))))
theorem xw_p9 {y : MethodName} (i : Nat) (h : (lw_privs_9[i]?).map Prod.fst = some y) : Cond.selects y.cls y y ∈ xw := by
  obtain ⟨q, h2, rfl⟩ := Option.map_eq_some_iff.mp h
  exact xw_pp (List.mem_append_right _ (List.mem_append_right _ (List.mem_append_right _ (List.mem_append_right _ (List.mem_append_right _ (List.mem_append_right _ (List.mem_append_right _ (List.mem_append_right _ (List.mem_of_getElem? h2)))))))))
theorem cl_X0 : xCL 0 RX0 TX0 7 tyX0 := ⟨rfl, by decide, xcl_in [301, 303, 305, 307, 309, 311, 313] (by decide +kernel) (by decide +kernel), tyX0_ok, nmX0, rfl⟩
theorem cl_X1 : xCL 1 RX1 TX1 6 tyX1 := ⟨rfl, by decide, xcl_in [442, 444, 446, 448, 450, 452] (by decide +kernel) (by decide +kernel), tyX1_ok, nmX1, rfl⟩
theorem cl_X2 : xCL 2 RX2 TX2 2 tyX2 := ⟨rfl, by decide, xcl_in [498, 500] (by decide +kernel) (by decide +kernel), tyX2_ok, nmX2, rfl⟩
theorem cl_X3 : xCL 3 RX3 TX3 18 tyX3 := ⟨rfl, by decide, xcl_in [233, 235, 237, 239, 241, 243, 245, 247, 249, 251, 253, 255, 257, 259, 261, 263, 265, 267] (by decide +kernel) (by decide +kernel), tyX3_ok, nmX3, rfl⟩
theorem cl_X4 : xCL 4 RX4 TX4 2 tyX4 := ⟨rfl, by decide, xcl_in [374, 376] (by decide +kernel) (by decide +kernel), tyX4_ok, nmX4, rfl⟩
theorem cl_X5 : xCL 5 RX5 TX5 3 tyX5 := ⟨rfl, by decide, xcl_in [402, 404, 406] (by decide +kernel) (by decide +kernel), tyX5_ok, nmX5, rfl⟩
theorem cl_X6 : xCL 6 RX6 TX6 1 tyX6 := ⟨rfl, by decide, xcl_in [463] (by decide +kernel) (by decide +kernel), tyX6_ok, nmX6, rfl⟩
theorem cl_X7 : xCL 7 RX7 TX7 11 tyX7 := ⟨rfl, by decide, xcl_in [332, 334, 336, 338, 340, 342, 344, 346, 348, 350, 352] (by decide +kernel) (by decide +kernel), tyX7_ok, nmX7, rfl⟩
theorem cl_X8 : xCL 8 RX8 TX8 3 tyX8 := ⟨rfl, by decide, xcl_in [382, 384, 386] (by decide +kernel) (by decide +kernel), tyX8_ok, nmX8, rfl⟩
theorem cl_X9 : xCL 9 RX9 TX9 1 tyX9 := ⟨rfl, by decide, xcl_in [474] (by decide +kernel) (by decide +kernel), tyX9_ok, nmX9, rfl⟩
theorem cl_X10 : xCL 10 RX10 TX10 3 tyX10 := ⟨rfl, by decide, xcl_in [421, 423, 425] (by decide +kernel) (by decide +kernel), tyX10_ok, nmX10, rfl⟩
theorem cl_X11 : xCL 11 RX11 TX11 17 tyX11 := ⟨rfl, by decide, xcl_in [520, 522, 524, 526, 528, 530, 532, 534, 536, 538, 540, 542, 544, 546, 548, 550, 552] (by decide +kernel) (by decide +kernel), tyX11_ok, nmX11, rfl⟩
theorem cl_X12 : xCL 12 RX12 TX12 36 tyX12 := ⟨rfl, by decide, xcl_in [1403, 1405, 1407, 1409, 1411, 1413, 1415, 1417, 1419, 1421, 1423, 1425, 1427, 1429, 1431, 1433, 1435, 1437, 1439, 1441, 1443, 1445, 1447, 1449, 1451, 1453, 1455, 1457, 1459, 1461, 1463, 1465, 1467, 1469, 1471, 1473] (by decide +kernel) (by decide +kernel), tyX12_ok, nmX12, rfl⟩
theorem fl_X11_12 : xFL RX11 12 11 1 2 true := ⟨_, _, _, _, cl_X11, by decide, xw_t2 126 (by decide +kernel) rfl, rfl, rfl, rfl, fun _ => Or.inr trivial, rfl⟩
theorem fl_X11_19 : xFL RX11 19 11 2 2 true := ⟨_, _, _, _, cl_X11, by decide, xw_t2 127 (by decide +kernel) rfl, rfl, rfl, rfl, fun _ => Or.inr trivial, rfl⟩
theorem fl_X11_26 : xFL RX11 26 11 3 2 true := ⟨_, _, _, _, cl_X11, by decide, xw_t2 128 (by decide +kernel) rfl, rfl, rfl, rfl, fun _ => Or.inr trivial, rfl⟩
theorem fl_X11_30 : xFL RX11 30 11 4 2 true := ⟨_, _, _, _, cl_X11, by decide, xw_t2 129 (by decide +kernel) rfl, rfl, rfl, rfl, fun _ => Or.inr trivial, rfl⟩
theorem fl_X11_36 : xFL RX11 36 11 5 2 true := ⟨_, _, _, _, cl_X11, by decide, xw_t2 130 (by decide +kernel) rfl, rfl, rfl, rfl, fun _ => Or.inr trivial, rfl⟩
theorem fl_X11_43 : xFL RX11 43 11 6 2 true := ⟨_, _, _, _, cl_X11, by decide, xw_t2 131 (by decide +kernel) rfl, rfl, rfl, rfl, fun _ => Or.inr trivial, rfl⟩
theorem fl_X11_49 : xFL RX11 49 11 7 2 true := ⟨_, _, _, _, cl_X11, by decide, xw_t2 132 (by decide +kernel) rfl, rfl, rfl, rfl, fun _ => Or.inr trivial, rfl⟩
theorem fl_X11_54 : xFL RX11 54 11 8 2 true := ⟨_, _, _, _, cl_X11, by decide, xw_t2 133 (by decide +kernel) rfl, rfl, rfl, rfl, fun _ => Or.inr trivial, rfl⟩
theorem fl_X11_58 : xFL RX11 58 11 9 2 true := ⟨_, _, _, _, cl_X11, by decide, xw_t2 134 (by decide +kernel) rfl, rfl, rfl, rfl, fun _ => Or.inr trivial, rfl⟩
theorem fl_X11_65 : xFL RX11 65 11 11 2 true := ⟨_, _, _, _, cl_X11, by decide, xw_t2 136 (by decide +kernel) rfl, rfl, rfl, rfl, fun _ => Or.inr trivial, rfl⟩
theorem fl_X11_72 : xFL RX11 72 11 12 2 true := ⟨_, _, _, _, cl_X11, by decide, xw_t2 137 (by decide +kernel) rfl, rfl, rfl, rfl, fun _ => Or.inr trivial, rfl⟩
theorem fl_X11_79 : xFL RX11 79 11 13 2 true := ⟨_, _, _, _, cl_X11, by decide, xw_t2 138 (by decide +kernel) rfl, rfl, rfl, rfl, fun _ => Or.inr trivial, rfl⟩
theorem fl_X11_87 : xFL RX11 87 11 14 2 true := ⟨_, _, _, _, cl_X11, by decide, xw_t2 139 (by decide +kernel) rfl, rfl, rfl, rfl, fun _ => Or.inr trivial, rfl⟩
theorem fl_X11_94 : xFL RX11 94 11 15 2 true := ⟨_, _, _, _, cl_X11, by decide, xw_t2 140 (by decide +kernel) rfl, rfl, rfl, rfl, fun _ => Or.inr trivial, rfl⟩
theorem fl_X11_98 : xFL RX11 98 11 0 0 false := ⟨_, _, _, _, cl_X11, by decide, xw_t2 125 (by decide +kernel) rfl, rfl, rfl, rfl, fun _ => Or.inr trivial, rfl⟩
theorem fl_X11_110 : xFL RX11 110 7 2 0 false := ⟨_, _, _, _, cl_X7, by decide, xw_t1 183 (by decide +kernel) rfl, rfl, rfl, rfl, fun _ => Or.inr trivial, rfl⟩
theorem fl_X11_113 : xFL RX11 113 7 0 2 true := ⟨_, _, _, _, cl_X7, by decide, xw_t1 179 (by decide +kernel) rfl, rfl, rfl, rfl, fun _ => Or.inr trivial, rfl⟩
theorem fl_X11_118 : xFL RX11 118 7 1 2 true := ⟨_, _, _, _, cl_X7, by decide, xw_t1 181 (by decide +kernel) rfl, rfl, rfl, rfl, fun _ => Or.inr trivial, rfl⟩
theorem fl_X11_127 : xFL RX11 127 3 3 0 false := ⟨_, _, _, _, cl_X3, by decide, xw_t1 52 (by decide +kernel) rfl, rfl, rfl, rfl, fun _ => Or.inr trivial, rfl⟩
theorem fl_X11_130 : xFL RX11 130 7 3 0 false := ⟨_, _, _, _, cl_X7, by decide, xw_t1 185 (by decide +kernel) rfl, rfl, rfl, rfl, fun _ => Or.inr trivial, rfl⟩
theorem fl_X11_136 : xFL RX11 136 0 0 2 true := ⟨_, _, _, _, cl_X0, by decide, xw_t1 141 (by decide +kernel) rfl, rfl, rfl, rfl, fun _ => Or.inr trivial, rfl⟩
theorem fl_X11_142 : xFL RX11 142 0 1 2 true := ⟨_, _, _, _, cl_X0, by decide, xw_t1 145 (by decide +kernel) rfl, rfl, rfl, rfl, fun _ => Or.inr trivial, rfl⟩
theorem fl_X11_145 : xFL RX11 145 0 2 2 true := ⟨_, _, _, _, cl_X0, by decide, xw_t1 147 (by decide +kernel) rfl, rfl, rfl, rfl, fun _ => Or.inr trivial, rfl⟩
theorem fl_X11_148 : xFL RX11 148 0 4 0 false := ⟨_, _, _, _, cl_X0, by decide, xw_t1 153 (by decide +kernel) rfl, rfl, rfl, rfl, fun _ => Or.inr trivial, rfl⟩
theorem fl_X11_151 : xFL RX11 151 3 5 0 false := ⟨_, _, _, _, cl_X3, by decide, xw_t1 59 (by decide +kernel) rfl, rfl, rfl, rfl, fun _ => Or.inr trivial, rfl⟩
theorem fl_X11_154 : xFL RX11 154 3 12 2 true := ⟨_, _, _, _, cl_X3, by decide, xw_t1 80 (by decide +kernel) rfl, rfl, rfl, rfl, fun _ => Or.inr trivial, rfl⟩
theorem fl_X11_157 : xFL RX11 157 3 13 2 true := ⟨_, _, _, _, cl_X3, by decide, xw_t1 83 (by decide +kernel) rfl, rfl, rfl, rfl, fun _ => Or.inr trivial, rfl⟩
theorem fl_X11_160 : xFL RX11 160 3 14 2 true := ⟨_, _, _, _, cl_X3, by decide, xw_t1 86 (by decide +kernel) rfl, rfl, rfl, rfl, fun _ => Or.inr trivial, rfl⟩
theorem fl_X11_163 : xFL RX11 163 0 5 0 false := ⟨_, _, _, _, cl_X0, by decide, xw_t1 157 (by decide +kernel) rfl, rfl, rfl, rfl, fun _ => Or.inr trivial, rfl⟩
theorem fl_X11_212 : xFL RX11 212 0 3 0 false := ⟨_, _, _, _, cl_X0, by decide, xw_t1 149 (by decide +kernel) rfl, rfl, rfl, rfl, fun _ => Or.inr trivial, rfl⟩
theorem fl_X11_218 : xFL RX11 218 5 0 0 false := ⟨_, _, _, _, cl_X5, by decide, xw_t2 21 (by decide +kernel) rfl, rfl, rfl, rfl, fun _ => Or.inr trivial, rfl⟩
theorem fl_X11_232 : xFL RX11 232 10 0 0 false := ⟨_, _, _, _, cl_X10, by decide, xw_t2 39 (by decide +kernel) rfl, rfl, rfl, rfl, fun _ => Or.inr trivial, rfl⟩
theorem fl_X11_233 : xFL RX11 233 10 2 2 true := ⟨_, _, _, _, cl_X10, by decide, xw_t2 42 (by decide +kernel) rfl, rfl, rfl, rfl, fun _ => Or.inr trivial, rfl⟩
theorem fl_X11_247 : xFL RX11 247 11 16 0 false := ⟨_, _, _, _, cl_X11, by decide, xw_t2 141 (by decide +kernel) rfl, rfl, rfl, rfl, fun _ => Or.inr trivial, rfl⟩
theorem fl_X11_283 : xFL RX11 283 3 6 0 false := ⟨_, _, _, _, cl_X3, by decide, xw_t1 64 (by decide +kernel) rfl, rfl, rfl, rfl, fun _ => Or.inr trivial, rfl⟩
theorem fl_X11_289 : xFL RX11 289 9 0 2 true := ⟨_, _, _, _, cl_X9, by decide, xw_t2 95 (by decide +kernel) rfl, rfl, rfl, rfl, fun _ => Or.inr trivial, rfl⟩
theorem fl_X11_295 : xFL RX11 295 3 15 2 true := ⟨_, _, _, _, cl_X3, by decide, xw_t1 89 (by decide +kernel) rfl, rfl, rfl, rfl, fun _ => Or.inr trivial, rfl⟩
theorem fl_X11_299 : xFL RX11 299 3 16 2 true := ⟨_, _, _, _, cl_X3, by decide, xw_t1 92 (by decide +kernel) rfl, rfl, rfl, rfl, fun _ => Or.inr trivial, rfl⟩
theorem fl_X11_312 : xFL RX11 312 0 6 0 false := ⟨_, _, _, _, cl_X0, by decide, xw_t1 162 (by decide +kernel) rfl, rfl, rfl, rfl, fun _ => Or.inr trivial, rfl⟩
theorem fl_X11_318 : xFL RX11 318 3 0 0 false := ⟨_, _, _, _, cl_X3, by decide, xw_t1 44 (by decide +kernel) rfl, rfl, rfl, rfl, fun _ => Or.inr trivial, rfl⟩
theorem fl_X11_324 : xFL RX11 324 3 1 0 false := ⟨_, _, _, _, cl_X3, by decide, xw_t1 48 (by decide +kernel) rfl, rfl, rfl, rfl, fun _ => Or.inr trivial, rfl⟩
theorem fl_X11_334 : xFL RX11 334 2 0 2 true := ⟨_, _, _, _, cl_X2, by decide, xw_t2 118 (by decide +kernel) rfl, rfl, rfl, rfl, fun _ => Or.inr trivial, rfl⟩
theorem fl_X11_362 : xFL RX11 362 11 10 0 false := ⟨_, _, _, _, cl_X11, by decide, xw_t2 135 (by decide +kernel) rfl, rfl, rfl, rfl, fun _ => Or.inr trivial, rfl⟩
theorem fl_X11_367 : xFL RX11 367 7 4 2 true := ⟨_, _, _, _, cl_X7, by decide, xw_t1 187 (by decide +kernel) rfl, rfl, rfl, rfl, fun _ => Or.inr trivial, rfl⟩
theorem fl_X11_373 : xFL RX11 373 6 0 2 true := ⟨_, _, _, _, cl_X6, by decide, xw_t2 84 (by decide +kernel) rfl, rfl, rfl, rfl, fun _ => Or.inr trivial, rfl⟩
theorem fl_X0_9 : xFL RX0 9 0 0 2 true := ⟨_, _, _, _, cl_X0, by decide, xw_t1 140 (by decide +kernel) rfl, rfl, rfl, rfl, fun _ => Or.inr trivial, rfl⟩
theorem fl_X0_15 : xFL RX0 15 0 1 2 true := ⟨_, _, _, _, cl_X0, by decide, xw_t1 144 (by decide +kernel) rfl, rfl, rfl, rfl, fun _ => Or.inr trivial, rfl⟩
theorem fl_X0_18 : xFL RX0 18 0 2 2 true := ⟨_, _, _, _, cl_X0, by decide, xw_t1 146 (by decide +kernel) rfl, rfl, rfl, rfl, fun _ => Or.inr trivial, rfl⟩
theorem fl_X0_27 : xFL RX0 27 0 3 0 false := ⟨_, _, _, _, cl_X0, by decide, xw_t1 148 (by decide +kernel) rfl, rfl, rfl, rfl, fun _ => Or.inr trivial, rfl⟩
theorem fl_X0_31 : xFL RX0 31 0 4 0 false := ⟨_, _, _, _, cl_X0, by decide, xw_t1 151 (by decide +kernel) rfl, rfl, rfl, rfl, fun _ => Or.inr trivial, rfl⟩
theorem fl_X0_34 : xFL RX0 34 0 5 0 false := ⟨_, _, _, _, cl_X0, by decide, xw_t1 154 (by decide +kernel) rfl, rfl, rfl, rfl, fun _ => Or.inr trivial, rfl⟩
theorem fl_X0_37 : xFL RX0 37 0 6 0 false := ⟨_, _, _, _, cl_X0, by decide, xw_t1 159 (by decide +kernel) rfl, rfl, rfl, rfl, fun _ => Or.inr trivial, rfl⟩
theorem fl_X1_9 : xFL RX1 9 1 0 2 true := ⟨_, _, _, _, cl_X1, by decide, xw_t2 58 (by decide +kernel) rfl, rfl, rfl, rfl, fun _ => Or.inr trivial, rfl⟩
theorem fl_X1_15 : xFL RX1 15 1 1 2 true := ⟨_, _, _, _, cl_X1, by decide, xw_t2 59 (by decide +kernel) rfl, rfl, rfl, rfl, fun _ => Or.inr trivial, rfl⟩
theorem fl_X1_18 : xFL RX1 18 1 2 2 true := ⟨_, _, _, _, cl_X1, by decide, xw_t2 60 (by decide +kernel) rfl, rfl, rfl, rfl, fun _ => Or.inr trivial, rfl⟩
theorem fl_X1_21 : xFL RX1 21 1 3 2 true := ⟨_, _, _, _, cl_X1, by decide, xw_t2 61 (by decide +kernel) rfl, rfl, rfl, rfl, fun _ => Or.inr trivial, rfl⟩
theorem fl_X1_24 : xFL RX1 24 1 4 2 true := ⟨_, _, _, _, cl_X1, by decide, xw_t2 62 (by decide +kernel) rfl, rfl, rfl, rfl, fun _ => Or.inr trivial, rfl⟩
theorem fl_X1_47 : xFL RX1 47 1 5 0 false := ⟨_, _, _, _, cl_X1, by decide, xw_t2 63 (by decide +kernel) rfl, rfl, rfl, rfl, fun _ => Or.inr trivial, rfl⟩
theorem fl_X1_51 : xFL RX1 51 3 1 0 false := ⟨_, _, _, _, cl_X3, by decide, xw_t1 46 (by decide +kernel) rfl, rfl, rfl, rfl, fun _ => Or.inr trivial, rfl⟩
theorem fl_X2_9 : xFL RX2 9 2 0 2 true := ⟨_, _, _, _, cl_X2, by decide, xw_t2 117 (by decide +kernel) rfl, rfl, rfl, rfl, fun _ => Or.inr trivial, rfl⟩
theorem fl_X2_17 : xFL RX2 17 2 1 2 true := ⟨_, _, _, _, cl_X2, by decide, xw_t2 119 (by decide +kernel) rfl, rfl, rfl, rfl, fun _ => Or.inr trivial, rfl⟩
theorem fl_X2_42 : xFL RX2 42 0 4 0 false := ⟨_, _, _, _, cl_X0, by decide, xw_t1 152 (by decide +kernel) rfl, rfl, rfl, rfl, fun _ => Or.inr trivial, rfl⟩
theorem fl_X2_50 : xFL RX2 50 0 6 0 false := ⟨_, _, _, _, cl_X0, by decide, xw_t1 160 (by decide +kernel) rfl, rfl, rfl, rfl, fun _ => Or.inr trivial, rfl⟩
theorem fl_X2_53 : xFL RX2 53 0 5 0 false := ⟨_, _, _, _, cl_X0, by decide, xw_t1 155 (by decide +kernel) rfl, rfl, rfl, rfl, fun _ => Or.inr trivial, rfl⟩
theorem fl_X2_62 : xFL RX2 62 3 4 0 false := ⟨_, _, _, _, cl_X3, by decide, xw_t1 54 (by decide +kernel) rfl, rfl, rfl, rfl, fun _ => Or.inr trivial, rfl⟩
theorem fl_X3_9 : xFL RX3 9 3 0 0 false := ⟨_, _, _, _, cl_X3, by decide, xw_t1 43 (by decide +kernel) rfl, rfl, rfl, rfl, fun _ => Or.inr trivial, rfl⟩
theorem fl_X3_15 : xFL RX3 15 3 1 0 false := ⟨_, _, _, _, cl_X3, by decide, xw_t1 45 (by decide +kernel) rfl, rfl, rfl, rfl, fun _ => Or.inr trivial, rfl⟩
theorem fl_X3_18 : xFL RX3 18 3 2 0 false := ⟨_, _, _, _, cl_X3, by decide, xw_t1 49 (by decide +kernel) rfl, rfl, rfl, rfl, fun _ => Or.inr trivial, rfl⟩
theorem fl_X3_21 : xFL RX3 21 3 12 2 true := ⟨_, _, _, _, cl_X3, by decide, xw_t1 79 (by decide +kernel) rfl, rfl, rfl, rfl, fun _ => Or.inr trivial, rfl⟩
theorem fl_X3_25 : xFL RX3 25 3 13 2 true := ⟨_, _, _, _, cl_X3, by decide, xw_t1 81 (by decide +kernel) rfl, rfl, rfl, rfl, fun _ => Or.inr trivial, rfl⟩
theorem fl_X3_28 : xFL RX3 28 3 14 2 true := ⟨_, _, _, _, cl_X3, by decide, xw_t1 84 (by decide +kernel) rfl, rfl, rfl, rfl, fun _ => Or.inr trivial, rfl⟩
theorem fl_X3_31 : xFL RX3 31 3 15 2 true := ⟨_, _, _, _, cl_X3, by decide, xw_t1 87 (by decide +kernel) rfl, rfl, rfl, rfl, fun _ => Or.inr trivial, rfl⟩
theorem fl_X3_34 : xFL RX3 34 3 16 2 true := ⟨_, _, _, _, cl_X3, by decide, xw_t1 90 (by decide +kernel) rfl, rfl, rfl, rfl, fun _ => Or.inr trivial, rfl⟩
theorem fl_X3_37 : xFL RX3 37 3 17 2 true := ⟨_, _, _, _, cl_X3, by decide, xw_t1 93 (by decide +kernel) rfl, rfl, rfl, rfl, fun _ => Or.inr trivial, rfl⟩
theorem fl_X3_44 : xFL RX3 44 3 3 0 false := ⟨_, _, _, _, cl_X3, by decide, xw_t1 53 (by decide +kernel) rfl, rfl, rfl, rfl, fun _ => Or.inr trivial, rfl⟩
theorem fl_X3_47 : xFL RX3 47 3 4 0 false := ⟨_, _, _, _, cl_X3, by decide, xw_t1 55 (by decide +kernel) rfl, rfl, rfl, rfl, fun _ => Or.inr trivial, rfl⟩
theorem fl_X3_50 : xFL RX3 50 3 5 0 false := ⟨_, _, _, _, cl_X3, by decide, xw_t1 58 (by decide +kernel) rfl, rfl, rfl, rfl, fun _ => Or.inr trivial, rfl⟩
theorem fl_X3_53 : xFL RX3 53 3 6 0 false := ⟨_, _, _, _, cl_X3, by decide, xw_t1 62 (by decide +kernel) rfl, rfl, rfl, rfl, fun _ => Or.inr trivial, rfl⟩
theorem fl_X3_56 : xFL RX3 56 3 7 0 false := ⟨_, _, _, _, cl_X3, by decide, xw_t1 65 (by decide +kernel) rfl, rfl, rfl, rfl, fun _ => Or.inr trivial, rfl⟩
theorem fl_X3_59 : xFL RX3 59 3 8 0 false := ⟨_, _, _, _, cl_X3, by decide, xw_t1 68 (by decide +kernel) rfl, rfl, rfl, rfl, fun _ => Or.inr trivial, rfl⟩
theorem fl_X3_62 : xFL RX3 62 3 9 0 false := ⟨_, _, _, _, cl_X3, by decide, xw_t1 71 (by decide +kernel) rfl, rfl, rfl, rfl, fun _ => Or.inr trivial, rfl⟩
theorem fl_X3_65 : xFL RX3 65 3 10 0 false := ⟨_, _, _, _, cl_X3, by decide, xw_t1 73 (by decide +kernel) rfl, rfl, rfl, rfl, fun _ => Or.inr trivial, rfl⟩
theorem fl_X3_68 : xFL RX3 68 3 11 0 false := ⟨_, _, _, _, cl_X3, by decide, xw_t1 76 (by decide +kernel) rfl, rfl, rfl, rfl, fun _ => Or.inr trivial, rfl⟩
theorem fl_X4_9 : xFL RX4 9 4 0 2 true := ⟨_, _, _, _, cl_X4, by decide, xw_t1 233 (by decide +kernel) rfl, rfl, rfl, rfl, fun _ => Or.inr trivial, rfl⟩
theorem fl_X4_13 : xFL RX4 13 4 1 2 true := ⟨_, _, _, _, cl_X4, by decide, xw_t1 235 (by decide +kernel) rfl, rfl, rfl, rfl, fun _ => Or.inr trivial, rfl⟩
theorem fl_X5_13 : xFL RX5 13 5 2 2 true := ⟨_, _, _, _, cl_X5, by decide, xw_t2 23 (by decide +kernel) rfl, rfl, rfl, rfl, fun _ => Or.inr trivial, rfl⟩
theorem fl_X5_18 : xFL RX5 18 5 1 0 false := ⟨_, _, _, _, cl_X5, by decide, xw_t2 22 (by decide +kernel) rfl, rfl, rfl, rfl, fun _ => Or.inr trivial, rfl⟩
theorem fl_X5_26 : xFL RX5 26 5 0 0 false := ⟨_, _, _, _, cl_X5, by decide, xw_t2 20 (by decide +kernel) rfl, rfl, rfl, rfl, fun _ => Or.inr trivial, rfl⟩
theorem fl_X6_9 : xFL RX6 9 6 0 2 true := ⟨_, _, _, _, cl_X6, by decide, xw_t2 83 (by decide +kernel) rfl, rfl, rfl, rfl, fun _ => Or.inr trivial, rfl⟩
theorem fl_X6_15 : xFL RX6 15 3 5 0 false := ⟨_, _, _, _, cl_X3, by decide, xw_t1 57 (by decide +kernel) rfl, rfl, rfl, rfl, fun _ => Or.inr trivial, rfl⟩
theorem fl_X6_29 : xFL RX6 29 3 14 2 true := ⟨_, _, _, _, cl_X3, by decide, xw_t1 85 (by decide +kernel) rfl, rfl, rfl, rfl, fun _ => Or.inr trivial, rfl⟩
theorem fl_X6_36 : xFL RX6 36 3 13 2 true := ⟨_, _, _, _, cl_X3, by decide, xw_t1 82 (by decide +kernel) rfl, rfl, rfl, rfl, fun _ => Or.inr trivial, rfl⟩
theorem fl_X7_9 : xFL RX7 9 7 4 2 true := ⟨_, _, _, _, cl_X7, by decide, xw_t1 186 (by decide +kernel) rfl, rfl, rfl, rfl, fun _ => Or.inr trivial, rfl⟩
theorem fl_X7_15 : xFL RX7 15 7 3 0 false := ⟨_, _, _, _, cl_X7, by decide, xw_t1 184 (by decide +kernel) rfl, rfl, rfl, rfl, fun _ => Or.inr trivial, rfl⟩
theorem fl_X7_22 : xFL RX7 22 7 0 2 true := ⟨_, _, _, _, cl_X7, by decide, xw_t1 178 (by decide +kernel) rfl, rfl, rfl, rfl, fun _ => Or.inr trivial, rfl⟩
theorem fl_X7_29 : xFL RX7 29 7 1 2 true := ⟨_, _, _, _, cl_X7, by decide, xw_t1 180 (by decide +kernel) rfl, rfl, rfl, rfl, fun _ => Or.inr trivial, rfl⟩
theorem fl_X7_42 : xFL RX7 42 7 5 0 false := ⟨_, _, _, _, cl_X7, by decide, xw_t1 188 (by decide +kernel) rfl, rfl, rfl, rfl, fun _ => Or.inr trivial, rfl⟩
theorem fl_X7_45 : xFL RX7 45 7 7 0 false := ⟨_, _, _, _, cl_X7, by decide, xw_t1 190 (by decide +kernel) rfl, rfl, rfl, rfl, fun _ => Or.inr trivial, rfl⟩
theorem fl_X7_48 : xFL RX7 48 7 2 0 false := ⟨_, _, _, _, cl_X7, by decide, xw_t1 182 (by decide +kernel) rfl, rfl, rfl, rfl, fun _ => Or.inr trivial, rfl⟩
theorem fl_X7_51 : xFL RX7 51 7 9 0 false := ⟨_, _, _, _, cl_X7, by decide, xw_t1 192 (by decide +kernel) rfl, rfl, rfl, rfl, fun _ => Or.inr trivial, rfl⟩
theorem fl_X7_64 : xFL RX7 64 7 8 0 false := ⟨_, _, _, _, cl_X7, by decide, xw_t1 191 (by decide +kernel) rfl, rfl, rfl, rfl, fun _ => Or.inr trivial, rfl⟩
theorem fl_X7_74 : xFL RX7 74 3 3 0 false := ⟨_, _, _, _, cl_X3, by decide, xw_t1 51 (by decide +kernel) rfl, rfl, rfl, rfl, fun _ => Or.inr trivial, rfl⟩
theorem fl_X7_77 : xFL RX7 77 7 6 0 false := ⟨_, _, _, _, cl_X7, by decide, xw_t1 189 (by decide +kernel) rfl, rfl, rfl, rfl, fun _ => Or.inr trivial, rfl⟩
theorem fl_X7_135 : xFL RX7 135 0 0 2 true := ⟨_, _, _, _, cl_X0, by decide, xw_t1 143 (by decide +kernel) rfl, rfl, rfl, rfl, fun _ => Or.inr trivial, rfl⟩
theorem fl_X7_165 : xFL RX7 165 0 5 0 false := ⟨_, _, _, _, cl_X0, by decide, xw_t1 158 (by decide +kernel) rfl, rfl, rfl, rfl, fun _ => Or.inr trivial, rfl⟩
theorem fl_X7_169 : xFL RX7 169 3 4 0 false := ⟨_, _, _, _, cl_X3, by decide, xw_t1 56 (by decide +kernel) rfl, rfl, rfl, rfl, fun _ => Or.inr trivial, rfl⟩
theorem fl_X7_182 : xFL RX7 182 0 3 0 false := ⟨_, _, _, _, cl_X0, by decide, xw_t1 150 (by decide +kernel) rfl, rfl, rfl, rfl, fun _ => Or.inr trivial, rfl⟩
theorem fl_X7_196 : xFL RX7 196 3 5 0 false := ⟨_, _, _, _, cl_X3, by decide, xw_t1 60 (by decide +kernel) rfl, rfl, rfl, rfl, fun _ => Or.inr trivial, rfl⟩
theorem fl_X7_207 : xFL RX7 207 3 6 0 false := ⟨_, _, _, _, cl_X3, by decide, xw_t1 63 (by decide +kernel) rfl, rfl, rfl, rfl, fun _ => Or.inr trivial, rfl⟩
theorem fl_X7_213 : xFL RX7 213 3 16 2 true := ⟨_, _, _, _, cl_X3, by decide, xw_t1 91 (by decide +kernel) rfl, rfl, rfl, rfl, fun _ => Or.inr trivial, rfl⟩
theorem fl_X7_216 : xFL RX7 216 3 7 0 false := ⟨_, _, _, _, cl_X3, by decide, xw_t1 66 (by decide +kernel) rfl, rfl, rfl, rfl, fun _ => Or.inr trivial, rfl⟩
theorem fl_X7_219 : xFL RX7 219 7 10 3 false := ⟨_, _, _, _, cl_X7, by decide, xw_t1 193 (by decide +kernel) rfl, rfl, rfl, rfl, fun _ => Or.inr trivial, rfl⟩
theorem fl_X7_226 : xFL RX7 226 3 10 0 false := ⟨_, _, _, _, cl_X3, by decide, xw_t1 75 (by decide +kernel) rfl, rfl, rfl, rfl, fun _ => Or.inr trivial, rfl⟩
theorem fl_X7_229 : xFL RX7 229 3 11 0 false := ⟨_, _, _, _, cl_X3, by decide, xw_t1 78 (by decide +kernel) rfl, rfl, rfl, rfl, fun _ => Or.inr trivial, rfl⟩
theorem fl_X7_232 : xFL RX7 232 3 8 0 false := ⟨_, _, _, _, cl_X3, by decide, xw_t1 69 (by decide +kernel) rfl, rfl, rfl, rfl, fun _ => Or.inr trivial, rfl⟩
theorem fl_X7_235 : xFL RX7 235 3 9 0 false := ⟨_, _, _, _, cl_X3, by decide, xw_t1 72 (by decide +kernel) rfl, rfl, rfl, rfl, fun _ => Or.inr trivial, rfl⟩
theorem fl_X8_12 : xFL RX8 12 8 0 2 true := ⟨_, _, _, _, cl_X8, by decide, xw_t2 1 (by decide +kernel) rfl, rfl, rfl, rfl, fun _ => Or.inr trivial, rfl⟩
theorem fl_X8_18 : xFL RX8 18 8 1 2 true := ⟨_, _, _, _, cl_X8, by decide, xw_t2 2 (by decide +kernel) rfl, rfl, rfl, rfl, fun _ => Or.inr trivial, rfl⟩
theorem fl_X8_22 : xFL RX8 22 8 2 2 true := ⟨_, _, _, _, cl_X8, by decide, xw_t2 3 (by decide +kernel) rfl, rfl, rfl, rfl, fun _ => Or.inr trivial, rfl⟩
theorem fl_X8_25 : xFL RX8 25 3 8 0 false := ⟨_, _, _, _, cl_X3, by decide, xw_t1 67 (by decide +kernel) rfl, rfl, rfl, rfl, fun _ => Or.inr trivial, rfl⟩
theorem fl_X8_31 : xFL RX8 31 3 9 0 false := ⟨_, _, _, _, cl_X3, by decide, xw_t1 70 (by decide +kernel) rfl, rfl, rfl, rfl, fun _ => Or.inr trivial, rfl⟩
theorem fl_X8_40 : xFL RX8 40 4 0 2 true := ⟨_, _, _, _, cl_X4, by decide, xw_t1 234 (by decide +kernel) rfl, rfl, rfl, rfl, fun _ => Or.inr trivial, rfl⟩
theorem fl_X8_43 : xFL RX8 43 3 17 2 true := ⟨_, _, _, _, cl_X3, by decide, xw_t1 94 (by decide +kernel) rfl, rfl, rfl, rfl, fun _ => Or.inr trivial, rfl⟩
theorem fl_X8_60 : xFL RX8 60 3 1 0 false := ⟨_, _, _, _, cl_X3, by decide, xw_t1 47 (by decide +kernel) rfl, rfl, rfl, rfl, fun _ => Or.inr trivial, rfl⟩
theorem fl_X8_67 : xFL RX8 67 3 2 0 false := ⟨_, _, _, _, cl_X3, by decide, xw_t1 50 (by decide +kernel) rfl, rfl, rfl, rfl, fun _ => Or.inr trivial, rfl⟩
theorem fl_X8_70 : xFL RX8 70 0 6 0 false := ⟨_, _, _, _, cl_X0, by decide, xw_t1 161 (by decide +kernel) rfl, rfl, rfl, rfl, fun _ => Or.inr trivial, rfl⟩
theorem fl_X8_75 : xFL RX8 75 0 5 0 false := ⟨_, _, _, _, cl_X0, by decide, xw_t1 156 (by decide +kernel) rfl, rfl, rfl, rfl, fun _ => Or.inr trivial, rfl⟩
theorem fl_X8_86 : xFL RX8 86 0 0 2 true := ⟨_, _, _, _, cl_X0, by decide, xw_t1 142 (by decide +kernel) rfl, rfl, rfl, rfl, fun _ => Or.inr trivial, rfl⟩
theorem fl_X8_97 : xFL RX8 97 3 10 0 false := ⟨_, _, _, _, cl_X3, by decide, xw_t1 74 (by decide +kernel) rfl, rfl, rfl, rfl, fun _ => Or.inr trivial, rfl⟩
theorem fl_X8_100 : xFL RX8 100 3 11 0 false := ⟨_, _, _, _, cl_X3, by decide, xw_t1 77 (by decide +kernel) rfl, rfl, rfl, rfl, fun _ => Or.inr trivial, rfl⟩
theorem fl_X9_9 : xFL RX9 9 9 0 2 true := ⟨_, _, _, _, cl_X9, by decide, xw_t2 94 (by decide +kernel) rfl, rfl, rfl, rfl, fun _ => Or.inr trivial, rfl⟩
theorem fl_X9_15 : xFL RX9 15 3 6 0 false := ⟨_, _, _, _, cl_X3, by decide, xw_t1 61 (by decide +kernel) rfl, rfl, rfl, rfl, fun _ => Or.inr trivial, rfl⟩
theorem fl_X9_29 : xFL RX9 29 3 15 2 true := ⟨_, _, _, _, cl_X3, by decide, xw_t1 88 (by decide +kernel) rfl, rfl, rfl, rfl, fun _ => Or.inr trivial, rfl⟩
theorem fl_X10_9 : xFL RX10 9 10 0 0 false := ⟨_, _, _, _, cl_X10, by decide, xw_t2 38 (by decide +kernel) rfl, rfl, rfl, rfl, fun _ => Or.inr trivial, rfl⟩
theorem fl_X10_15 : xFL RX10 15 10 2 2 true := ⟨_, _, _, _, cl_X10, by decide, xw_t2 41 (by decide +kernel) rfl, rfl, rfl, rfl, fun _ => Or.inr trivial, rfl⟩
theorem fl_X10_19 : xFL RX10 19 10 1 0 false := ⟨_, _, _, _, cl_X10, by decide, xw_t2 40 (by decide +kernel) rfl, rfl, rfl, rfl, fun _ => Or.inr trivial, rfl⟩
theorem fl_X12_1 : xFL RX12 1 12 0 0 false := ⟨_, _, _, _, cl_X12, by decide, xw_t6 29 (by decide +kernel) rfl, rfl, rfl, rfl, fun _ => Or.inr trivial, rfl⟩
theorem fl_X12_13 : xFL RX12 13 12 1 2 true := ⟨_, _, _, _, cl_X12, by decide, xw_t6 30 (by decide +kernel) rfl, rfl, rfl, rfl, fun _ => Or.inr trivial, rfl⟩
theorem fl_X12_17 : xFL RX12 17 12 2 2 true := ⟨_, _, _, _, cl_X12, by decide, xw_t6 31 (by decide +kernel) rfl, rfl, rfl, rfl, fun _ => Or.inr trivial, rfl⟩
theorem fl_X12_21 : xFL RX12 21 12 3 2 true := ⟨_, _, _, _, cl_X12, by decide, xw_t6 32 (by decide +kernel) rfl, rfl, rfl, rfl, fun _ => Or.inr trivial, rfl⟩
theorem fl_X12_24 : xFL RX12 24 12 4 2 true := ⟨_, _, _, _, cl_X12, by decide, xw_t6 33 (by decide +kernel) rfl, rfl, rfl, rfl, fun _ => Or.inr trivial, rfl⟩
theorem fl_X12_27 : xFL RX12 27 12 14 0 false := ⟨_, _, _, _, cl_X12, by decide, xw_t6 43 (by decide +kernel) rfl, rfl, rfl, rfl, fun _ => Or.inr trivial, rfl⟩
theorem fl_X12_30 : xFL RX12 30 12 16 2 true := ⟨_, _, _, _, cl_X12, by decide, xw_t6 45 (by decide +kernel) rfl, rfl, rfl, rfl, fun _ => Or.inr trivial, rfl⟩
theorem fl_X12_33 : xFL RX12 33 12 17 2 true := ⟨_, _, _, _, cl_X12, by decide, xw_t6 46 (by decide +kernel) rfl, rfl, rfl, rfl, fun _ => Or.inr trivial, rfl⟩
theorem fl_X12_36 : xFL RX12 36 12 18 2 true := ⟨_, _, _, _, cl_X12, by decide, xw_t6 47 (by decide +kernel) rfl, rfl, rfl, rfl, fun _ => Or.inr trivial, rfl⟩
theorem fl_X12_39 : xFL RX12 39 12 19 2 true := ⟨_, _, _, _, cl_X12, by decide, xw_t6 48 (by decide +kernel) rfl, rfl, rfl, rfl, fun _ => Or.inr trivial, rfl⟩
theorem fl_X12_42 : xFL RX12 42 12 22 2 true := ⟨_, _, _, _, cl_X12, by decide, xw_t6 51 (by decide +kernel) rfl, rfl, rfl, rfl, fun _ => Or.inr trivial, rfl⟩
theorem fl_X12_45 : xFL RX12 45 12 25 2 true := ⟨_, _, _, _, cl_X12, by decide, xw_t6 54 (by decide +kernel) rfl, rfl, rfl, rfl, fun _ => Or.inr trivial, rfl⟩
theorem fl_X12_48 : xFL RX12 48 12 26 2 true := ⟨_, _, _, _, cl_X12, by decide, xw_t6 55 (by decide +kernel) rfl, rfl, rfl, rfl, fun _ => Or.inr trivial, rfl⟩
theorem fl_X12_51 : xFL RX12 51 12 27 2 true := ⟨_, _, _, _, cl_X12, by decide, xw_t6 56 (by decide +kernel) rfl, rfl, rfl, rfl, fun _ => Or.inr trivial, rfl⟩
theorem fl_X12_54 : xFL RX12 54 12 28 2 true := ⟨_, _, _, _, cl_X12, by decide, xw_t6 57 (by decide +kernel) rfl, rfl, rfl, rfl, fun _ => Or.inr trivial, rfl⟩
theorem fl_X12_57 : xFL RX12 57 12 29 2 true := ⟨_, _, _, _, cl_X12, by decide, xw_t6 58 (by decide +kernel) rfl, rfl, rfl, rfl, fun _ => Or.inr trivial, rfl⟩
theorem fl_X12_60 : xFL RX12 60 12 30 2 true := ⟨_, _, _, _, cl_X12, by decide, xw_t6 59 (by decide +kernel) rfl, rfl, rfl, rfl, fun _ => Or.inr trivial, rfl⟩
theorem fl_X12_63 : xFL RX12 63 12 31 2 true := ⟨_, _, _, _, cl_X12, by decide, xw_t6 60 (by decide +kernel) rfl, rfl, rfl, rfl, fun _ => Or.inr trivial, rfl⟩
theorem fl_X12_66 : xFL RX12 66 12 32 2 true := ⟨_, _, _, _, cl_X12, by decide, xw_t6 61 (by decide +kernel) rfl, rfl, rfl, rfl, fun _ => Or.inr trivial, rfl⟩
theorem fl_X12_70 : xFL RX12 70 12 33 2 true := ⟨_, _, _, _, cl_X12, by decide, xw_t6 62 (by decide +kernel) rfl, rfl, rfl, rfl, fun _ => Or.inr trivial, rfl⟩
theorem fl_X12_73 : xFL RX12 73 12 34 2 true := ⟨_, _, _, _, cl_X12, by decide, xw_t6 63 (by decide +kernel) rfl, rfl, rfl, rfl, fun _ => Or.inr trivial, rfl⟩
theorem fl_X12_76 : xFL RX12 76 12 35 2 true := ⟨_, _, _, _, cl_X12, by decide, xw_t6 64 (by decide +kernel) rfl, rfl, rfl, rfl, fun _ => Or.inr trivial, rfl⟩
theorem fl_X12_83 : xFL RX12 83 12 5 0 false := ⟨_, _, _, _, cl_X12, by decide, xw_t6 34 (by decide +kernel) rfl, rfl, rfl, rfl, fun _ => Or.inr trivial, rfl⟩
theorem fl_X12_86 : xFL RX12 86 12 8 0 false := ⟨_, _, _, _, cl_X12, by decide, xw_t6 37 (by decide +kernel) rfl, rfl, rfl, rfl, fun _ => Or.inr trivial, rfl⟩
theorem fl_X12_101 : xFL RX12 101 12 6 0 false := ⟨_, _, _, _, cl_X12, by decide, xw_t6 35 (by decide +kernel) rfl, rfl, rfl, rfl, fun _ => Or.inr trivial, rfl⟩
theorem fl_X12_104 : xFL RX12 104 12 7 0 false := ⟨_, _, _, _, cl_X12, by decide, xw_t6 36 (by decide +kernel) rfl, rfl, rfl, rfl, fun _ => Or.inr trivial, rfl⟩
theorem fl_X12_111 : xFL RX12 111 12 9 0 false := ⟨_, _, _, _, cl_X12, by decide, xw_t6 38 (by decide +kernel) rfl, rfl, rfl, rfl, fun _ => Or.inr trivial, rfl⟩
theorem fl_X12_124 : xFL RX12 124 12 10 0 false := ⟨_, _, _, _, cl_X12, by decide, xw_t6 39 (by decide +kernel) rfl, rfl, rfl, rfl, fun _ => Or.inr trivial, rfl⟩
theorem fl_X12_129 : xFL RX12 129 12 11 0 false := ⟨_, _, _, _, cl_X12, by decide, xw_t6 40 (by decide +kernel) rfl, rfl, rfl, rfl, fun _ => Or.inr trivial, rfl⟩
theorem fl_X12_132 : xFL RX12 132 12 12 0 false := ⟨_, _, _, _, cl_X12, by decide, xw_t6 41 (by decide +kernel) rfl, rfl, rfl, rfl, fun _ => Or.inr trivial, rfl⟩
theorem fl_X12_149 : xFL RX12 149 12 15 0 false := ⟨_, _, _, _, cl_X12, by decide, xw_t6 44 (by decide +kernel) rfl, rfl, rfl, rfl, fun _ => Or.inr trivial, rfl⟩
theorem fl_X12_227 : xFL RX12 227 12 13 0 false := ⟨_, _, _, _, cl_X12, by decide, xw_t6 42 (by decide +kernel) rfl, rfl, rfl, rfl, fun _ => Or.inr trivial, rfl⟩
theorem fl_X12_247 : xFL RX12 247 12 20 0 false := ⟨_, _, _, _, cl_X12, by decide, xw_t6 49 (by decide +kernel) rfl, rfl, rfl, rfl, fun _ => Or.inr trivial, rfl⟩
theorem fl_X12_250 : xFL RX12 250 12 21 0 false := ⟨_, _, _, _, cl_X12, by decide, xw_t6 50 (by decide +kernel) rfl, rfl, rfl, rfl, fun _ => Or.inr trivial, rfl⟩
theorem fl_X12_338 : xFL RX12 338 12 23 0 false := ⟨_, _, _, _, cl_X12, by decide, xw_t6 52 (by decide +kernel) rfl, rfl, rfl, rfl, fun _ => Or.inr trivial, rfl⟩
theorem fl_X12_363 : xFL RX12 363 12 24 0 false := ⟨_, _, _, _, cl_X12, by decide, xw_t6 53 (by decide +kernel) rfl, rfl, rfl, rfl, fun _ => Or.inr trivial, rfl⟩
def xLT (own : String) (idx : Nat) (y : MethodName) (cc : ByteArray) (nL : Nat) (ret : Option FieldType) (n : Nat) : Prop := xMT y cc nL ret n ∧ Cond.methodLink own idx y ∈ xw ∧ Cond.instanceMethod y ∈ xw ∧ Cond.selects y.cls y y ∈ xw ∧ y.cls = "java/lang/String"
theorem fj_J0_9 : Cond.fieldLink RJ0 9 "java/lang/String" "value" "[B" ∈ xw := xw_t8 223 (by decide +kernel) rfl
theorem fj_J0_15 : Cond.fieldLink RJ0 15 "java/lang/String" "coder" "B" ∈ xw := xw_t8 222 (by decide +kernel) rfl
theorem fj_J0_38 : Cond.fieldLink RJ0 38 "java/lang/String" "COMPACT_STRINGS" "Z" ∈ xw := xw_t2 236 (by decide +kernel) rfl
theorem fj_J0_1053 : Cond.fieldLink RJ0 1053 "jdk/internal/util/Preconditions" "SIOOBE_FORMATTER" "Ljava/util/function/BiFunction;" ∈ xw := xw_t3 35 (by decide +kernel) rfl
theorem lo_X11_3 : Cond.methodLink RX11 3 objectInit ∈ xw ∧ Cond.instanceMethod objectInit ∈ xw ∧ Cond.code objectInit ⟨#[0xb1]⟩ 1 none ∈ xw := ⟨xw_t1 28 (by decide +kernel) rfl, xw_t1 29 (by decide +kernel) rfl, xw_t1 30 (by decide +kernel) rfl⟩
theorem mt_X7_init : xMT yX7_init cX7_init 1 none 0 := ⟨xw_t1 35 (by decide +kernel) rfl, xw_t1 2 (by decide +kernel) rfl, by decide +kernel, by decide⟩
theorem lk_X11_11 : xLI RX11 11 yX7_init cX7_init 1 0 := ⟨mt_X7_init, xw_t1 33 (by decide +kernel) rfl, xw_t1 34 (by decide +kernel) rfl, rfl⟩
theorem mt_X3_init : xMT yX3_init cX3_init 1 none 0 := ⟨xw_t1 41 (by decide +kernel) rfl, xw_t1 3 (by decide +kernel) rfl, by decide +kernel, by decide⟩
theorem lk_X11_18 : xLI RX11 18 yX3_init cX3_init 1 0 := ⟨mt_X3_init, xw_t1 218 (by decide +kernel) rfl, xw_t1 40 (by decide +kernel) rfl, rfl⟩
theorem mt_X0_init : xMT yX0_init cX0_init 1 none 0 := ⟨xw_t1 138 (by decide +kernel) rfl, xw_t1 4 (by decide +kernel) rfl, by decide +kernel, by decide⟩
theorem lk_X11_25 : xLI RX11 25 yX0_init cX0_init 1 0 := ⟨mt_X0_init, xw_t1 220 (by decide +kernel) rfl, xw_t1 137 (by decide +kernel) rfl, rfl⟩
theorem mt_X8_init : xMT yX8_init cX8_init 1 none 0 := ⟨xw_t1 225 (by decide +kernel) rfl, xw_t1 5 (by decide +kernel) rfl, by decide +kernel, by decide⟩
theorem lk_X11_35 : xLI RX11 35 yX8_init cX8_init 1 0 := ⟨mt_X8_init, xw_t1 223 (by decide +kernel) rfl, xw_t1 224 (by decide +kernel) rfl, rfl⟩
theorem mt_X5_init : xMT yX5_init cX5_init 2 none 0 := ⟨xw_t2 15 (by decide +kernel) rfl, xw_t1 7 (by decide +kernel) rfl, by decide +kernel, by decide⟩
theorem lk_X11_42 : xLI RX11 42 yX5_init cX5_init 2 0 := ⟨mt_X5_init, xw_t2 13 (by decide +kernel) rfl, xw_t2 14 (by decide +kernel) rfl, rfl⟩
theorem mt_X10_init : xMT yX10_init cX10_init 1 none 0 := ⟨xw_t2 36 (by decide +kernel) rfl, xw_t1 8 (by decide +kernel) rfl, by decide +kernel, by decide⟩
theorem lk_X11_53 : xLI RX11 53 yX10_init cX10_init 1 0 := ⟨mt_X10_init, xw_t2 34 (by decide +kernel) rfl, xw_t2 35 (by decide +kernel) rfl, rfl⟩
theorem mt_X1_init : xMT yX1_init cX1_init 1 none 0 := ⟨xw_t2 56 (by decide +kernel) rfl, xw_t1 9 (by decide +kernel) rfl, by decide +kernel, by decide⟩
theorem lk_X11_64 : xLI RX11 64 yX1_init cX1_init 1 0 := ⟨mt_X1_init, xw_t2 54 (by decide +kernel) rfl, xw_t2 55 (by decide +kernel) rfl, rfl⟩
theorem mt_X6_init : xMT yX6_init cX6_init 1 none 0 := ⟨xw_t2 81 (by decide +kernel) rfl, xw_t1 10 (by decide +kernel) rfl, by decide +kernel, by decide⟩
theorem lk_X11_71 : xLI RX11 71 yX6_init cX6_init 1 0 := ⟨mt_X6_init, xw_t2 79 (by decide +kernel) rfl, xw_t2 80 (by decide +kernel) rfl, rfl⟩
theorem mt_X9_init : xMT yX9_init cX9_init 1 none 0 := ⟨xw_t2 92 (by decide +kernel) rfl, xw_t1 11 (by decide +kernel) rfl, by decide +kernel, by decide⟩
theorem lk_X11_78 : xLI RX11 78 yX9_init cX9_init 1 0 := ⟨mt_X9_init, xw_t2 90 (by decide +kernel) rfl, xw_t2 91 (by decide +kernel) rfl, rfl⟩
theorem mt_X11_rowWorths : xMT yX11_rowWorths cX11_rowWorths 4 (some (.array .int)) 0 := ⟨xw_t2 101 (by decide +kernel) rfl, xw_t1 1 (by decide +kernel) rfl, by decide +kernel, by decide⟩
theorem lk_X11_83 : xLS RX11 83 yX11_rowWorths cX11_rowWorths 4 (some (.array .int)) 0 := ⟨mt_X11_rowWorths, xw_t2 99 (by decide +kernel) rfl, xw_t2 100 (by decide +kernel) rfl⟩
theorem mt_X2_init : xMT yX2_init cX2_init 2 none 0 := ⟨xw_t2 113 (by decide +kernel) rfl, xw_t1 13 (by decide +kernel) rfl, by decide +kernel, by decide⟩
theorem lk_X11_93 : xLI RX11 93 yX2_init cX2_init 2 0 := ⟨mt_X2_init, xw_t2 111 (by decide +kernel) rfl, xw_t2 112 (by decide +kernel) rfl, rfl⟩
theorem mt_X11_putBytes : xMT yX11_putBytes cX11_putBytes 3 none 1 := ⟨xw_t2 184 (by decide +kernel) rfl, xw_t1 1 (by decide +kernel) rfl, by decide +kernel, by decide⟩
theorem lk_X11_102 : xLV RX11 102 yX11_putBytes cX11_putBytes 3 none 1 11 := ⟨mt_X11_putBytes, xw_t2 181 (by decide +kernel) rfl, xw_t2 183 (by decide +kernel) rfl, xw_p1 0 (by decide +kernel), rfl, by decide⟩
theorem mt_X7_reads : xMT yX7_reads cX7_reads 3 (some .boolean) 1 := ⟨xw_t2 192 (by decide +kernel) rfl, xw_t1 2 (by decide +kernel) rfl, by decide +kernel, by decide⟩
theorem lk_X11_106 : xLV RX11 106 yX7_reads cX7_reads 3 (some .boolean) 1 7 := ⟨mt_X7_reads, xw_t2 189 (by decide +kernel) rfl, xw_t2 190 (by decide +kernel) rfl, xw_t2 191 (by decide +kernel) rfl, rfl, by decide⟩
theorem mt_X3_take : xMT yX3_take cX3_take 2 none 1 := ⟨xw_t4 17 (by decide +kernel) rfl, xw_t1 3 (by decide +kernel) rfl, by decide +kernel, by decide⟩
theorem lk_X11_114 : xLV RX11 114 yX3_take cX3_take 2 none 1 3 := ⟨mt_X3_take, xw_t4 14 (by decide +kernel) rfl, xw_t4 15 (by decide +kernel) rfl, xw_t4 16 (by decide +kernel) rfl, rfl, by decide⟩
theorem mt_X0_take : xMT yX0_take cX0_take 2 none 1 := ⟨xw_t4 24 (by decide +kernel) rfl, xw_t1 4 (by decide +kernel) rfl, by decide +kernel, by decide⟩
theorem lk_X11_121 : xLV RX11 121 yX0_take cX0_take 2 none 1 0 := ⟨mt_X0_take, xw_t4 21 (by decide +kernel) rfl, xw_t4 22 (by decide +kernel) rfl, xw_t4 23 (by decide +kernel) rfl, rfl, by decide⟩
theorem mt_X5_forget : xMT yX5_forget cX5_forget 1 none 0 := ⟨xw_t4 29 (by decide +kernel) rfl, xw_t1 7 (by decide +kernel) rfl, by decide +kernel, by decide⟩
theorem lk_X11_124 : xLV RX11 124 yX5_forget cX5_forget 1 none 0 5 := ⟨mt_X5_forget, xw_t4 26 (by decide +kernel) rfl, xw_t4 27 (by decide +kernel) rfl, xw_t4 28 (by decide +kernel) rfl, rfl, by decide⟩
theorem mt_X11_isCell : xMT yX11_isCell cX11_isCell 2 (some .boolean) 1 := ⟨xw_t4 41 (by decide +kernel) rfl, xw_t1 1 (by decide +kernel) rfl, by decide +kernel, by decide⟩
theorem lk_X11_133 : xLV RX11 133 yX11_isCell cX11_isCell 2 (some .boolean) 1 11 := ⟨mt_X11_isCell, xw_t4 38 (by decide +kernel) rfl, xw_t4 40 (by decide +kernel) rfl, xw_p2 15 (by decide +kernel), rfl, by decide⟩
theorem mt_X11_isHouse : xMT yX11_isHouse cX11_isHouse 2 (some .boolean) 1 := ⟨xw_t4 50 (by decide +kernel) rfl, xw_t1 1 (by decide +kernel) rfl, by decide +kernel, by decide⟩
theorem lk_X11_139 : xLV RX11 139 yX11_isHouse cX11_isHouse 2 (some .boolean) 1 11 := ⟨mt_X11_isHouse, xw_t4 47 (by decide +kernel) rfl, xw_t4 49 (by decide +kernel) rfl, xw_p3 0 (by decide +kernel), rfl, by decide⟩
theorem mt_X8_tideAt : xMT yX8_tideAt cX8_tideAt 5 (some .int) 3 := ⟨xw_t4 62 (by decide +kernel) rfl, xw_t1 5 (by decide +kernel) rfl, by decide +kernel, by decide⟩
theorem lk_X11_166 : xLV RX11 166 yX8_tideAt cX8_tideAt 5 (some .int) 3 8 := ⟨mt_X8_tideAt, xw_t4 59 (by decide +kernel) rfl, xw_t4 60 (by decide +kernel) rfl, xw_t4 61 (by decide +kernel) rfl, rfl, by decide⟩
theorem mt_X11_isLevel : xMT yX11_isLevel cX11_isLevel 2 (some .boolean) 1 := ⟨xw_t4 89 (by decide +kernel) rfl, xw_t1 1 (by decide +kernel) rfl, by decide +kernel, by decide⟩
theorem lk_X11_170 : xLS RX11 170 yX11_isLevel cX11_isLevel 2 (some .boolean) 1 := ⟨mt_X11_isLevel, xw_t4 87 (by decide +kernel) rfl, xw_t4 88 (by decide +kernel) rfl⟩
theorem mt_X8_wetAt : xMT yX8_wetAt cX8_wetAt 8 (some .int) 3 := ⟨xw_t4 93 (by decide +kernel) rfl, xw_t1 5 (by decide +kernel) rfl, by decide +kernel, by decide⟩
theorem lk_X11_174 : xLS RX11 174 yX8_wetAt cX8_wetAt 8 (some .int) 3 := ⟨mt_X8_wetAt, xw_t4 91 (by decide +kernel) rfl, xw_t4 92 (by decide +kernel) rfl⟩
theorem mt_X5_keep : xMT yX5_keep cX5_keep 2 none 1 := ⟨xw_t4 105 (by decide +kernel) rfl, xw_t1 7 (by decide +kernel) rfl, by decide +kernel, by decide⟩
theorem lk_X11_178 : xLV RX11 178 yX5_keep cX5_keep 2 none 1 5 := ⟨mt_X5_keep, xw_t4 102 (by decide +kernel) rfl, xw_t4 103 (by decide +kernel) rfl, xw_t4 104 (by decide +kernel) rfl, rfl, by decide⟩
theorem mt_X8_tick : xMT yX8_tick cX8_tick 3 (some .int) 2 := ⟨xw_t4 110 (by decide +kernel) rfl, xw_t1 5 (by decide +kernel) rfl, by decide +kernel, by decide⟩
theorem lk_X11_181 : xLV RX11 181 yX8_tick cX8_tick 3 (some .int) 2 8 := ⟨mt_X8_tick, xw_t4 107 (by decide +kernel) rfl, xw_t4 108 (by decide +kernel) rfl, xw_t4 109 (by decide +kernel) rfl, rfl, by decide⟩
theorem mt_X5_confirm : xMT yX5_confirm cX5_confirm 1 none 0 := ⟨xw_t4 135 (by decide +kernel) rfl, xw_t1 7 (by decide +kernel) rfl, by decide +kernel, by decide⟩
theorem lk_X11_185 : xLV RX11 185 yX5_confirm cX5_confirm 1 none 0 5 := ⟨mt_X5_confirm, xw_t4 132 (by decide +kernel) rfl, xw_t4 133 (by decide +kernel) rfl, xw_t4 134 (by decide +kernel) rfl, rfl, by decide⟩
theorem mt_J6_bitCount_0f7a4 : xMT yJ6_bitCount_0f7a4 cJ6_bitCount_0f7a4 1 (some .int) 1 := ⟨xw_t4 127 (by decide +kernel) rfl, xw_t1 12 (by decide +kernel) rfl, by decide +kernel, by decide⟩
theorem lk_X11_188 : xLS RX11 188 yJ6_bitCount_0f7a4 cJ6_bitCount_0f7a4 1 (some .int) 1 := ⟨mt_J6_bitCount_0f7a4, xw_t4 137 (by decide +kernel) rfl, xw_t4 126 (by decide +kernel) rfl⟩
theorem mt_X3_cells : xMT yX3_cells cX3_cells 1 (some .int) 0 := ⟨xw_t3 126 (by decide +kernel) rfl, xw_t1 3 (by decide +kernel) rfl, by decide +kernel, by decide⟩
theorem lk_X11_194 : xLV RX11 194 yX3_cells cX3_cells 1 (some .int) 0 3 := ⟨mt_X3_cells, xw_t4 42 (by decide +kernel) rfl, xw_t3 124 (by decide +kernel) rfl, xw_t3 125 (by decide +kernel) rfl, rfl, by decide⟩
theorem mt_X0_heap : xMT yX0_heap cX0_heap 3 (some .int) 2 := ⟨xw_t4 145 (by decide +kernel) rfl, xw_t1 4 (by decide +kernel) rfl, by decide +kernel, by decide⟩
theorem lk_X11_198 : xLV RX11 198 yX0_heap cX0_heap 3 (some .int) 2 0 := ⟨mt_X0_heap, xw_t4 142 (by decide +kernel) rfl, xw_t4 143 (by decide +kernel) rfl, xw_t4 144 (by decide +kernel) rfl, rfl, by decide⟩
theorem mt_X11_confirmed : xMT yX11_confirmed cX11_confirmed 2 (some .int) 1 := ⟨xw_t4 149 (by decide +kernel) rfl, xw_t1 1 (by decide +kernel) rfl, by decide +kernel, by decide⟩
theorem lk_X11_202 : xLV RX11 202 yX11_confirmed cX11_confirmed 2 (some .int) 1 11 := ⟨mt_X11_confirmed, xw_t4 146 (by decide +kernel) rfl, xw_t4 148 (by decide +kernel) rfl, xw_p3 2 (by decide +kernel), rfl, by decide⟩
theorem mt_X0_scoop : xMT yX0_scoop cX0_scoop 3 (some .int) 2 := ⟨xw_t4 157 (by decide +kernel) rfl, xw_t1 4 (by decide +kernel) rfl, by decide +kernel, by decide⟩
theorem lk_X11_205 : xLV RX11 205 yX0_scoop cX0_scoop 3 (some .int) 2 0 := ⟨mt_X0_scoop, xw_t4 154 (by decide +kernel) rfl, xw_t4 155 (by decide +kernel) rfl, xw_t4 156 (by decide +kernel) rfl, rfl, by decide⟩
theorem mt_X0_settle : xMT yX0_settle cX0_settle 4 (some .int) 3 := ⟨xw_t3 157 (by decide +kernel) rfl, xw_t1 4 (by decide +kernel) rfl, by decide +kernel, by decide⟩
theorem lk_X11_208 : xLV RX11 208 yX0_settle cX0_settle 4 (some .int) 3 0 := ⟨mt_X0_settle, xw_t4 162 (by decide +kernel) rfl, xw_t3 155 (by decide +kernel) rfl, xw_t3 156 (by decide +kernel) rfl, rfl, by decide⟩
theorem mt_X0_changeMoon : xMT yX0_changeMoon cX0_changeMoon 2 (some .int) 1 := ⟨xw_t4 170 (by decide +kernel) rfl, xw_t1 4 (by decide +kernel) rfl, by decide +kernel, by decide⟩
theorem lk_X11_215 : xLV RX11 215 yX0_changeMoon cX0_changeMoon 2 (some .int) 1 0 := ⟨mt_X0_changeMoon, xw_t4 167 (by decide +kernel) rfl, xw_t4 168 (by decide +kernel) rfl, xw_t4 169 (by decide +kernel) rfl, rfl, by decide⟩
theorem mt_X5_bringBack : xMT yX5_bringBack cX5_bringBack 3 none 2 := ⟨xw_t4 178 (by decide +kernel) rfl, xw_t1 7 (by decide +kernel) rfl, by decide +kernel, by decide⟩
theorem lk_X11_221 : xLV RX11 221 yX5_bringBack cX5_bringBack 3 none 2 5 := ⟨mt_X5_bringBack, xw_t4 175 (by decide +kernel) rfl, xw_t4 176 (by decide +kernel) rfl, xw_t4 177 (by decide +kernel) rfl, rfl, by decide⟩
theorem mt_X11_refusedTray : xMT yX11_refusedTray cX11_refusedTray 2 (some .int) 1 := ⟨xw_t4 187 (by decide +kernel) rfl, xw_t1 1 (by decide +kernel) rfl, by decide +kernel, by decide⟩
theorem lk_X11_225 : xLV RX11 225 yX11_refusedTray cX11_refusedTray 2 (some .int) 1 11 := ⟨mt_X11_refusedTray, xw_t4 184 (by decide +kernel) rfl, xw_t4 186 (by decide +kernel) rfl, xw_p3 3 (by decide +kernel), rfl, by decide⟩
theorem mt_X11_doDeeds : xMT yX11_doDeeds cX11_doDeeds 4 (some .int) 2 := ⟨xw_t4 194 (by decide +kernel) rfl, xw_t1 1 (by decide +kernel) rfl, by decide +kernel, by decide⟩
theorem lk_X11_228 : xLV RX11 228 yX11_doDeeds cX11_doDeeds 4 (some .int) 2 11 := ⟨mt_X11_doDeeds, xw_t4 191 (by decide +kernel) rfl, xw_t4 193 (by decide +kernel) rfl, xw_p3 4 (by decide +kernel), rfl, by decide⟩
theorem mt_X8_attempt : xMT yX8_attempt cX8_attempt 6 (some .int) 3 := ⟨xw_t4 198 (by decide +kernel) rfl, xw_t1 5 (by decide +kernel) rfl, by decide +kernel, by decide⟩
theorem lk_X11_237 : xLV RX11 237 yX8_attempt cX8_attempt 6 (some .int) 3 8 := ⟨mt_X8_attempt, xw_t4 195 (by decide +kernel) rfl, xw_t4 196 (by decide +kernel) rfl, xw_t4 197 (by decide +kernel) rfl, rfl, by decide⟩
theorem mt_X0_sandInAll : xMT yX0_sandInAll cX0_sandInAll 4 (some .int) 1 := ⟨xw_t4 209 (by decide +kernel) rfl, xw_t1 4 (by decide +kernel) rfl, by decide +kernel, by decide⟩
theorem lk_X11_241 : xLV RX11 241 yX0_sandInAll cX0_sandInAll 4 (some .int) 1 0 := ⟨mt_X0_sandInAll, xw_t4 206 (by decide +kernel) rfl, xw_t4 207 (by decide +kernel) rfl, xw_t4 208 (by decide +kernel) rfl, rfl, by decide⟩
theorem mt_X11_confirmedIfAny : xMT yX11_confirmedIfAny cX11_confirmedIfAny 2 (some .int) 1 := ⟨xw_t4 217 (by decide +kernel) rfl, xw_t1 1 (by decide +kernel) rfl, by decide +kernel, by decide⟩
theorem lk_X11_244 : xLV RX11 244 yX11_confirmedIfAny cX11_confirmedIfAny 2 (some .int) 1 11 := ⟨mt_X11_confirmedIfAny, xw_t4 214 (by decide +kernel) rfl, xw_t4 216 (by decide +kernel) rfl, xw_p3 5 (by decide +kernel), rfl, by decide⟩
theorem mt_X11_drawDeed : xMT yX11_drawDeed cX11_drawDeed 2 (some .int) 0 := ⟨xw_t4 225 (by decide +kernel) rfl, xw_t1 1 (by decide +kernel) rfl, by decide +kernel, by decide⟩
theorem lk_X11_250 : xLV RX11 250 yX11_drawDeed cX11_drawDeed 2 (some .int) 0 11 := ⟨mt_X11_drawDeed, xw_t4 222 (by decide +kernel) rfl, xw_t4 224 (by decide +kernel) rfl, xw_p3 6 (by decide +kernel), rfl, by decide⟩
theorem mt_X11_isAhead : xMT yX11_isAhead cX11_isAhead 1 (some .boolean) 1 := ⟨xw_t5 1 (by decide +kernel) rfl, xw_t1 1 (by decide +kernel) rfl, by decide +kernel, by decide⟩
theorem lk_X11_253 : xLS RX11 253 yX11_isAhead cX11_isAhead 1 (some .boolean) 1 := ⟨mt_X11_isAhead, xw_t4 239 (by decide +kernel) rfl, xw_t5 0 (by decide +kernel) rfl⟩
theorem mt_X11_goOn : xMT yX11_goOn cX11_goOn 3 none 1 := ⟨xw_t5 5 (by decide +kernel) rfl, xw_t1 1 (by decide +kernel) rfl, by decide +kernel, by decide⟩
theorem lk_X11_256 : xLV RX11 256 yX11_goOn cX11_goOn 3 none 1 11 := ⟨mt_X11_goOn, xw_t5 2 (by decide +kernel) rfl, xw_t5 4 (by decide +kernel) rfl, xw_p3 8 (by decide +kernel), rfl, by decide⟩
theorem mt_J6_numberOfTrailingZeros_0f7a4 : xMT yJ6_numberOfTrailingZeros_0f7a4 cJ6_numberOfTrailingZeros_0f7a4 2 (some .int) 1 := ⟨xw_t2 107 (by decide +kernel) rfl, xw_t1 12 (by decide +kernel) rfl, by decide +kernel, by decide⟩
theorem lk_X11_259 : xLS RX11 259 yJ6_numberOfTrailingZeros_0f7a4 cJ6_numberOfTrailingZeros_0f7a4 2 (some .int) 1 := ⟨mt_J6_numberOfTrailingZeros_0f7a4, xw_t2 105 (by decide +kernel) rfl, xw_t2 106 (by decide +kernel) rfl⟩
theorem mt_X0_housesOf : xMT yX0_housesOf cX0_housesOf 4 (some .int) 1 := ⟨xw_t5 25 (by decide +kernel) rfl, xw_t1 4 (by decide +kernel) rfl, by decide +kernel, by decide⟩
theorem lk_X11_262 : xLV RX11 262 yX0_housesOf cX0_housesOf 4 (some .int) 1 0 := ⟨mt_X0_housesOf, xw_t5 22 (by decide +kernel) rfl, xw_t5 23 (by decide +kernel) rfl, xw_t5 24 (by decide +kernel) rfl, rfl, by decide⟩
theorem mt_X1_leastRaising : xMT yX1_leastRaising cX1_leastRaising 6 (some .int) 4 := ⟨xw_t5 33 (by decide +kernel) rfl, xw_t1 9 (by decide +kernel) rfl, by decide +kernel, by decide⟩
theorem lk_X11_265 : xLV RX11 265 yX1_leastRaising cX1_leastRaising 6 (some .int) 4 1 := ⟨mt_X1_leastRaising, xw_t5 30 (by decide +kernel) rfl, xw_t5 31 (by decide +kernel) rfl, xw_t5 32 (by decide +kernel) rfl, rfl, by decide⟩
theorem mt_X11_setDeadlines : xMT yX11_setDeadlines cX11_setDeadlines 5 none 0 := ⟨xw_t5 73 (by decide +kernel) rfl, xw_t1 1 (by decide +kernel) rfl, by decide +kernel, by decide⟩
theorem lk_X11_269 : xLV RX11 269 yX11_setDeadlines cX11_setDeadlines 5 none 0 11 := ⟨mt_X11_setDeadlines, xw_t5 70 (by decide +kernel) rfl, xw_t5 72 (by decide +kernel) rfl, xw_p3 14 (by decide +kernel), rfl, by decide⟩
theorem mt_X6_bestSet : xMT yX6_bestSet cX6_bestSet 6 (some .int) 1 := ⟨xw_t5 78 (by decide +kernel) rfl, xw_t1 10 (by decide +kernel) rfl, by decide +kernel, by decide⟩
theorem lk_X11_272 : xLV RX11 272 yX6_bestSet cX6_bestSet 6 (some .int) 1 6 := ⟨mt_X6_bestSet, xw_t5 75 (by decide +kernel) rfl, xw_t5 76 (by decide +kernel) rfl, xw_t5 77 (by decide +kernel) rfl, rfl, by decide⟩
theorem mt_X6_worthOf : xMT yX6_worthOf cX6_worthOf 4 (some .int) 2 := ⟨xw_t5 81 (by decide +kernel) rfl, xw_t1 10 (by decide +kernel) rfl, by decide +kernel, by decide⟩
theorem lk_X11_276 : xLS RX11 276 yX6_worthOf cX6_worthOf 4 (some .int) 2 := ⟨mt_X6_worthOf, xw_t5 90 (by decide +kernel) rfl, xw_t5 80 (by decide +kernel) rfl⟩
theorem mt_X6_inOrder : xMT yX6_inOrder cX6_inOrder 8 (some .int) 3 := ⟨xw_t5 98 (by decide +kernel) rfl, xw_t1 10 (by decide +kernel) rfl, by decide +kernel, by decide⟩
theorem lk_X11_280 : xLV RX11 280 yX6_inOrder cX6_inOrder 8 (some .int) 3 6 := ⟨mt_X6_inOrder, xw_t5 95 (by decide +kernel) rfl, xw_t5 96 (by decide +kernel) rfl, xw_t5 97 (by decide +kernel) rfl, rfl, by decide⟩
theorem mt_X9_paint : xMT yX9_paint cX9_paint 3 (some .int) 1 := ⟨xw_t5 110 (by decide +kernel) rfl, xw_t1 11 (by decide +kernel) rfl, by decide +kernel, by decide⟩
theorem lk_X11_286 : xLV RX11 286 yX9_paint cX9_paint 3 (some .int) 1 9 := ⟨mt_X9_paint, xw_t5 107 (by decide +kernel) rfl, xw_t5 108 (by decide +kernel) rfl, xw_t5 109 (by decide +kernel) rfl, rfl, by decide⟩
theorem mt_X9_greatestClique : xMT yX9_greatestClique cX9_greatestClique 3 (some .int) 1 := ⟨xw_t5 125 (by decide +kernel) rfl, xw_t1 11 (by decide +kernel) rfl, by decide +kernel, by decide⟩
theorem lk_X11_292 : xLS RX11 292 yX9_greatestClique cX9_greatestClique 3 (some .int) 1 := ⟨mt_X9_greatestClique, xw_t5 123 (by decide +kernel) rfl, xw_t5 124 (by decide +kernel) rfl⟩
theorem mt_X3_fewestPayments : xMT yX3_fewestPayments cX3_fewestPayments 1 (some .int) 0 := ⟨xw_t5 146 (by decide +kernel) rfl, xw_t1 3 (by decide +kernel) rfl, by decide +kernel, by decide⟩
theorem lk_X11_302 : xLV RX11 302 yX3_fewestPayments cX3_fewestPayments 1 (some .int) 0 3 := ⟨mt_X3_fewestPayments, xw_t5 143 (by decide +kernel) rfl, xw_t5 144 (by decide +kernel) rfl, xw_t5 145 (by decide +kernel) rfl, rfl, by decide⟩
theorem mt_X11_refusedLooks : xMT yX11_refusedLooks cX11_refusedLooks 5 (some .int) 1 := ⟨xw_t5 162 (by decide +kernel) rfl, xw_t1 1 (by decide +kernel) rfl, by decide +kernel, by decide⟩
theorem lk_X11_305 : xLV RX11 305 yX11_refusedLooks cX11_refusedLooks 5 (some .int) 1 11 := ⟨mt_X11_refusedLooks, xw_t5 159 (by decide +kernel) rfl, xw_t5 161 (by decide +kernel) rfl, xw_p4 6 (by decide +kernel), rfl, by decide⟩
theorem mt_X11_moonsSeen : xMT yX11_moonsSeen cX11_moonsSeen 7 (some .int) 1 := ⟨xw_t5 167 (by decide +kernel) rfl, xw_t1 1 (by decide +kernel) rfl, by decide +kernel, by decide⟩
theorem lk_X11_308 : xLV RX11 308 yX11_moonsSeen cX11_moonsSeen 7 (some .int) 1 11 := ⟨mt_X11_moonsSeen, xw_t5 164 (by decide +kernel) rfl, xw_t5 166 (by decide +kernel) rfl, xw_p4 7 (by decide +kernel), rfl, by decide⟩
theorem mt_X8_mostAlike : xMT yX8_mostAlike cX8_mostAlike 7 (some .int) 3 := ⟨xw_t5 175 (by decide +kernel) rfl, xw_t1 5 (by decide +kernel) rfl, by decide +kernel, by decide⟩
theorem lk_X11_315 : xLV RX11 315 yX8_mostAlike cX8_mostAlike 7 (some .int) 3 8 := ⟨mt_X8_mostAlike, xw_t5 172 (by decide +kernel) rfl, xw_t5 173 (by decide +kernel) rfl, xw_t5 174 (by decide +kernel) rfl, rfl, by decide⟩
theorem mt_X11_freeIn : xMT yX11_freeIn cX11_freeIn 4 (some .int) 1 := ⟨xw_t5 184 (by decide +kernel) rfl, xw_t1 1 (by decide +kernel) rfl, by decide +kernel, by decide⟩
theorem lk_X11_321 : xLV RX11 321 yX11_freeIn cX11_freeIn 4 (some .int) 1 11 := ⟨mt_X11_freeIn, xw_t5 181 (by decide +kernel) rfl, xw_t5 183 (by decide +kernel) rfl, xw_p4 8 (by decide +kernel), rfl, by decide⟩
theorem mt_X11_afterPut : xMT yX11_afterPut cX11_afterPut 2 (some .int) 2 := ⟨xw_t2 104 (by decide +kernel) rfl, xw_t1 1 (by decide +kernel) rfl, by decide +kernel, by decide⟩
theorem lk_X11_327 : xLS RX11 327 yX11_afterPut cX11_afterPut 2 (some .int) 2 := ⟨mt_X11_afterPut, xw_t2 102 (by decide +kernel) rfl, xw_t2 103 (by decide +kernel) rfl⟩
theorem mt_X2_weigh : xMT yX2_weigh cX2_weigh 5 none 4 := ⟨xw_t5 197 (by decide +kernel) rfl, xw_t1 13 (by decide +kernel) rfl, by decide +kernel, by decide⟩
theorem lk_X11_330 : xLV RX11 330 yX2_weigh cX2_weigh 5 none 4 2 := ⟨mt_X2_weigh, xw_t5 194 (by decide +kernel) rfl, xw_t5 195 (by decide +kernel) rfl, xw_t5 196 (by decide +kernel) rfl, rfl, by decide⟩
theorem mt_X2_lowest : xMT yX2_lowest cX2_lowest 13 (some .int) 3 := ⟨xw_t5 215 (by decide +kernel) rfl, xw_t1 13 (by decide +kernel) rfl, by decide +kernel, by decide⟩
theorem lk_X11_337 : xLS RX11 337 yX2_lowest cX2_lowest 13 (some .int) 3 := ⟨mt_X2_lowest, xw_t5 213 (by decide +kernel) rfl, xw_t5 214 (by decide +kernel) rfl⟩
theorem mt_X11_isTray : xMT yX11_isTray cX11_isTray 1 (some .boolean) 1 := ⟨xw_t4 190 (by decide +kernel) rfl, xw_t1 1 (by decide +kernel) rfl, by decide +kernel, by decide⟩
theorem lk_X11_341 : xLS RX11 341 yX11_isTray cX11_isTray 1 (some .boolean) 1 := ⟨mt_X11_isTray, xw_t4 188 (by decide +kernel) rfl, xw_t4 189 (by decide +kernel) rfl⟩
theorem mt_X10_lay : xMT yX10_lay cX10_lay 3 none 2 := ⟨xw_t5 228 (by decide +kernel) rfl, xw_t1 8 (by decide +kernel) rfl, by decide +kernel, by decide⟩
theorem lk_X11_344 : xLV RX11 344 yX10_lay cX10_lay 3 none 2 10 := ⟨mt_X10_lay, xw_t5 225 (by decide +kernel) rfl, xw_t5 226 (by decide +kernel) rfl, xw_t5 227 (by decide +kernel) rfl, rfl, by decide⟩
theorem mt_X10_put : xMT yX10_put cX10_put 4 (some .long) 2 := ⟨xw_t5 238 (by decide +kernel) rfl, xw_t1 8 (by decide +kernel) rfl, by decide +kernel, by decide⟩
theorem lk_X11_350 : xLV RX11 350 yX10_put cX10_put 4 (some .long) 2 10 := ⟨mt_X10_put, xw_t5 235 (by decide +kernel) rfl, xw_t5 236 (by decide +kernel) rfl, xw_t5 237 (by decide +kernel) rfl, rfl, by decide⟩
theorem mt_J9_min_7cf53 : xMT yJ9_min_7cf53 cJ9_min_7cf53 2 (some .int) 2 := ⟨xw_t2 195 (by decide +kernel) rfl, xw_t1 15 (by decide +kernel) rfl, by decide +kernel, by decide⟩
theorem lk_X11_354 : xLS RX11 354 yJ9_min_7cf53 cJ9_min_7cf53 2 (some .int) 2 := ⟨mt_J9_min_7cf53, xw_t6 4 (by decide +kernel) rfl, xw_t2 194 (by decide +kernel) rfl⟩
theorem mt_X11_isImage : xMT yX11_isImage cX11_isImage 1 (some .boolean) 1 := ⟨xw_t6 11 (by decide +kernel) rfl, xw_t1 1 (by decide +kernel) rfl, by decide +kernel, by decide⟩
theorem lk_X11_359 : xLS RX11 359 yX11_isImage cX11_isImage 1 (some .boolean) 1 := ⟨mt_X11_isImage, xw_t6 9 (by decide +kernel) rfl, xw_t6 10 (by decide +kernel) rfl⟩
theorem mt_J7_fill_53178 : xMT yJ7_fill_53178 cJ7_fill_53178 4 none 2 := ⟨xw_t2 209 (by decide +kernel) rfl, xw_t1 16 (by decide +kernel) rfl, by decide +kernel, by decide⟩
theorem lk_X11_376 : xLS RX11 376 yJ7_fill_53178 cJ7_fill_53178 4 none 2 := ⟨mt_J7_fill_53178, xw_t5 74 (by decide +kernel) rfl, xw_t2 208 (by decide +kernel) rfl⟩
theorem mt_X11_draw : xMT yX11_draw cX11_draw 2 (some .int) 1 := ⟨xw_t4 229 (by decide +kernel) rfl, xw_t1 1 (by decide +kernel) rfl, by decide +kernel, by decide⟩
theorem lk_X11_383 : xLV RX11 383 yX11_draw cX11_draw 2 (some .int) 1 11 := ⟨mt_X11_draw, xw_t4 226 (by decide +kernel) rfl, xw_t4 228 (by decide +kernel) rfl, xw_p3 7 (by decide +kernel), rfl, by decide⟩
theorem mt_X0_builtCells : xMT yX0_builtCells cX0_builtCells 3 (some .int) 0 := ⟨xw_t3 148 (by decide +kernel) rfl, xw_t1 4 (by decide +kernel) rfl, by decide +kernel, by decide⟩
theorem lk_X11_386 : xLV RX11 386 yX0_builtCells cX0_builtCells 3 (some .int) 0 0 := ⟨mt_X0_builtCells, xw_t5 185 (by decide +kernel) rfl, xw_t3 146 (by decide +kernel) rfl, xw_t3 147 (by decide +kernel) rfl, rfl, by decide⟩
theorem lo_X0_3 : Cond.methodLink RX0 3 objectInit ∈ xw ∧ Cond.instanceMethod objectInit ∈ xw ∧ Cond.code objectInit ⟨#[0xb1]⟩ 1 none ∈ xw := ⟨xw_t1 139 (by decide +kernel) rfl, xw_t1 29 (by decide +kernel) rfl, xw_t1 30 (by decide +kernel) rfl⟩
theorem la_X0_21 : xLA RX0 21 := ⟨xw_t4 25 (by decide +kernel) rfl, xw_t4 20 (by decide +kernel) rfl, xw_t4 19 (by decide +kernel) rfl, xw_t1 22 (by decide +kernel) rfl⟩
theorem lk_X0_40 : xLS RX0 40 yJ7_fill_53178 cJ7_fill_53178 4 none 2 := ⟨mt_J7_fill_53178, xw_t2 214 (by decide +kernel) rfl, xw_t2 208 (by decide +kernel) rfl⟩
theorem lk_X0_46 : xLV RX0 46 yX0_builtCells cX0_builtCells 3 (some .int) 0 0 := ⟨mt_X0_builtCells, xw_t3 158 (by decide +kernel) rfl, xw_t3 146 (by decide +kernel) rfl, xw_t3 147 (by decide +kernel) rfl, rfl, by decide⟩
theorem lo_X1_3 : Cond.methodLink RX1 3 objectInit ∈ xw ∧ Cond.instanceMethod objectInit ∈ xw ∧ Cond.code objectInit ⟨#[0xb1]⟩ 1 none ∈ xw := ⟨xw_t2 57 (by decide +kernel) rfl, xw_t1 29 (by decide +kernel) rfl, xw_t1 30 (by decide +kernel) rfl⟩
theorem mt_J9_max_7cf53 : xMT yJ9_max_7cf53 cJ9_max_7cf53 2 (some .int) 2 := ⟨xw_t2 198 (by decide +kernel) rfl, xw_t1 15 (by decide +kernel) rfl, by decide +kernel, by decide⟩
theorem lk_X1_27 : xLS RX1 27 yJ9_max_7cf53 cJ9_max_7cf53 2 (some .int) 2 := ⟨mt_J9_max_7cf53, xw_t5 34 (by decide +kernel) rfl, xw_t2 197 (by decide +kernel) rfl⟩
theorem lk_X1_33 : xLS RX1 33 yJ7_fill_53178 cJ7_fill_53178 4 none 2 := ⟨mt_J7_fill_53178, xw_t5 35 (by decide +kernel) rfl, xw_t2 208 (by decide +kernel) rfl⟩
theorem mt_X1_reaches : xMT yX1_reaches cX1_reaches 4 (some .boolean) 2 := ⟨xw_t5 39 (by decide +kernel) rfl, xw_t1 9 (by decide +kernel) rfl, by decide +kernel, by decide⟩
theorem lk_X1_39 : xLV RX1 39 yX1_reaches cX1_reaches 4 (some .boolean) 2 1 := ⟨mt_X1_reaches, xw_t5 36 (by decide +kernel) rfl, xw_t5 38 (by decide +kernel) rfl, xw_p3 9 (by decide +kernel), rfl, by decide⟩
theorem mt_X1_widen : xMT yX1_widen cX1_widen 7 none 1 := ⟨xw_t5 57 (by decide +kernel) rfl, xw_t1 9 (by decide +kernel) rfl, by decide +kernel, by decide⟩
theorem lk_X1_43 : xLV RX1 43 yX1_widen cX1_widen 7 none 1 1 := ⟨mt_X1_widen, xw_t5 54 (by decide +kernel) rfl, xw_t5 56 (by decide +kernel) rfl, xw_p3 13 (by decide +kernel), rfl, by decide⟩
theorem mt_X1_enqueue : xMT yX1_enqueue cX1_enqueue 3 none 2 := ⟨xw_t5 43 (by decide +kernel) rfl, xw_t1 9 (by decide +kernel) rfl, by decide +kernel, by decide⟩
theorem lk_X1_56 : xLV RX1 56 yX1_enqueue cX1_enqueue 3 none 2 1 := ⟨mt_X1_enqueue, xw_t5 40 (by decide +kernel) rfl, xw_t5 42 (by decide +kernel) rfl, xw_p3 10 (by decide +kernel), rfl, by decide⟩
theorem mt_X1_spreadIn : xMT yX1_spreadIn cX1_spreadIn 5 none 2 := ⟨xw_t5 47 (by decide +kernel) rfl, xw_t1 9 (by decide +kernel) rfl, by decide +kernel, by decide⟩
theorem lk_X1_60 : xLV RX1 60 yX1_spreadIn cX1_spreadIn 5 none 2 1 := ⟨mt_X1_spreadIn, xw_t5 44 (by decide +kernel) rfl, xw_t5 46 (by decide +kernel) rfl, xw_p3 11 (by decide +kernel), rfl, by decide⟩
theorem mt_X1_spreadOut : xMT yX1_spreadOut cX1_spreadOut 5 none 2 := ⟨xw_t5 53 (by decide +kernel) rfl, xw_t1 9 (by decide +kernel) rfl, by decide +kernel, by decide⟩
theorem lk_X1_64 : xLV RX1 64 yX1_spreadOut cX1_spreadOut 5 none 2 1 := ⟨mt_X1_spreadOut, xw_t5 50 (by decide +kernel) rfl, xw_t5 52 (by decide +kernel) rfl, xw_p3 12 (by decide +kernel), rfl, by decide⟩
theorem mt_X8_besides : xMT yX8_besides cX8_besides 3 (some .int) 2 := ⟨xw_t4 97 (by decide +kernel) rfl, xw_t1 5 (by decide +kernel) rfl, by decide +kernel, by decide⟩
theorem lk_X1_67 : xLS RX1 67 yX8_besides cX8_besides 3 (some .int) 2 := ⟨mt_X8_besides, xw_t5 48 (by decide +kernel) rfl, xw_t4 96 (by decide +kernel) rfl⟩
theorem lk_X1_73 : xLV RX1 73 yX3_cells cX3_cells 1 (some .int) 0 3 := ⟨mt_X3_cells, xw_t5 49 (by decide +kernel) rfl, xw_t3 124 (by decide +kernel) rfl, xw_t3 125 (by decide +kernel) rfl, rfl, by decide⟩
theorem lo_X2_3 : Cond.methodLink RX2 3 objectInit ∈ xw ∧ Cond.instanceMethod objectInit ∈ xw ∧ Cond.code objectInit ⟨#[0xb1]⟩ 1 none ∈ xw := ⟨xw_t2 114 (by decide +kernel) rfl, xw_t1 29 (by decide +kernel) rfl, xw_t1 30 (by decide +kernel) rfl⟩
theorem lk_X2_21 : xLI RX2 21 yX0_init cX0_init 1 0 := ⟨mt_X0_init, xw_t2 116 (by decide +kernel) rfl, xw_t1 137 (by decide +kernel) rfl, rfl⟩
theorem mt_J7_fill_d0a16 : xMT yJ7_fill_d0a16 cJ7_fill_d0a16 5 none 2 := ⟨xw_t5 200 (by decide +kernel) rfl, xw_t1 16 (by decide +kernel) rfl, by decide +kernel, by decide⟩
theorem lk_X2_22 : xLS RX2 22 yJ7_fill_d0a16 cJ7_fill_d0a16 5 none 2 := ⟨mt_J7_fill_d0a16, xw_t5 198 (by decide +kernel) rfl, xw_t5 199 (by decide +kernel) rfl⟩
theorem lk_X2_28 : xLV RX2 28 yX0_take cX0_take 2 none 1 0 := ⟨mt_X0_take, xw_t5 201 (by decide +kernel) rfl, xw_t4 22 (by decide +kernel) rfl, xw_t4 23 (by decide +kernel) rfl, rfl, by decide⟩
theorem lk_X2_32 : xLS RX2 32 yJ9_min_7cf53 cJ9_min_7cf53 2 (some .int) 2 := ⟨mt_J9_min_7cf53, xw_t5 202 (by decide +kernel) rfl, xw_t2 194 (by decide +kernel) rfl⟩
theorem mt_X2_blow : xMT yX2_blow cX2_blow 10 none 5 := ⟨xw_t5 206 (by decide +kernel) rfl, xw_t1 13 (by decide +kernel) rfl, by decide +kernel, by decide⟩
theorem lk_X2_38 : xLV RX2 38 yX2_blow cX2_blow 10 none 5 2 := ⟨mt_X2_blow, xw_t5 203 (by decide +kernel) rfl, xw_t5 205 (by decide +kernel) rfl, xw_p4 9 (by decide +kernel), rfl, by decide⟩
theorem mt_X2_tally : xMT yX2_tally cX2_tally 5 none 2 := ⟨xw_t5 210 (by decide +kernel) rfl, xw_t1 13 (by decide +kernel) rfl, by decide +kernel, by decide⟩
theorem lk_X2_46 : xLV RX2 46 yX2_tally cX2_tally 5 none 2 2 := ⟨mt_X2_tally, xw_t5 207 (by decide +kernel) rfl, xw_t5 209 (by decide +kernel) rfl, xw_p4 10 (by decide +kernel), rfl, by decide⟩
theorem lk_X2_56 : xLV RX2 56 yX8_tideAt cX8_tideAt 5 (some .int) 3 8 := ⟨mt_X8_tideAt, xw_t5 211 (by decide +kernel) rfl, xw_t4 60 (by decide +kernel) rfl, xw_t4 61 (by decide +kernel) rfl, rfl, by decide⟩
theorem mt_X8_tickAt : xMT yX8_tickAt cX8_tickAt 5 (some .int) 3 := ⟨xw_t4 115 (by decide +kernel) rfl, xw_t1 5 (by decide +kernel) rfl, by decide +kernel, by decide⟩
theorem lk_X2_67 : xLV RX2 67 yX8_tickAt cX8_tickAt 5 (some .int) 3 8 := ⟨mt_X8_tickAt, xw_t5 212 (by decide +kernel) rfl, xw_t4 113 (by decide +kernel) rfl, xw_t4 114 (by decide +kernel) rfl, rfl, by decide⟩
theorem lo_X3_3 : Cond.methodLink RX3 3 objectInit ∈ xw ∧ Cond.instanceMethod objectInit ∈ xw ∧ Cond.code objectInit ⟨#[0xb1]⟩ 1 none ∈ xw := ⟨xw_t1 42 (by decide +kernel) rfl, xw_t1 29 (by decide +kernel) rfl, xw_t1 30 (by decide +kernel) rfl⟩
theorem mt_X3_setSize : xMT yX3_setSize cX3_setSize 4 none 2 := ⟨xw_t2 206 (by decide +kernel) rfl, xw_t1 3 (by decide +kernel) rfl, by decide +kernel, by decide⟩
theorem lk_X3_40 : xLV RX3 40 yX3_setSize cX3_setSize 4 none 2 3 := ⟨mt_X3_setSize, xw_t2 203 (by decide +kernel) rfl, xw_t2 204 (by decide +kernel) rfl, xw_t2 205 (by decide +kernel) rfl, rfl, by decide⟩
theorem lk_X3_71 : xLS RX3 71 yJ7_fill_53178 cJ7_fill_53178 4 none 2 := ⟨mt_J7_fill_53178, xw_t2 207 (by decide +kernel) rfl, xw_t2 208 (by decide +kernel) rfl⟩
theorem la_X3_77 : xLA RX3 77 := ⟨xw_t4 18 (by decide +kernel) rfl, xw_t4 20 (by decide +kernel) rfl, xw_t4 19 (by decide +kernel) rfl, xw_t1 22 (by decide +kernel) rfl⟩
theorem mt_X3_cellsBetween : xMT yX3_cellsBetween cX3_cellsBetween 10 (some .int) 2 := ⟨xw_t3 182 (by decide +kernel) rfl, xw_t1 3 (by decide +kernel) rfl, by decide +kernel, by decide⟩
theorem lk_X3_83 : xLV RX3 83 yX3_cellsBetween cX3_cellsBetween 10 (some .int) 2 3 := ⟨mt_X3_cellsBetween, xw_t3 179 (by decide +kernel) rfl, xw_t3 181 (by decide +kernel) rfl, xw_p2 2 (by decide +kernel), rfl, by decide⟩
theorem lk_X3_87 : xLS RX3 87 yJ9_min_7cf53 cJ9_min_7cf53 2 (some .int) 2 := ⟨mt_J9_min_7cf53, xw_t3 183 (by decide +kernel) rfl, xw_t2 194 (by decide +kernel) rfl⟩
theorem lk_X3_92 : xLS RX3 92 yJ9_max_7cf53 cJ9_max_7cf53 2 (some .int) 2 := ⟨mt_J9_max_7cf53, xw_t3 184 (by decide +kernel) rfl, xw_t2 197 (by decide +kernel) rfl⟩
theorem mt_X3_mostGroups : xMT yX3_mostGroups cX3_mostGroups 5 (some .int) 1 := ⟨xw_t5 150 (by decide +kernel) rfl, xw_t1 3 (by decide +kernel) rfl, by decide +kernel, by decide⟩
theorem lk_X3_95 : xLV RX3 95 yX3_mostGroups cX3_mostGroups 5 (some .int) 1 3 := ⟨mt_X3_mostGroups, xw_t5 147 (by decide +kernel) rfl, xw_t5 149 (by decide +kernel) rfl, xw_p4 4 (by decide +kernel), rfl, by decide⟩
theorem mt_X3_balanceOf : xMT yX3_balanceOf cX3_balanceOf 4 (some .int) 1 := ⟨xw_t5 154 (by decide +kernel) rfl, xw_t1 3 (by decide +kernel) rfl, by decide +kernel, by decide⟩
theorem lk_X3_99 : xLV RX3 99 yX3_balanceOf cX3_balanceOf 4 (some .int) 1 3 := ⟨mt_X3_balanceOf, xw_t5 151 (by decide +kernel) rfl, xw_t5 153 (by decide +kernel) rfl, xw_p4 5 (by decide +kernel), rfl, by decide⟩
theorem lo_X4_1 : Cond.methodLink RX4 1 objectInit ∈ xw ∧ Cond.instanceMethod objectInit ∈ xw ∧ Cond.code objectInit ⟨#[0xb1]⟩ 1 none ∈ xw := ⟨xw_t1 232 (by decide +kernel) rfl, xw_t1 29 (by decide +kernel) rfl, xw_t1 30 (by decide +kernel) rfl⟩
theorem mt_X4_joined : xMT yX4_joined cX4_joined 5 (some .long) 3 := ⟨xw_t4 74 (by decide +kernel) rfl, xw_t1 6 (by decide +kernel) rfl, by decide +kernel, by decide⟩
theorem lk_X4_20 : xLS RX4 20 yX4_joined cX4_joined 5 (some .long) 3 := ⟨mt_X4_joined, xw_t4 72 (by decide +kernel) rfl, xw_t4 73 (by decide +kernel) rfl⟩
theorem mt_J9_min_f86c9 : xMT yJ9_min_f86c9 cJ9_min_f86c9 4 (some .long) 2 := ⟨xw_t4 77 (by decide +kernel) rfl, xw_t1 15 (by decide +kernel) rfl, by decide +kernel, by decide⟩
theorem lk_X4_24 : xLS RX4 24 yJ9_min_f86c9 cJ9_min_f86c9 4 (some .long) 2 := ⟨mt_J9_min_f86c9, xw_t4 75 (by decide +kernel) rfl, xw_t4 76 (by decide +kernel) rfl⟩
theorem mt_J9_max_f86c9 : xMT yJ9_max_f86c9 cJ9_max_f86c9 4 (some .long) 2 := ⟨xw_t4 80 (by decide +kernel) rfl, xw_t1 15 (by decide +kernel) rfl, by decide +kernel, by decide⟩
theorem lk_X4_30 : xLS RX4 30 yJ9_max_f86c9 cJ9_max_f86c9 4 (some .long) 2 := ⟨mt_J9_max_f86c9, xw_t4 78 (by decide +kernel) rfl, xw_t4 79 (by decide +kernel) rfl⟩
theorem lo_X5_3 : Cond.methodLink RX5 3 objectInit ∈ xw ∧ Cond.instanceMethod objectInit ∈ xw ∧ Cond.code objectInit ⟨#[0xb1]⟩ 1 none ∈ xw := ⟨xw_t2 16 (by decide +kernel) rfl, xw_t1 29 (by decide +kernel) rfl, xw_t1 30 (by decide +kernel) rfl⟩
theorem lk_X5_17 : xLI RX5 17 yX0_init cX0_init 1 0 := ⟨mt_X0_init, xw_t2 19 (by decide +kernel) rfl, xw_t1 137 (by decide +kernel) rfl, rfl⟩
theorem lk_X5_22 : xLV RX5 22 yX0_take cX0_take 2 none 1 0 := ⟨mt_X0_take, xw_t4 106 (by decide +kernel) rfl, xw_t4 22 (by decide +kernel) rfl, xw_t4 23 (by decide +kernel) rfl, rfl, by decide⟩
theorem lk_X5_29 : xLS RX5 29 yJ9_min_7cf53 cJ9_min_7cf53 2 (some .int) 2 := ⟨mt_J9_min_7cf53, xw_t4 136 (by decide +kernel) rfl, xw_t2 194 (by decide +kernel) rfl⟩
theorem mt_J9_floorMod_7cf53 : xMT yJ9_floorMod_7cf53 cJ9_floorMod_7cf53 3 (some .int) 2 := ⟨xw_t4 65 (by decide +kernel) rfl, xw_t1 15 (by decide +kernel) rfl, by decide +kernel, by decide⟩
theorem lk_X5_35 : xLS RX5 35 yJ9_floorMod_7cf53 cJ9_floorMod_7cf53 3 (some .int) 2 := ⟨mt_J9_floorMod_7cf53, xw_t4 179 (by decide +kernel) rfl, xw_t4 64 (by decide +kernel) rfl⟩
theorem lo_X6_3 : Cond.methodLink RX6 3 objectInit ∈ xw ∧ Cond.instanceMethod objectInit ∈ xw ∧ Cond.code objectInit ⟨#[0xb1]⟩ 1 none ∈ xw := ⟨xw_t2 82 (by decide +kernel) rfl, xw_t1 29 (by decide +kernel) rfl, xw_t1 30 (by decide +kernel) rfl⟩
theorem lk_X6_21 : xLS RX6 21 yX6_worthOf cX6_worthOf 4 (some .int) 2 := ⟨mt_X6_worthOf, xw_t5 79 (by decide +kernel) rfl, xw_t5 80 (by decide +kernel) rfl⟩
theorem mt_X6_canBeBuilt : xMT yX6_canBeBuilt cX6_canBeBuilt 5 (some .boolean) 3 := ⟨xw_t5 85 (by decide +kernel) rfl, xw_t1 10 (by decide +kernel) rfl, by decide +kernel, by decide⟩
theorem lk_X6_25 : xLV RX6 25 yX6_canBeBuilt cX6_canBeBuilt 5 (some .boolean) 3 6 := ⟨mt_X6_canBeBuilt, xw_t5 82 (by decide +kernel) rfl, xw_t5 84 (by decide +kernel) rfl, xw_p3 15 (by decide +kernel), rfl, by decide⟩
theorem mt_X6_dueBy : xMT yX6_dueBy cX6_dueBy 6 (some .int) 3 := ⟨xw_t5 89 (by decide +kernel) rfl, xw_t1 10 (by decide +kernel) rfl, by decide +kernel, by decide⟩
theorem lk_X6_32 : xLV RX6 32 yX6_dueBy cX6_dueBy 6 (some .int) 3 6 := ⟨mt_X6_dueBy, xw_t5 86 (by decide +kernel) rfl, xw_t5 88 (by decide +kernel) rfl, xw_p4 0 (by decide +kernel), rfl, by decide⟩
theorem mt_X6_nextOf : xMT yX6_nextOf cX6_nextOf 6 (some .int) 3 := ⟨xw_t5 102 (by decide +kernel) rfl, xw_t1 10 (by decide +kernel) rfl, by decide +kernel, by decide⟩
theorem lk_X6_39 : xLV RX6 39 yX6_nextOf cX6_nextOf 6 (some .int) 3 6 := ⟨mt_X6_nextOf, xw_t5 99 (by decide +kernel) rfl, xw_t5 101 (by decide +kernel) rfl, xw_p4 1 (by decide +kernel), rfl, by decide⟩
theorem lo_X7_3 : Cond.methodLink RX7 3 objectInit ∈ xw ∧ Cond.instanceMethod objectInit ∈ xw ∧ Cond.code objectInit ⟨#[0xb1]⟩ 1 none ∈ xw := ⟨xw_t1 36 (by decide +kernel) rfl, xw_t1 29 (by decide +kernel) rfl, xw_t1 30 (by decide +kernel) rfl⟩
theorem lk_X7_21 : xLI RX7 21 yX3_init cX3_init 1 0 := ⟨mt_X3_init, xw_t1 39 (by decide +kernel) rfl, xw_t1 40 (by decide +kernel) rfl, rfl⟩
theorem lk_X7_28 : xLI RX7 28 yX0_init cX0_init 1 0 := ⟨mt_X0_init, xw_t1 136 (by decide +kernel) rfl, xw_t1 137 (by decide +kernel) rfl, rfl⟩
theorem lk_X7_33 : xLS RX7 33 yJ9_min_7cf53 cJ9_min_7cf53 2 (some .int) 2 := ⟨mt_J9_min_7cf53, xw_t2 193 (by decide +kernel) rfl, xw_t2 194 (by decide +kernel) rfl⟩
theorem lk_X7_39 : xLS RX7 39 yJ9_max_7cf53 cJ9_max_7cf53 2 (some .int) 2 := ⟨mt_J9_max_7cf53, xw_t2 196 (by decide +kernel) rfl, xw_t2 197 (by decide +kernel) rfl⟩
theorem mt_X3_clear : xMT yX3_clear cX3_clear 1 none 0 := ⟨xw_t2 202 (by decide +kernel) rfl, xw_t1 3 (by decide +kernel) rfl, by decide +kernel, by decide⟩
theorem lk_X7_54 : xLV RX7 54 yX3_clear cX3_clear 1 none 0 3 := ⟨mt_X3_clear, xw_t2 199 (by decide +kernel) rfl, xw_t2 200 (by decide +kernel) rfl, xw_t2 201 (by decide +kernel) rfl, rfl, by decide⟩
theorem mt_X0_clear : xMT yX0_clear cX0_clear 1 none 0 := ⟨xw_t2 213 (by decide +kernel) rfl, xw_t1 4 (by decide +kernel) rfl, by decide +kernel, by decide⟩
theorem lk_X7_57 : xLV RX7 57 yX0_clear cX0_clear 1 none 0 0 := ⟨mt_X0_clear, xw_t2 210 (by decide +kernel) rfl, xw_t2 211 (by decide +kernel) rfl, xw_t2 212 (by decide +kernel) rfl, rfl, by decide⟩
theorem mt_X7_step : xMT yX7_step cX7_step 1 none 0 := ⟨xw_t2 218 (by decide +kernel) rfl, xw_t1 2 (by decide +kernel) rfl, by decide +kernel, by decide⟩
theorem lk_X7_58 : xLV RX7 58 yX7_step cX7_step 1 none 0 7 := ⟨mt_X7_step, xw_t2 215 (by decide +kernel) rfl, xw_t2 217 (by decide +kernel) rfl, xw_p1 1 (by decide +kernel), rfl, by decide⟩
theorem mt_X7_readHead : xMT yX7_readHead cX7_readHead 4 none 0 := ⟨xw_t3 69 (by decide +kernel) rfl, xw_t1 2 (by decide +kernel) rfl, by decide +kernel, by decide⟩
theorem lk_X7_61 : xLV RX7 61 yX7_readHead cX7_readHead 4 none 0 7 := ⟨mt_X7_readHead, xw_t3 66 (by decide +kernel) rfl, xw_t3 68 (by decide +kernel) rfl, xw_p1 3 (by decide +kernel), rfl, by decide⟩
theorem mt_X7_readLine : xMT yX7_readLine cX7_readLine 1 none 0 := ⟨xw_t3 130 (by decide +kernel) rfl, xw_t1 2 (by decide +kernel) rfl, by decide +kernel, by decide⟩
theorem lk_X7_67 : xLV RX7 67 yX7_readLine cX7_readLine 1 none 0 7 := ⟨mt_X7_readLine, xw_t3 127 (by decide +kernel) rfl, xw_t3 129 (by decide +kernel) rfl, xw_p1 11 (by decide +kernel), rfl, by decide⟩
theorem mt_X7_expectSign : xMT yX7_expectSign cX7_expectSign 2 none 1 := ⟨xw_t3 117 (by decide +kernel) rfl, xw_t1 2 (by decide +kernel) rfl, by decide +kernel, by decide⟩
theorem lk_X7_70 : xLV RX7 70 yX7_expectSign cX7_expectSign 2 none 1 7 := ⟨mt_X7_expectSign, xw_t3 114 (by decide +kernel) rfl, xw_t3 116 (by decide +kernel) rfl, xw_p1 9 (by decide +kernel), rfl, by decide⟩
theorem mt_X7_pass : xMT yX7_pass cX7_pass 3 none 2 := ⟨xw_t2 222 (by decide +kernel) rfl, xw_t1 2 (by decide +kernel) rfl, by decide +kernel, by decide⟩
theorem lk_X7_80 : xLV RX7 80 yX7_pass cX7_pass 3 none 2 7 := ⟨mt_X7_pass, xw_t2 219 (by decide +kernel) rfl, xw_t2 221 (by decide +kernel) rfl, xw_p1 2 (by decide +kernel), rfl, by decide⟩
theorem mt_J0_indexOf_0f7a4 : xMT yJ0_indexOf_0f7a4 cJ0_indexOf_0f7a4 2 (some .int) 1 := ⟨xw_t2 227 (by decide +kernel) rfl, xw_t1 17 (by decide +kernel) rfl, by decide +kernel, by decide⟩
theorem lk_X7_86 : xLT RX7 86 yJ0_indexOf_0f7a4 cJ0_indexOf_0f7a4 2 (some .int) 1 := ⟨mt_J0_indexOf_0f7a4, xw_t2 224 (by decide +kernel) rfl, xw_t2 225 (by decide +kernel) rfl, xw_t2 226 (by decide +kernel) rfl, rfl⟩
theorem mt_J0_length_8abf5 : xMT yJ0_length_8abf5 cJ0_length_8abf5 1 (some .int) 0 := ⟨xw_t3 1 (by decide +kernel) rfl, xw_t1 17 (by decide +kernel) rfl, by decide +kernel, by decide⟩
theorem lk_X7_92 : xLT RX7 92 yJ0_length_8abf5 cJ0_length_8abf5 1 (some .int) 0 := ⟨mt_J0_length_8abf5, xw_t3 79 (by decide +kernel) rfl, xw_t2 239 (by decide +kernel) rfl, xw_t3 0 (by decide +kernel) rfl, rfl⟩
theorem mt_J0_charAt_5068e : xMT yJ0_charAt_5068e cJ0_charAt_5068e 2 (some .char) 1 := ⟨xw_t3 83 (by decide +kernel) rfl, xw_t1 17 (by decide +kernel) rfl, by decide +kernel, by decide⟩
theorem lk_X7_95 : xLT RX7 95 yJ0_charAt_5068e cJ0_charAt_5068e 2 (some .char) 1 := ⟨mt_J0_charAt_5068e, xw_t3 80 (by decide +kernel) rfl, xw_t3 81 (by decide +kernel) rfl, xw_t3 82 (by decide +kernel) rfl, rfl⟩
theorem mt_X7_atWord : xMT yX7_atWord cX7_atWord 3 (some .boolean) 1 := ⟨xw_t3 78 (by decide +kernel) rfl, xw_t1 2 (by decide +kernel) rfl, by decide +kernel, by decide⟩
theorem lk_X7_99 : xLV RX7 99 yX7_atWord cX7_atWord 3 (some .boolean) 1 7 := ⟨mt_X7_atWord, xw_t3 75 (by decide +kernel) rfl, xw_t3 77 (by decide +kernel) rfl, xw_p1 5 (by decide +kernel), rfl, by decide⟩
theorem mt_X7_fail : xMT yX7_fail cX7_fail 2 none 1 := ⟨xw_t3 103 (by decide +kernel) rfl, xw_t1 2 (by decide +kernel) rfl, by decide +kernel, by decide⟩
theorem lk_X7_103 : xLV RX7 103 yX7_fail cX7_fail 2 none 1 7 := ⟨mt_X7_fail, xw_t3 100 (by decide +kernel) rfl, xw_t3 102 (by decide +kernel) rfl, xw_p1 6 (by decide +kernel), rfl, by decide⟩
theorem mt_X7_atSign : xMT yX7_atSign cX7_atSign 2 (some .boolean) 1 := ⟨xw_t3 121 (by decide +kernel) rfl, xw_t1 2 (by decide +kernel) rfl, by decide +kernel, by decide⟩
theorem lk_X7_107 : xLV RX7 107 yX7_atSign cX7_atSign 2 (some .boolean) 1 7 := ⟨mt_X7_atSign, xw_t3 118 (by decide +kernel) rfl, xw_t3 120 (by decide +kernel) rfl, xw_p1 10 (by decide +kernel), rfl, by decide⟩
theorem mt_X7_numberHere : xMT yX7_numberHere cX7_numberHere 3 (some .int) 0 := ⟨xw_t3 112 (by decide +kernel) rfl, xw_t1 2 (by decide +kernel) rfl, by decide +kernel, by decide⟩
theorem lk_X7_111 : xLV RX7 111 yX7_numberHere cX7_numberHere 3 (some .int) 0 7 := ⟨mt_X7_numberHere, xw_t3 109 (by decide +kernel) rfl, xw_t3 111 (by decide +kernel) rfl, xw_p1 8 (by decide +kernel), rfl, by decide⟩
theorem lk_X7_114 : xLV RX7 114 yX3_cells cX3_cells 1 (some .int) 0 3 := ⟨mt_X3_cells, xw_t3 123 (by decide +kernel) rfl, xw_t3 124 (by decide +kernel) rfl, xw_t3 125 (by decide +kernel) rfl, rfl, by decide⟩
theorem mt_X7_expectNumber : xMT yX7_expectNumber cX7_expectNumber 5 (some .int) 3 := ⟨xw_t3 108 (by decide +kernel) rfl, xw_t1 2 (by decide +kernel) rfl, by decide +kernel, by decide⟩
theorem lk_X7_117 : xLV RX7 117 yX7_expectNumber cX7_expectNumber 5 (some .int) 3 7 := ⟨mt_X7_expectNumber, xw_t3 105 (by decide +kernel) rfl, xw_t3 107 (by decide +kernel) rfl, xw_p1 7 (by decide +kernel), rfl, by decide⟩
theorem mt_X7_expectWord : xMT yX7_expectWord cX7_expectWord 2 none 1 := ⟨xw_t3 74 (by decide +kernel) rfl, xw_t1 2 (by decide +kernel) rfl, by decide +kernel, by decide⟩
theorem lk_X7_123 : xLV RX7 123 yX7_expectWord cX7_expectWord 2 none 1 7 := ⟨mt_X7_expectWord, xw_t3 71 (by decide +kernel) rfl, xw_t3 73 (by decide +kernel) rfl, xw_p1 4 (by decide +kernel), rfl, by decide⟩
theorem lk_X7_131 : xLV RX7 131 yX3_setSize cX3_setSize 4 none 2 3 := ⟨mt_X3_setSize, xw_t3 122 (by decide +kernel) rfl, xw_t2 204 (by decide +kernel) rfl, xw_t2 205 (by decide +kernel) rfl, rfl, by decide⟩
theorem mt_X7_readSand : xMT yX7_readSand cX7_readSand 3 none 0 := ⟨xw_t3 135 (by decide +kernel) rfl, xw_t1 2 (by decide +kernel) rfl, by decide +kernel, by decide⟩
theorem lk_X7_140 : xLV RX7 140 yX7_readSand cX7_readSand 3 none 0 7 := ⟨mt_X7_readSand, xw_t3 132 (by decide +kernel) rfl, xw_t3 134 (by decide +kernel) rfl, xw_p1 12 (by decide +kernel), rfl, by decide⟩
theorem mt_X7_readHouse : xMT yX7_readHouse cX7_readHouse 3 none 0 := ⟨xw_t3 144 (by decide +kernel) rfl, xw_t1 2 (by decide +kernel) rfl, by decide +kernel, by decide⟩
theorem lk_X7_145 : xLV RX7 145 yX7_readHouse cX7_readHouse 3 none 0 7 := ⟨mt_X7_readHouse, xw_t3 141 (by decide +kernel) rfl, xw_t3 143 (by decide +kernel) rfl, xw_p1 14 (by decide +kernel), rfl, by decide⟩
theorem mt_X7_readPlot : xMT yX7_readPlot cX7_readPlot 4 none 0 := ⟨xw_t3 163 (by decide +kernel) rfl, xw_t1 2 (by decide +kernel) rfl, by decide +kernel, by decide⟩
theorem lk_X7_150 : xLV RX7 150 yX7_readPlot cX7_readPlot 4 none 0 7 := ⟨mt_X7_readPlot, xw_t3 160 (by decide +kernel) rfl, xw_t3 162 (by decide +kernel) rfl, xw_p2 0 (by decide +kernel), rfl, by decide⟩
theorem mt_X7_readPaper : xMT yX7_readPaper cX7_readPaper 3 none 0 := ⟨xw_t3 174 (by decide +kernel) rfl, xw_t1 2 (by decide +kernel) rfl, by decide +kernel, by decide⟩
theorem lk_X7_155 : xLV RX7 155 yX7_readPaper cX7_readPaper 3 none 0 7 := ⟨mt_X7_readPaper, xw_t3 171 (by decide +kernel) rfl, xw_t3 173 (by decide +kernel) rfl, xw_p2 1 (by decide +kernel), rfl, by decide⟩
theorem mt_X7_readOwes : xMT yX7_readOwes cX7_readOwes 4 none 0 := ⟨xw_t3 189 (by decide +kernel) rfl, xw_t1 2 (by decide +kernel) rfl, by decide +kernel, by decide⟩
theorem lk_X7_160 : xLV RX7 160 yX7_readOwes cX7_readOwes 4 none 0 7 := ⟨mt_X7_readOwes, xw_t3 186 (by decide +kernel) rfl, xw_t3 188 (by decide +kernel) rfl, xw_p2 3 (by decide +kernel), rfl, by decide⟩
theorem mt_X7_readLaw : xMT yX7_readLaw cX7_readLaw 3 none 1 := ⟨xw_t3 196 (by decide +kernel) rfl, xw_t1 2 (by decide +kernel) rfl, by decide +kernel, by decide⟩
theorem lk_X7_173 : xLV RX7 173 yX7_readLaw cX7_readLaw 3 none 1 7 := ⟨mt_X7_readLaw, xw_t3 193 (by decide +kernel) rfl, xw_t3 195 (by decide +kernel) rfl, xw_p2 4 (by decide +kernel), rfl, by decide⟩
theorem mt_X7_expectCell : xMT yX7_expectCell cX7_expectCell 2 (some .int) 1 := ⟨xw_t3 139 (by decide +kernel) rfl, xw_t1 2 (by decide +kernel) rfl, by decide +kernel, by decide⟩
theorem lk_X7_179 : xLV RX7 179 yX7_expectCell cX7_expectCell 2 (some .int) 1 7 := ⟨mt_X7_expectCell, xw_t3 136 (by decide +kernel) rfl, xw_t3 138 (by decide +kernel) rfl, xw_p1 13 (by decide +kernel), rfl, by decide⟩
theorem lk_X7_185 : xLV RX7 185 yX0_builtCells cX0_builtCells 3 (some .int) 0 0 := ⟨mt_X0_builtCells, xw_t3 145 (by decide +kernel) rfl, xw_t3 146 (by decide +kernel) rfl, xw_t3 147 (by decide +kernel) rfl, rfl, by decide⟩
theorem mt_X7_expectOwner : xMT yX7_expectOwner cX7_expectOwner 2 (some .int) 1 := ⟨xw_t3 153 (by decide +kernel) rfl, xw_t1 2 (by decide +kernel) rfl, by decide +kernel, by decide⟩
theorem lk_X7_190 : xLV RX7 190 yX7_expectOwner cX7_expectOwner 2 (some .int) 1 7 := ⟨mt_X7_expectOwner, xw_t3 150 (by decide +kernel) rfl, xw_t3 152 (by decide +kernel) rfl, xw_p1 15 (by decide +kernel), rfl, by decide⟩
theorem lk_X7_193 : xLV RX7 193 yX0_settle cX0_settle 4 (some .int) 3 0 := ⟨mt_X0_settle, xw_t3 154 (by decide +kernel) rfl, xw_t3 155 (by decide +kernel) rfl, xw_t3 156 (by decide +kernel) rfl, rfl, by decide⟩
theorem mt_X3_addPlot : xMT yX3_addPlot cX3_addPlot 4 none 3 := ⟨xw_t3 169 (by decide +kernel) rfl, xw_t1 3 (by decide +kernel) rfl, by decide +kernel, by decide⟩
theorem lk_X7_203 : xLV RX7 203 yX3_addPlot cX3_addPlot 4 none 3 3 := ⟨mt_X3_addPlot, xw_t3 166 (by decide +kernel) rfl, xw_t3 167 (by decide +kernel) rfl, xw_t3 168 (by decide +kernel) rfl, rfl, by decide⟩
theorem mt_X3_addPaper : xMT yX3_addPaper cX3_addPaper 3 none 2 := ⟨xw_t3 178 (by decide +kernel) rfl, xw_t1 3 (by decide +kernel) rfl, by decide +kernel, by decide⟩
theorem lk_X7_210 : xLV RX7 210 yX3_addPaper cX3_addPaper 3 none 2 3 := ⟨mt_X3_addPaper, xw_t3 175 (by decide +kernel) rfl, xw_t3 176 (by decide +kernel) rfl, xw_t3 177 (by decide +kernel) rfl, rfl, by decide⟩
theorem mt_X7_readSum : xMT yX7_readSum cX7_readSum 4 none 1 := ⟨xw_t3 200 (by decide +kernel) rfl, xw_t1 2 (by decide +kernel) rfl, by decide +kernel, by decide⟩
theorem lk_X7_223 : xLV RX7 223 yX7_readSum cX7_readSum 4 none 1 7 := ⟨mt_X7_readSum, xw_t3 197 (by decide +kernel) rfl, xw_t3 199 (by decide +kernel) rfl, xw_p2 5 (by decide +kernel), rfl, by decide⟩
theorem mt_X7_readTerm : xMT yX7_readTerm cX7_readTerm 3 none 1 := ⟨xw_t3 204 (by decide +kernel) rfl, xw_t1 2 (by decide +kernel) rfl, by decide +kernel, by decide⟩
theorem lk_X7_238 : xLV RX7 238 yX7_readTerm cX7_readTerm 3 none 1 7 := ⟨mt_X7_readTerm, xw_t3 201 (by decide +kernel) rfl, xw_t3 203 (by decide +kernel) rfl, xw_p2 6 (by decide +kernel), rfl, by decide⟩
theorem mt_X3_emit : xMT yX3_emit cX3_emit 2 none 1 := ⟨xw_t3 221 (by decide +kernel) rfl, xw_t1 3 (by decide +kernel) rfl, by decide +kernel, by decide⟩
theorem lk_X7_243 : xLV RX7 243 yX3_emit cX3_emit 2 none 1 3 := ⟨mt_X3_emit, xw_t3 218 (by decide +kernel) rfl, xw_t3 219 (by decide +kernel) rfl, xw_t3 220 (by decide +kernel) rfl, rfl, by decide⟩
theorem mt_X7_readAtom : xMT yX7_readAtom cX7_readAtom 3 none 1 := ⟨xw_t3 208 (by decide +kernel) rfl, xw_t1 2 (by decide +kernel) rfl, by decide +kernel, by decide⟩
theorem lk_X7_246 : xLV RX7 246 yX7_readAtom cX7_readAtom 3 none 1 7 := ⟨mt_X7_readAtom, xw_t3 205 (by decide +kernel) rfl, xw_t3 207 (by decide +kernel) rfl, xw_p2 7 (by decide +kernel), rfl, by decide⟩
theorem mt_X7_nameHere : xMT yX7_nameHere cX7_nameHere 1 (some .int) 0 := ⟨xw_t3 212 (by decide +kernel) rfl, xw_t1 2 (by decide +kernel) rfl, by decide +kernel, by decide⟩
theorem lk_X7_249 : xLV RX7 249 yX7_nameHere cX7_nameHere 1 (some .int) 0 7 := ⟨mt_X7_nameHere, xw_t3 209 (by decide +kernel) rfl, xw_t3 211 (by decide +kernel) rfl, xw_p2 8 (by decide +kernel), rfl, by decide⟩
theorem mt_X7_goesDeeper : xMT yX7_goesDeeper cX7_goesDeeper 2 (some .boolean) 1 := ⟨xw_t3 225 (by decide +kernel) rfl, xw_t1 2 (by decide +kernel) rfl, by decide +kernel, by decide⟩
theorem lk_X7_252 : xLV RX7 252 yX7_goesDeeper cX7_goesDeeper 2 (some .boolean) 1 7 := ⟨mt_X7_goesDeeper, xw_t3 222 (by decide +kernel) rfl, xw_t3 224 (by decide +kernel) rfl, xw_p2 9 (by decide +kernel), rfl, by decide⟩
theorem mt_X7_readChoice : xMT yX7_readChoice cX7_readChoice 2 none 1 := ⟨xw_t3 230 (by decide +kernel) rfl, xw_t1 2 (by decide +kernel) rfl, by decide +kernel, by decide⟩
theorem lk_X7_258 : xLV RX7 258 yX7_readChoice cX7_readChoice 2 none 1 7 := ⟨mt_X7_readChoice, xw_t3 227 (by decide +kernel) rfl, xw_t3 229 (by decide +kernel) rfl, xw_p2 10 (by decide +kernel), rfl, by decide⟩
theorem mt_X7_readTruth : xMT yX7_readTruth cX7_readTruth 3 none 1 := ⟨xw_t3 234 (by decide +kernel) rfl, xw_t1 2 (by decide +kernel) rfl, by decide +kernel, by decide⟩
theorem lk_X7_271 : xLV RX7 271 yX7_readTruth cX7_readTruth 3 none 1 7 := ⟨mt_X7_readTruth, xw_t3 231 (by decide +kernel) rfl, xw_t3 233 (by decide +kernel) rfl, xw_p2 11 (by decide +kernel), rfl, by decide⟩
theorem mt_X7_readBoth : xMT yX7_readBoth cX7_readBoth 3 none 1 := ⟨xw_t3 238 (by decide +kernel) rfl, xw_t1 2 (by decide +kernel) rfl, by decide +kernel, by decide⟩
theorem lk_X7_280 : xLV RX7 280 yX7_readBoth cX7_readBoth 3 none 1 7 := ⟨mt_X7_readBoth, xw_t3 235 (by decide +kernel) rfl, xw_t3 237 (by decide +kernel) rfl, xw_p2 12 (by decide +kernel), rfl, by decide⟩
theorem mt_X7_readUnit : xMT yX7_readUnit cX7_readUnit 2 none 1 := ⟨xw_t4 2 (by decide +kernel) rfl, xw_t1 2 (by decide +kernel) rfl, by decide +kernel, by decide⟩
theorem lk_X7_285 : xLV RX7 285 yX7_readUnit cX7_readUnit 2 none 1 7 := ⟨mt_X7_readUnit, xw_t3 239 (by decide +kernel) rfl, xw_t4 1 (by decide +kernel) rfl, xw_p2 13 (by decide +kernel), rfl, by decide⟩
theorem mt_X7_readComparison : xMT yX7_readComparison cX7_readComparison 3 none 1 := ⟨xw_t4 7 (by decide +kernel) rfl, xw_t1 2 (by decide +kernel) rfl, by decide +kernel, by decide⟩
theorem lk_X7_292 : xLV RX7 292 yX7_readComparison cX7_readComparison 3 none 1 7 := ⟨mt_X7_readComparison, xw_t4 4 (by decide +kernel) rfl, xw_t4 6 (by decide +kernel) rfl, xw_p2 14 (by decide +kernel), rfl, by decide⟩
theorem lo_X8_3 : Cond.methodLink RX8 3 objectInit ∈ xw ∧ Cond.instanceMethod objectInit ∈ xw ∧ Cond.code objectInit ⟨#[0xb1]⟩ 1 none ∈ xw := ⟨xw_t1 226 (by decide +kernel) rfl, xw_t1 29 (by decide +kernel) rfl, xw_t1 30 (by decide +kernel) rfl⟩
theorem mt_X4_init : xMT yX4_init cX4_init 1 none 0 := ⟨xw_t1 231 (by decide +kernel) rfl, xw_t1 6 (by decide +kernel) rfl, by decide +kernel, by decide⟩
theorem lk_X8_11 : xLI RX8 11 yX4_init cX4_init 1 0 := ⟨mt_X4_init, xw_t1 229 (by decide +kernel) rfl, xw_t1 230 (by decide +kernel) rfl, rfl⟩
theorem lk_X8_34 : xLS RX8 34 yJ9_floorMod_7cf53 cJ9_floorMod_7cf53 3 (some .int) 2 := ⟨mt_J9_floorMod_7cf53, xw_t4 63 (by decide +kernel) rfl, xw_t4 64 (by decide +kernel) rfl⟩
theorem mt_X4_tell : xMT yX4_tell cX4_tell 9 (some .int) 3 := ⟨xw_t4 69 (by decide +kernel) rfl, xw_t1 6 (by decide +kernel) rfl, by decide +kernel, by decide⟩
theorem lk_X8_46 : xLV RX8 46 yX4_tell cX4_tell 9 (some .int) 3 4 := ⟨mt_X4_tell, xw_t4 66 (by decide +kernel) rfl, xw_t4 67 (by decide +kernel) rfl, xw_t4 68 (by decide +kernel) rfl, rfl, by decide⟩
theorem lk_X8_50 : xLS RX8 50 yJ9_min_7cf53 cJ9_min_7cf53 2 (some .int) 2 := ⟨mt_J9_min_7cf53, xw_t4 81 (by decide +kernel) rfl, xw_t2 194 (by decide +kernel) rfl⟩
theorem lk_X8_53 : xLS RX8 53 yJ9_max_7cf53 cJ9_max_7cf53 2 (some .int) 2 := ⟨mt_J9_max_7cf53, xw_t4 82 (by decide +kernel) rfl, xw_t2 197 (by decide +kernel) rfl⟩
theorem lk_X8_56 : xLV RX8 56 yX3_cells cX3_cells 1 (some .int) 0 3 := ⟨mt_X3_cells, xw_t4 94 (by decide +kernel) rfl, xw_t3 124 (by decide +kernel) rfl, xw_t3 125 (by decide +kernel) rfl, rfl, by decide⟩
theorem lk_X8_63 : xLS RX8 63 yX8_besides cX8_besides 3 (some .int) 2 := ⟨mt_X8_besides, xw_t4 95 (by decide +kernel) rfl, xw_t4 96 (by decide +kernel) rfl⟩
theorem lk_X8_78 : xLV RX8 78 yX8_tideAt cX8_tideAt 5 (some .int) 3 8 := ⟨mt_X8_tideAt, xw_t4 111 (by decide +kernel) rfl, xw_t4 60 (by decide +kernel) rfl, xw_t4 61 (by decide +kernel) rfl, rfl, by decide⟩
theorem lk_X8_82 : xLV RX8 82 yX8_tickAt cX8_tickAt 5 (some .int) 3 8 := ⟨mt_X8_tickAt, xw_t4 112 (by decide +kernel) rfl, xw_t4 113 (by decide +kernel) rfl, xw_t4 114 (by decide +kernel) rfl, rfl, by decide⟩
theorem lk_X8_89 : xLS RX8 89 yX8_wetAt cX8_wetAt 8 (some .int) 3 := ⟨mt_X8_wetAt, xw_t4 116 (by decide +kernel) rfl, xw_t4 92 (by decide +kernel) rfl⟩
theorem mt_X0_fell : xMT yX0_fell cX0_fell 3 none 1 := ⟨xw_t4 120 (by decide +kernel) rfl, xw_t1 4 (by decide +kernel) rfl, by decide +kernel, by decide⟩
theorem lk_X8_93 : xLV RX8 93 yX0_fell cX0_fell 3 none 1 0 := ⟨mt_X0_fell, xw_t4 117 (by decide +kernel) rfl, xw_t4 118 (by decide +kernel) rfl, xw_t4 119 (by decide +kernel) rfl, rfl, by decide⟩
theorem mt_X8_wash : xMT yX8_wash cX8_wash 8 none 4 := ⟨xw_t4 124 (by decide +kernel) rfl, xw_t1 5 (by decide +kernel) rfl, by decide +kernel, by decide⟩
theorem lk_X8_103 : xLV RX8 103 yX8_wash cX8_wash 8 none 4 8 := ⟨mt_X8_wash, xw_t4 121 (by decide +kernel) rfl, xw_t4 123 (by decide +kernel) rfl, xw_p3 1 (by decide +kernel), rfl, by decide⟩
theorem lk_X8_107 : xLS RX8 107 yJ6_bitCount_0f7a4 cJ6_bitCount_0f7a4 1 (some .int) 1 := ⟨mt_J6_bitCount_0f7a4, xw_t4 125 (by decide +kernel) rfl, xw_t4 126 (by decide +kernel) rfl⟩
theorem la_X8_113 : xLA RX8 113 := ⟨xw_t4 131 (by decide +kernel) rfl, xw_t4 20 (by decide +kernel) rfl, xw_t4 19 (by decide +kernel) rfl, xw_t1 22 (by decide +kernel) rfl⟩
theorem lk_X8_119 : xLV RX8 119 yX8_tick cX8_tick 3 (some .int) 2 8 := ⟨mt_X8_tick, xw_t4 199 (by decide +kernel) rfl, xw_t4 108 (by decide +kernel) rfl, xw_t4 109 (by decide +kernel) rfl, rfl, by decide⟩
theorem lk_X8_127 : xLV RX8 127 yX0_changeMoon cX0_changeMoon 2 (some .int) 1 0 := ⟨mt_X0_changeMoon, xw_t4 202 (by decide +kernel) rfl, xw_t4 168 (by decide +kernel) rfl, xw_t4 169 (by decide +kernel) rfl, rfl, by decide⟩
theorem lk_X8_130 : xLV RX8 130 yX0_settle cX0_settle 4 (some .int) 3 0 := ⟨mt_X0_settle, xw_t4 203 (by decide +kernel) rfl, xw_t3 155 (by decide +kernel) rfl, xw_t3 156 (by decide +kernel) rfl, rfl, by decide⟩
theorem lk_X8_134 : xLV RX8 134 yX0_heap cX0_heap 3 (some .int) 2 0 := ⟨mt_X0_heap, xw_t4 204 (by decide +kernel) rfl, xw_t4 143 (by decide +kernel) rfl, xw_t4 144 (by decide +kernel) rfl, rfl, by decide⟩
theorem lk_X8_137 : xLV RX8 137 yX0_scoop cX0_scoop 3 (some .int) 2 0 := ⟨mt_X0_scoop, xw_t4 205 (by decide +kernel) rfl, xw_t4 155 (by decide +kernel) rfl, xw_t4 156 (by decide +kernel) rfl, rfl, by decide⟩
theorem lk_X8_140 : xLS RX8 140 yJ7_fill_53178 cJ7_fill_53178 4 none 2 := ⟨mt_J7_fill_53178, xw_t5 176 (by decide +kernel) rfl, xw_t2 208 (by decide +kernel) rfl⟩
theorem lo_X9_3 : Cond.methodLink RX9 3 objectInit ∈ xw ∧ Cond.instanceMethod objectInit ∈ xw ∧ Cond.code objectInit ⟨#[0xb1]⟩ 1 none ∈ xw := ⟨xw_t2 93 (by decide +kernel) rfl, xw_t1 29 (by decide +kernel) rfl, xw_t1 30 (by decide +kernel) rfl⟩
theorem mt_X9_fits : xMT yX9_fits cX9_fits 5 (some .boolean) 3 := ⟨xw_t5 114 (by decide +kernel) rfl, xw_t1 11 (by decide +kernel) rfl, by decide +kernel, by decide⟩
theorem lk_X9_21 : xLV RX9 21 yX9_fits cX9_fits 5 (some .boolean) 3 9 := ⟨mt_X9_fits, xw_t5 111 (by decide +kernel) rfl, xw_t5 113 (by decide +kernel) rfl, xw_p4 2 (by decide +kernel), rfl, by decide⟩
theorem mt_X9_isClear : xMT yX9_isClear cX9_isClear 4 (some .boolean) 2 := ⟨xw_t5 118 (by decide +kernel) rfl, xw_t1 11 (by decide +kernel) rfl, by decide +kernel, by decide⟩
theorem lk_X9_25 : xLV RX9 25 yX9_isClear cX9_isClear 4 (some .boolean) 2 9 := ⟨mt_X9_isClear, xw_t5 115 (by decide +kernel) rfl, xw_t5 117 (by decide +kernel) rfl, xw_p4 3 (by decide +kernel), rfl, by decide⟩
theorem lk_X9_32 : xLS RX9 32 yJ6_bitCount_0f7a4 cJ6_bitCount_0f7a4 1 (some .int) 1 := ⟨mt_J6_bitCount_0f7a4, xw_t5 126 (by decide +kernel) rfl, xw_t4 126 (by decide +kernel) rfl⟩
theorem mt_X9_allOverlap : xMT yX9_allOverlap cX9_allOverlap 5 (some .boolean) 2 := ⟨xw_t5 129 (by decide +kernel) rfl, xw_t1 11 (by decide +kernel) rfl, by decide +kernel, by decide⟩
theorem lk_X9_38 : xLS RX9 38 yX9_allOverlap cX9_allOverlap 5 (some .boolean) 2 := ⟨mt_X9_allOverlap, xw_t5 127 (by decide +kernel) rfl, xw_t5 128 (by decide +kernel) rfl⟩
theorem lo_X10_3 : Cond.methodLink RX10 3 objectInit ∈ xw ∧ Cond.instanceMethod objectInit ∈ xw ∧ Cond.code objectInit ⟨#[0xb1]⟩ 1 none ∈ xw := ⟨xw_t2 37 (by decide +kernel) rfl, xw_t1 29 (by decide +kernel) rfl, xw_t1 30 (by decide +kernel) rfl⟩
theorem lk_X10_22 : xLS RX10 22 yJ7_fill_d0a16 cJ7_fill_d0a16 5 none 2 := ⟨mt_J7_fill_d0a16, xw_t5 229 (by decide +kernel) rfl, xw_t5 199 (by decide +kernel) rfl⟩
theorem mt_X11_init : xMT yX11_init cX11_init 2 none 0 := ⟨xw_t1 27 (by decide +kernel) rfl, xw_t1 1 (by decide +kernel) rfl, by decide +kernel, by decide⟩
theorem lk_L_9 : xLI RL 9 yX11_init cX11_init 2 0 := ⟨mt_X11_init, xw_t1 25 (by decide +kernel) rfl, xw_t1 26 (by decide +kernel) rfl, rfl⟩
theorem mt_X12_init : xMT yX12_init cX12_init 1 none 0 := ⟨xw_t6 24 (by decide +kernel) rfl, xw_t1 14 (by decide +kernel) rfl, by decide +kernel, by decide⟩
theorem lk_L_12 : xLI RL 12 yX12_init cX12_init 1 0 := ⟨mt_X12_init, xw_t6 22 (by decide +kernel) rfl, xw_t6 23 (by decide +kernel) rfl, rfl⟩
theorem mt_X11_feed : xMT yX11_feed cX11_feed 6 (some .int) 5 := ⟨xw_t2 180 (by decide +kernel) rfl, xw_t1 1 (by decide +kernel) rfl, by decide +kernel, by decide⟩
theorem lk_L_13 : xLV RL 13 yX11_feed cX11_feed 6 (some .int) 5 11 := ⟨mt_X11_feed, xw_t2 177 (by decide +kernel) rfl, xw_t2 178 (by decide +kernel) rfl, xw_t2 179 (by decide +kernel) rfl, rfl, by decide⟩
theorem mt_X12_feed : xMT yX12_feed cX12_feed 8 (some .int) 5 := ⟨xw_t6 142 (by decide +kernel) rfl, xw_t1 14 (by decide +kernel) rfl, by decide +kernel, by decide⟩
theorem lk_L_17 : xLV RL 17 yX12_feed cX12_feed 8 (some .int) 5 12 := ⟨mt_X12_feed, xw_t6 139 (by decide +kernel) rfl, xw_t6 140 (by decide +kernel) rfl, xw_t6 141 (by decide +kernel) rfl, rfl, by decide⟩
theorem mt_X11_shore : xMT yX11_shore cX11_shore 3 (some .int) 1 := ⟨xw_t2 188 (by decide +kernel) rfl, xw_t1 1 (by decide +kernel) rfl, by decide +kernel, by decide⟩
theorem lk_L_18 : xLV RL 18 yX11_shore cX11_shore 3 (some .int) 1 11 := ⟨mt_X11_shore, xw_t2 185 (by decide +kernel) rfl, xw_t2 186 (by decide +kernel) rfl, xw_t2 187 (by decide +kernel) rfl, rfl, by decide⟩
theorem mt_X12_shore : xMT yX12_shore cX12_shore 3 (some .int) 1 := ⟨xw_t6 146 (by decide +kernel) rfl, xw_t1 14 (by decide +kernel) rfl, by decide +kernel, by decide⟩
theorem lk_L_22 : xLV RL 22 yX12_shore cX12_shore 3 (some .int) 1 12 := ⟨mt_X12_shore, xw_t6 143 (by decide +kernel) rfl, xw_t6 144 (by decide +kernel) rfl, xw_t6 145 (by decide +kernel) rfl, rfl, by decide⟩
theorem mt_X11_fault : xMT yX11_fault cX11_fault 2 (some .int) 1 := ⟨xw_t4 33 (by decide +kernel) rfl, xw_t1 1 (by decide +kernel) rfl, by decide +kernel, by decide⟩
theorem lk_L_23 : xLV RL 23 yX11_fault cX11_fault 2 (some .int) 1 11 := ⟨mt_X11_fault, xw_t4 30 (by decide +kernel) rfl, xw_t4 31 (by decide +kernel) rfl, xw_t4 32 (by decide +kernel) rfl, rfl, by decide⟩
theorem mt_X12_fault : xMT yX12_fault cX12_fault 2 (some .int) 1 := ⟨xw_t7 39 (by decide +kernel) rfl, xw_t1 14 (by decide +kernel) rfl, by decide +kernel, by decide⟩
theorem lk_L_26 : xLV RL 26 yX12_fault cX12_fault 2 (some .int) 1 12 := ⟨mt_X12_fault, xw_t7 36 (by decide +kernel) rfl, xw_t7 37 (by decide +kernel) rfl, xw_t7 38 (by decide +kernel) rfl, rfl, by decide⟩
theorem mt_X11_sand : xMT yX11_sand cX11_sand 2 (some .int) 1 := ⟨xw_t4 37 (by decide +kernel) rfl, xw_t1 1 (by decide +kernel) rfl, by decide +kernel, by decide⟩
theorem lk_L_27 : xLV RL 27 yX11_sand cX11_sand 2 (some .int) 1 11 := ⟨mt_X11_sand, xw_t4 34 (by decide +kernel) rfl, xw_t4 35 (by decide +kernel) rfl, xw_t4 36 (by decide +kernel) rfl, rfl, by decide⟩
theorem mt_X12_sand : xMT yX12_sand cX12_sand 2 (some .int) 1 := ⟨xw_t7 43 (by decide +kernel) rfl, xw_t1 14 (by decide +kernel) rfl, by decide +kernel, by decide⟩
theorem lk_L_30 : xLV RL 30 yX12_sand cX12_sand 2 (some .int) 1 12 := ⟨mt_X12_sand, xw_t7 40 (by decide +kernel) rfl, xw_t7 41 (by decide +kernel) rfl, xw_t7 42 (by decide +kernel) rfl, rfl, by decide⟩
theorem mt_X11_house : xMT yX11_house cX11_house 3 (some .int) 2 := ⟨xw_t4 46 (by decide +kernel) rfl, xw_t1 1 (by decide +kernel) rfl, by decide +kernel, by decide⟩
theorem lk_L_31 : xLV RL 31 yX11_house cX11_house 3 (some .int) 2 11 := ⟨mt_X11_house, xw_t4 43 (by decide +kernel) rfl, xw_t4 44 (by decide +kernel) rfl, xw_t4 45 (by decide +kernel) rfl, rfl, by decide⟩
theorem mt_X12_house : xMT yX12_house cX12_house 3 (some .int) 2 := ⟨xw_t7 51 (by decide +kernel) rfl, xw_t1 14 (by decide +kernel) rfl, by decide +kernel, by decide⟩
theorem lk_L_35 : xLV RL 35 yX12_house cX12_house 3 (some .int) 2 12 := ⟨mt_X12_house, xw_t7 48 (by decide +kernel) rfl, xw_t7 49 (by decide +kernel) rfl, xw_t7 50 (by decide +kernel) rfl, rfl, by decide⟩
theorem mt_X11_plot : xMT yX11_plot cX11_plot 3 (some .int) 2 := ⟨xw_t4 54 (by decide +kernel) rfl, xw_t1 1 (by decide +kernel) rfl, by decide +kernel, by decide⟩
theorem lk_L_36 : xLV RL 36 yX11_plot cX11_plot 3 (some .int) 2 11 := ⟨mt_X11_plot, xw_t4 51 (by decide +kernel) rfl, xw_t4 52 (by decide +kernel) rfl, xw_t4 53 (by decide +kernel) rfl, rfl, by decide⟩
theorem mt_X12_plot : xMT yX12_plot cX12_plot 3 (some .int) 2 := ⟨xw_t7 62 (by decide +kernel) rfl, xw_t1 14 (by decide +kernel) rfl, by decide +kernel, by decide⟩
theorem lk_L_39 : xLV RL 39 yX12_plot cX12_plot 3 (some .int) 2 12 := ⟨mt_X12_plot, xw_t7 59 (by decide +kernel) rfl, xw_t7 60 (by decide +kernel) rfl, xw_t7 61 (by decide +kernel) rfl, rfl, by decide⟩
theorem mt_X11_level : xMT yX11_level cX11_level 2 (some .int) 1 := ⟨xw_t4 58 (by decide +kernel) rfl, xw_t1 1 (by decide +kernel) rfl, by decide +kernel, by decide⟩
theorem lk_L_40 : xLV RL 40 yX11_level cX11_level 2 (some .int) 1 11 := ⟨mt_X11_level, xw_t4 55 (by decide +kernel) rfl, xw_t4 56 (by decide +kernel) rfl, xw_t4 57 (by decide +kernel) rfl, rfl, by decide⟩
theorem mt_X12_level : xMT yX12_level cX12_level 2 (some .int) 1 := ⟨xw_t7 67 (by decide +kernel) rfl, xw_t1 14 (by decide +kernel) rfl, by decide +kernel, by decide⟩
theorem lk_L_43 : xLV RL 43 yX12_level cX12_level 2 (some .int) 1 12 := ⟨mt_X12_level, xw_t7 64 (by decide +kernel) rfl, xw_t7 65 (by decide +kernel) rfl, xw_t7 66 (by decide +kernel) rfl, rfl, by decide⟩
theorem mt_X11_wet : xMT yX11_wet cX11_wet 2 (some .int) 1 := ⟨xw_t4 86 (by decide +kernel) rfl, xw_t1 1 (by decide +kernel) rfl, by decide +kernel, by decide⟩
theorem lk_L_44 : xLV RL 44 yX11_wet cX11_wet 2 (some .int) 1 11 := ⟨mt_X11_wet, xw_t4 83 (by decide +kernel) rfl, xw_t4 84 (by decide +kernel) rfl, xw_t4 85 (by decide +kernel) rfl, rfl, by decide⟩
theorem mt_X12_wet : xMT yX12_wet cX12_wet 2 (some .int) 1 := ⟨xw_t7 88 (by decide +kernel) rfl, xw_t1 14 (by decide +kernel) rfl, by decide +kernel, by decide⟩
theorem lk_L_47 : xLV RL 47 yX12_wet cX12_wet 2 (some .int) 1 12 := ⟨mt_X12_wet, xw_t7 85 (by decide +kernel) rfl, xw_t7 86 (by decide +kernel) rfl, xw_t7 87 (by decide +kernel) rfl, rfl, by decide⟩
theorem mt_X11_minutes : xMT yX11_minutes cX11_minutes 3 (some .int) 1 := ⟨xw_t4 101 (by decide +kernel) rfl, xw_t1 1 (by decide +kernel) rfl, by decide +kernel, by decide⟩
theorem lk_L_48 : xLV RL 48 yX11_minutes cX11_minutes 3 (some .int) 1 11 := ⟨mt_X11_minutes, xw_t4 98 (by decide +kernel) rfl, xw_t4 99 (by decide +kernel) rfl, xw_t4 100 (by decide +kernel) rfl, rfl, by decide⟩
theorem mt_X12_minutes : xMT yX12_minutes cX12_minutes 2 (some .int) 1 := ⟨xw_t7 105 (by decide +kernel) rfl, xw_t1 14 (by decide +kernel) rfl, by decide +kernel, by decide⟩
theorem lk_L_51 : xLV RL 51 yX12_minutes cX12_minutes 2 (some .int) 1 12 := ⟨mt_X12_minutes, xw_t7 102 (by decide +kernel) rfl, xw_t7 103 (by decide +kernel) rfl, xw_t7 104 (by decide +kernel) rfl, rfl, by decide⟩
theorem mt_X11_raise : xMT yX11_raise cX11_raise 3 (some .int) 1 := ⟨xw_t4 141 (by decide +kernel) rfl, xw_t1 1 (by decide +kernel) rfl, by decide +kernel, by decide⟩
theorem lk_L_52 : xLV RL 52 yX11_raise cX11_raise 3 (some .int) 1 11 := ⟨mt_X11_raise, xw_t4 138 (by decide +kernel) rfl, xw_t4 139 (by decide +kernel) rfl, xw_t4 140 (by decide +kernel) rfl, rfl, by decide⟩
theorem mt_X12_raise : xMT yX12_raise cX12_raise 2 (some .int) 1 := ⟨xw_t7 141 (by decide +kernel) rfl, xw_t1 14 (by decide +kernel) rfl, by decide +kernel, by decide⟩
theorem lk_L_55 : xLV RL 55 yX12_raise cX12_raise 2 (some .int) 1 12 := ⟨mt_X12_raise, xw_t7 138 (by decide +kernel) rfl, xw_t7 139 (by decide +kernel) rfl, xw_t7 140 (by decide +kernel) rfl, rfl, by decide⟩
theorem mt_X11_dig : xMT yX11_dig cX11_dig 3 (some .int) 1 := ⟨xw_t4 153 (by decide +kernel) rfl, xw_t1 1 (by decide +kernel) rfl, by decide +kernel, by decide⟩
theorem lk_L_56 : xLV RL 56 yX11_dig cX11_dig 3 (some .int) 1 11 := ⟨mt_X11_dig, xw_t4 150 (by decide +kernel) rfl, xw_t4 151 (by decide +kernel) rfl, xw_t4 152 (by decide +kernel) rfl, rfl, by decide⟩
theorem mt_X12_dig : xMT yX12_dig cX12_dig 2 (some .int) 1 := ⟨xw_t7 153 (by decide +kernel) rfl, xw_t1 14 (by decide +kernel) rfl, by decide +kernel, by decide⟩
theorem lk_L_59 : xLV RL 59 yX12_dig cX12_dig 2 (some .int) 1 12 := ⟨mt_X12_dig, xw_t7 150 (by decide +kernel) rfl, xw_t7 151 (by decide +kernel) rfl, xw_t7 152 (by decide +kernel) rfl, rfl, by decide⟩
theorem mt_X11_build : xMT yX11_build cX11_build 4 (some .int) 2 := ⟨xw_t4 161 (by decide +kernel) rfl, xw_t1 1 (by decide +kernel) rfl, by decide +kernel, by decide⟩
theorem lk_L_60 : xLV RL 60 yX11_build cX11_build 4 (some .int) 2 11 := ⟨mt_X11_build, xw_t4 158 (by decide +kernel) rfl, xw_t4 159 (by decide +kernel) rfl, xw_t4 160 (by decide +kernel) rfl, rfl, by decide⟩
theorem mt_X12_build : xMT yX12_build cX12_build 4 (some .int) 2 := ⟨xw_t7 157 (by decide +kernel) rfl, xw_t1 14 (by decide +kernel) rfl, by decide +kernel, by decide⟩
theorem lk_L_63 : xLV RL 63 yX12_build cX12_build 4 (some .int) 2 12 := ⟨mt_X12_build, xw_t7 154 (by decide +kernel) rfl, xw_t7 155 (by decide +kernel) rfl, xw_t7 156 (by decide +kernel) rfl, rfl, by decide⟩
theorem mt_X11_moon : xMT yX11_moon cX11_moon 4 (some .int) 1 := ⟨xw_t4 166 (by decide +kernel) rfl, xw_t1 1 (by decide +kernel) rfl, by decide +kernel, by decide⟩
theorem lk_L_64 : xLV RL 64 yX11_moon cX11_moon 4 (some .int) 1 11 := ⟨mt_X11_moon, xw_t4 163 (by decide +kernel) rfl, xw_t4 164 (by decide +kernel) rfl, xw_t4 165 (by decide +kernel) rfl, rfl, by decide⟩
theorem mt_X12_moon : xMT yX12_moon cX12_moon 2 (some .int) 1 := ⟨xw_t7 174 (by decide +kernel) rfl, xw_t1 14 (by decide +kernel) rfl, by decide +kernel, by decide⟩
theorem lk_L_67 : xLV RL 67 yX12_moon cX12_moon 2 (some .int) 1 12 := ⟨mt_X12_moon, xw_t7 171 (by decide +kernel) rfl, xw_t7 172 (by decide +kernel) rfl, xw_t7 173 (by decide +kernel) rfl, rfl, by decide⟩
theorem mt_X11_undo : xMT yX11_undo cX11_undo 2 (some .int) 1 := ⟨xw_t4 174 (by decide +kernel) rfl, xw_t1 1 (by decide +kernel) rfl, by decide +kernel, by decide⟩
theorem lk_L_68 : xLV RL 68 yX11_undo cX11_undo 2 (some .int) 1 11 := ⟨mt_X11_undo, xw_t4 171 (by decide +kernel) rfl, xw_t4 172 (by decide +kernel) rfl, xw_t4 173 (by decide +kernel) rfl, rfl, by decide⟩
theorem mt_X12_undo : xMT yX12_undo cX12_undo 3 (some .int) 1 := ⟨xw_t7 179 (by decide +kernel) rfl, xw_t1 14 (by decide +kernel) rfl, by decide +kernel, by decide⟩
theorem lk_L_71 : xLV RL 71 yX12_undo cX12_undo 3 (some .int) 1 12 := ⟨mt_X12_undo, xw_t7 176 (by decide +kernel) rfl, xw_t7 177 (by decide +kernel) rfl, xw_t7 178 (by decide +kernel) rfl, rfl, by decide⟩
theorem mt_X11_judge : xMT yX11_judge cX11_judge 6 (some .int) 2 := ⟨xw_t4 183 (by decide +kernel) rfl, xw_t1 1 (by decide +kernel) rfl, by decide +kernel, by decide⟩
theorem lk_L_72 : xLV RL 72 yX11_judge cX11_judge 6 (some .int) 2 11 := ⟨mt_X11_judge, xw_t4 180 (by decide +kernel) rfl, xw_t4 181 (by decide +kernel) rfl, xw_t4 182 (by decide +kernel) rfl, rfl, by decide⟩
theorem mt_X12_judge : xMT yX12_judge cX12_judge 7 (some .int) 2 := ⟨xw_t7 183 (by decide +kernel) rfl, xw_t1 14 (by decide +kernel) rfl, by decide +kernel, by decide⟩
theorem lk_L_75 : xLV RL 75 yX12_judge cX12_judge 7 (some .int) 2 12 := ⟨mt_X12_judge, xw_t7 180 (by decide +kernel) rfl, xw_t7 181 (by decide +kernel) rfl, xw_t7 182 (by decide +kernel) rfl, rfl, by decide⟩
theorem mt_X11_perform : xMT yX11_perform cX11_perform 3 (some .int) 1 := ⟨xw_t4 213 (by decide +kernel) rfl, xw_t1 1 (by decide +kernel) rfl, by decide +kernel, by decide⟩
theorem lk_L_76 : xLV RL 76 yX11_perform cX11_perform 3 (some .int) 1 11 := ⟨mt_X11_perform, xw_t4 210 (by decide +kernel) rfl, xw_t4 211 (by decide +kernel) rfl, xw_t4 212 (by decide +kernel) rfl, rfl, by decide⟩
theorem mt_X12_perform : xMT yX12_perform cX12_perform 4 (some .int) 1 := ⟨xw_t7 218 (by decide +kernel) rfl, xw_t1 14 (by decide +kernel) rfl, by decide +kernel, by decide⟩
theorem lk_L_79 : xLV RL 79 yX12_perform cX12_perform 4 (some .int) 1 12 := ⟨mt_X12_perform, xw_t7 215 (by decide +kernel) rfl, xw_t7 216 (by decide +kernel) rfl, xw_t7 217 (by decide +kernel) rfl, rfl, by decide⟩
theorem mt_X11_day : xMT yX11_day cX11_day 5 (some .int) 2 := ⟨xw_t4 221 (by decide +kernel) rfl, xw_t1 1 (by decide +kernel) rfl, by decide +kernel, by decide⟩
theorem lk_L_80 : xLV RL 80 yX11_day cX11_day 5 (some .int) 2 11 := ⟨mt_X11_day, xw_t4 218 (by decide +kernel) rfl, xw_t4 219 (by decide +kernel) rfl, xw_t4 220 (by decide +kernel) rfl, rfl, by decide⟩
theorem mt_X12_day : xMT yX12_day cX12_day 6 (some .int) 2 := ⟨xw_t7 222 (by decide +kernel) rfl, xw_t1 14 (by decide +kernel) rfl, by decide +kernel, by decide⟩
theorem lk_L_83 : xLV RL 83 yX12_day cX12_day 6 (some .int) 2 12 := ⟨mt_X12_day, xw_t7 219 (by decide +kernel) rfl, xw_t7 220 (by decide +kernel) rfl, xw_t7 221 (by decide +kernel) rfl, rfl, by decide⟩
theorem mt_X11_falls : xMT yX11_falls cX11_falls 3 (some .int) 1 := ⟨xw_t4 234 (by decide +kernel) rfl, xw_t1 1 (by decide +kernel) rfl, by decide +kernel, by decide⟩
theorem lk_L_84 : xLV RL 84 yX11_falls cX11_falls 3 (some .int) 1 11 := ⟨mt_X11_falls, xw_t4 231 (by decide +kernel) rfl, xw_t4 232 (by decide +kernel) rfl, xw_t4 233 (by decide +kernel) rfl, rfl, by decide⟩
theorem mt_X12_falls : xMT yX12_falls cX12_falls 2 (some .int) 1 := ⟨xw_t7 236 (by decide +kernel) rfl, xw_t1 14 (by decide +kernel) rfl, by decide +kernel, by decide⟩
theorem lk_L_87 : xLV RL 87 yX12_falls cX12_falls 2 (some .int) 1 12 := ⟨mt_X12_falls, xw_t7 233 (by decide +kernel) rfl, xw_t7 234 (by decide +kernel) rfl, xw_t7 235 (by decide +kernel) rfl, rfl, by decide⟩
theorem mt_X11_stands : xMT yX11_stands cX11_stands 2 (some .int) 1 := ⟨xw_t4 238 (by decide +kernel) rfl, xw_t1 1 (by decide +kernel) rfl, by decide +kernel, by decide⟩
theorem lk_L_88 : xLV RL 88 yX11_stands cX11_stands 2 (some .int) 1 11 := ⟨mt_X11_stands, xw_t4 235 (by decide +kernel) rfl, xw_t4 236 (by decide +kernel) rfl, xw_t4 237 (by decide +kernel) rfl, rfl, by decide⟩
theorem mt_X12_stands : xMT yX12_stands cX12_stands 2 (some .int) 1 := ⟨xw_t8 4 (by decide +kernel) rfl, xw_t1 14 (by decide +kernel) rfl, by decide +kernel, by decide⟩
theorem lk_L_91 : xLV RL 91 yX12_stands cX12_stands 2 (some .int) 1 12 := ⟨mt_X12_stands, xw_t8 1 (by decide +kernel) rfl, xw_t8 2 (by decide +kernel) rfl, xw_t8 3 (by decide +kernel) rfl, rfl, by decide⟩
theorem mt_X11_when : xMT yX11_when cX11_when 3 (some .int) 1 := ⟨xw_t5 9 (by decide +kernel) rfl, xw_t1 1 (by decide +kernel) rfl, by decide +kernel, by decide⟩
theorem lk_L_92 : xLV RL 92 yX11_when cX11_when 3 (some .int) 1 11 := ⟨mt_X11_when, xw_t5 6 (by decide +kernel) rfl, xw_t5 7 (by decide +kernel) rfl, xw_t5 8 (by decide +kernel) rfl, rfl, by decide⟩
theorem mt_X12_when : xMT yX12_when cX12_when 2 (some .int) 1 := ⟨xw_t8 13 (by decide +kernel) rfl, xw_t1 14 (by decide +kernel) rfl, by decide +kernel, by decide⟩
theorem lk_L_95 : xLV RL 95 yX12_when cX12_when 2 (some .int) 1 12 := ⟨mt_X12_when, xw_t8 10 (by decide +kernel) rfl, xw_t8 11 (by decide +kernel) rfl, xw_t8 12 (by decide +kernel) rfl, rfl, by decide⟩
theorem mt_X11_worn : xMT yX11_worn cX11_worn 3 (some .int) 2 := ⟨xw_t5 13 (by decide +kernel) rfl, xw_t1 1 (by decide +kernel) rfl, by decide +kernel, by decide⟩
theorem lk_L_96 : xLV RL 96 yX11_worn cX11_worn 3 (some .int) 2 11 := ⟨mt_X11_worn, xw_t5 10 (by decide +kernel) rfl, xw_t5 11 (by decide +kernel) rfl, xw_t5 12 (by decide +kernel) rfl, rfl, by decide⟩
theorem mt_X12_worn : xMT yX12_worn cX12_worn 3 (some .int) 2 := ⟨xw_t8 21 (by decide +kernel) rfl, xw_t1 14 (by decide +kernel) rfl, by decide +kernel, by decide⟩
theorem lk_L_99 : xLV RL 99 yX12_worn cX12_worn 3 (some .int) 2 12 := ⟨mt_X12_worn, xw_t8 18 (by decide +kernel) rfl, xw_t8 19 (by decide +kernel) rfl, xw_t8 20 (by decide +kernel) rfl, rfl, by decide⟩
theorem mt_X11_last : xMT yX11_last cX11_last 3 (some .int) 0 := ⟨xw_t5 17 (by decide +kernel) rfl, xw_t1 1 (by decide +kernel) rfl, by decide +kernel, by decide⟩
theorem lk_L_100 : xLV RL 100 yX11_last cX11_last 3 (some .int) 0 11 := ⟨mt_X11_last, xw_t5 14 (by decide +kernel) rfl, xw_t5 15 (by decide +kernel) rfl, xw_t5 16 (by decide +kernel) rfl, rfl, by decide⟩
theorem mt_X12_last : xMT yX12_last cX12_last 5 (some .int) 0 := ⟨xw_t8 25 (by decide +kernel) rfl, xw_t1 14 (by decide +kernel) rfl, by decide +kernel, by decide⟩
theorem lk_L_104 : xLV RL 104 yX12_last cX12_last 5 (some .int) 0 12 := ⟨mt_X12_last, xw_t8 22 (by decide +kernel) rfl, xw_t8 23 (by decide +kernel) rfl, xw_t8 24 (by decide +kernel) rfl, rfl, by decide⟩
theorem mt_X11_owner : xMT yX11_owner cX11_owner 6 (some .int) 1 := ⟨xw_t5 21 (by decide +kernel) rfl, xw_t1 1 (by decide +kernel) rfl, by decide +kernel, by decide⟩
theorem lk_L_105 : xLV RL 105 yX11_owner cX11_owner 6 (some .int) 1 11 := ⟨mt_X11_owner, xw_t5 18 (by decide +kernel) rfl, xw_t5 19 (by decide +kernel) rfl, xw_t5 20 (by decide +kernel) rfl, rfl, by decide⟩
theorem mt_X12_owner : xMT yX12_owner cX12_owner 7 (some .int) 1 := ⟨xw_t8 30 (by decide +kernel) rfl, xw_t1 14 (by decide +kernel) rfl, by decide +kernel, by decide⟩
theorem lk_L_108 : xLV RL 108 yX12_owner cX12_owner 7 (some .int) 1 12 := ⟨mt_X12_owner, xw_t8 27 (by decide +kernel) rfl, xw_t8 28 (by decide +kernel) rfl, xw_t8 29 (by decide +kernel) rfl, rfl, by decide⟩
theorem mt_X11_least : xMT yX11_least cX11_least 3 (some .int) 2 := ⟨xw_t5 29 (by decide +kernel) rfl, xw_t1 1 (by decide +kernel) rfl, by decide +kernel, by decide⟩
theorem lk_L_109 : xLV RL 109 yX11_least cX11_least 3 (some .int) 2 11 := ⟨mt_X11_least, xw_t5 26 (by decide +kernel) rfl, xw_t5 27 (by decide +kernel) rfl, xw_t5 28 (by decide +kernel) rfl, rfl, by decide⟩
theorem mt_X12_least : xMT yX12_least cX12_least 3 (some .int) 2 := ⟨xw_t8 34 (by decide +kernel) rfl, xw_t1 14 (by decide +kernel) rfl, by decide +kernel, by decide⟩
theorem lk_L_112 : xLV RL 112 yX12_least cX12_least 3 (some .int) 2 12 := ⟨mt_X12_least, xw_t8 31 (by decide +kernel) rfl, xw_t8 32 (by decide +kernel) rfl, xw_t8 33 (by decide +kernel) rfl, rfl, by decide⟩
theorem mt_X11_safe : xMT yX11_safe cX11_safe 4 (some .int) 1 := ⟨xw_t5 61 (by decide +kernel) rfl, xw_t1 1 (by decide +kernel) rfl, by decide +kernel, by decide⟩
theorem lk_L_113 : xLV RL 113 yX11_safe cX11_safe 4 (some .int) 1 11 := ⟨mt_X11_safe, xw_t5 58 (by decide +kernel) rfl, xw_t5 59 (by decide +kernel) rfl, xw_t5 60 (by decide +kernel) rfl, rfl, by decide⟩
theorem mt_X12_safe : xMT yX12_safe cX12_safe 3 (some .int) 1 := ⟨xw_t8 50 (by decide +kernel) rfl, xw_t1 14 (by decide +kernel) rfl, by decide +kernel, by decide⟩
theorem lk_L_116 : xLV RL 116 yX12_safe cX12_safe 3 (some .int) 1 12 := ⟨mt_X12_safe, xw_t8 47 (by decide +kernel) rfl, xw_t8 48 (by decide +kernel) rfl, xw_t8 49 (by decide +kernel) rfl, rfl, by decide⟩
theorem mt_X11_worst : xMT yX11_worst cX11_worst 6 (some .int) 0 := ⟨xw_t5 65 (by decide +kernel) rfl, xw_t1 1 (by decide +kernel) rfl, by decide +kernel, by decide⟩
theorem lk_L_117 : xLV RL 117 yX11_worst cX11_worst 6 (some .int) 0 11 := ⟨mt_X11_worst, xw_t5 62 (by decide +kernel) rfl, xw_t5 63 (by decide +kernel) rfl, xw_t5 64 (by decide +kernel) rfl, rfl, by decide⟩
theorem mt_X12_worst : xMT yX12_worst cX12_worst 5 (some .int) 0 := ⟨xw_t8 54 (by decide +kernel) rfl, xw_t1 14 (by decide +kernel) rfl, by decide +kernel, by decide⟩
theorem lk_L_120 : xLV RL 120 yX12_worst cX12_worst 5 (some .int) 0 12 := ⟨mt_X12_worst, xw_t8 51 (by decide +kernel) rfl, xw_t8 52 (by decide +kernel) rfl, xw_t8 53 (by decide +kernel) rfl, rfl, by decide⟩
theorem mt_X11_plan : xMT yX11_plan cX11_plan 3 (some .int) 1 := ⟨xw_t5 69 (by decide +kernel) rfl, xw_t1 1 (by decide +kernel) rfl, by decide +kernel, by decide⟩
theorem lk_L_121 : xLV RL 121 yX11_plan cX11_plan 3 (some .int) 1 11 := ⟨mt_X11_plan, xw_t5 66 (by decide +kernel) rfl, xw_t5 67 (by decide +kernel) rfl, xw_t5 68 (by decide +kernel) rfl, rfl, by decide⟩
theorem mt_X12_plan : xMT yX12_plan cX12_plan 3 (some .int) 1 := ⟨xw_t8 58 (by decide +kernel) rfl, xw_t1 14 (by decide +kernel) rfl, by decide +kernel, by decide⟩
theorem lk_L_124 : xLV RL 124 yX12_plan cX12_plan 3 (some .int) 1 12 := ⟨mt_X12_plan, xw_t8 55 (by decide +kernel) rfl, xw_t8 56 (by decide +kernel) rfl, xw_t8 57 (by decide +kernel) rfl, rfl, by decide⟩
theorem mt_X11_order : xMT yX11_order cX11_order 2 (some .int) 1 := ⟨xw_t5 94 (by decide +kernel) rfl, xw_t1 1 (by decide +kernel) rfl, by decide +kernel, by decide⟩
theorem lk_L_125 : xLV RL 125 yX11_order cX11_order 2 (some .int) 1 11 := ⟨mt_X11_order, xw_t5 91 (by decide +kernel) rfl, xw_t5 92 (by decide +kernel) rfl, xw_t5 93 (by decide +kernel) rfl, rfl, by decide⟩
theorem mt_X12_order : xMT yX12_order cX12_order 6 (some .int) 1 := ⟨xw_t8 78 (by decide +kernel) rfl, xw_t1 14 (by decide +kernel) rfl, by decide +kernel, by decide⟩
theorem lk_L_128 : xLV RL 128 yX12_order cX12_order 6 (some .int) 1 12 := ⟨mt_X12_order, xw_t8 75 (by decide +kernel) rfl, xw_t8 76 (by decide +kernel) rfl, xw_t8 77 (by decide +kernel) rfl, rfl, by decide⟩
theorem mt_X11_colours : xMT yX11_colours cX11_colours 3 (some .int) 1 := ⟨xw_t5 106 (by decide +kernel) rfl, xw_t1 1 (by decide +kernel) rfl, by decide +kernel, by decide⟩
theorem lk_L_129 : xLV RL 129 yX11_colours cX11_colours 3 (some .int) 1 11 := ⟨mt_X11_colours, xw_t5 103 (by decide +kernel) rfl, xw_t5 104 (by decide +kernel) rfl, xw_t5 105 (by decide +kernel) rfl, rfl, by decide⟩
theorem mt_X12_colours : xMT yX12_colours cX12_colours 3 (some .int) 1 := ⟨xw_t8 82 (by decide +kernel) rfl, xw_t1 14 (by decide +kernel) rfl, by decide +kernel, by decide⟩
theorem lk_L_132 : xLV RL 132 yX12_colours cX12_colours 3 (some .int) 1 12 := ⟨mt_X12_colours, xw_t8 79 (by decide +kernel) rfl, xw_t8 80 (by decide +kernel) rfl, xw_t8 81 (by decide +kernel) rfl, rfl, by decide⟩
theorem mt_X11_clique : xMT yX11_clique cX11_clique 3 (some .int) 1 := ⟨xw_t5 122 (by decide +kernel) rfl, xw_t1 1 (by decide +kernel) rfl, by decide +kernel, by decide⟩
theorem lk_L_133 : xLV RL 133 yX11_clique cX11_clique 3 (some .int) 1 11 := ⟨mt_X11_clique, xw_t5 119 (by decide +kernel) rfl, xw_t5 120 (by decide +kernel) rfl, xw_t5 121 (by decide +kernel) rfl, rfl, by decide⟩
theorem mt_X12_clique : xMT yX12_clique cX12_clique 4 (some .int) 1 := ⟨xw_t8 101 (by decide +kernel) rfl, xw_t1 14 (by decide +kernel) rfl, by decide +kernel, by decide⟩
theorem lk_L_136 : xLV RL 136 yX12_clique cX12_clique 4 (some .int) 1 12 := ⟨mt_X12_clique, xw_t8 98 (by decide +kernel) rfl, xw_t8 99 (by decide +kernel) rfl, xw_t8 100 (by decide +kernel) rfl, rfl, by decide⟩
theorem mt_X11_papers : xMT yX11_papers cX11_papers 4 (some .int) 1 := ⟨xw_t5 133 (by decide +kernel) rfl, xw_t1 1 (by decide +kernel) rfl, by decide +kernel, by decide⟩
theorem lk_L_137 : xLV RL 137 yX11_papers cX11_papers 4 (some .int) 1 11 := ⟨mt_X11_papers, xw_t5 130 (by decide +kernel) rfl, xw_t5 131 (by decide +kernel) rfl, xw_t5 132 (by decide +kernel) rfl, rfl, by decide⟩
theorem mt_X12_papers : xMT yX12_papers cX12_papers 4 (some .int) 1 := ⟨xw_t8 109 (by decide +kernel) rfl, xw_t1 14 (by decide +kernel) rfl, by decide +kernel, by decide⟩
theorem lk_L_140 : xLV RL 140 yX12_papers cX12_papers 4 (some .int) 1 12 := ⟨mt_X12_papers, xw_t8 106 (by decide +kernel) rfl, xw_t8 107 (by decide +kernel) rfl, xw_t8 108 (by decide +kernel) rfl, rfl, by decide⟩
theorem mt_X11_balance : xMT yX11_balance cX11_balance 2 (some .int) 1 := ⟨xw_t5 137 (by decide +kernel) rfl, xw_t1 1 (by decide +kernel) rfl, by decide +kernel, by decide⟩
theorem lk_L_141 : xLV RL 141 yX11_balance cX11_balance 2 (some .int) 1 11 := ⟨mt_X11_balance, xw_t5 134 (by decide +kernel) rfl, xw_t5 135 (by decide +kernel) rfl, xw_t5 136 (by decide +kernel) rfl, rfl, by decide⟩
theorem mt_X12_balance : xMT yX12_balance cX12_balance 2 (some .int) 1 := ⟨xw_t8 113 (by decide +kernel) rfl, xw_t1 14 (by decide +kernel) rfl, by decide +kernel, by decide⟩
theorem lk_L_144 : xLV RL 144 yX12_balance cX12_balance 2 (some .int) 1 12 := ⟨mt_X12_balance, xw_t8 110 (by decide +kernel) rfl, xw_t8 111 (by decide +kernel) rfl, xw_t8 112 (by decide +kernel) rfl, rfl, by decide⟩
theorem mt_X11_payments : xMT yX11_payments cX11_payments 1 (some .int) 0 := ⟨xw_t5 142 (by decide +kernel) rfl, xw_t1 1 (by decide +kernel) rfl, by decide +kernel, by decide⟩
theorem lk_L_145 : xLV RL 145 yX11_payments cX11_payments 1 (some .int) 0 11 := ⟨mt_X11_payments, xw_t5 139 (by decide +kernel) rfl, xw_t5 140 (by decide +kernel) rfl, xw_t5 141 (by decide +kernel) rfl, rfl, by decide⟩
theorem mt_X12_payments : xMT yX12_payments cX12_payments 3 (some .int) 0 := ⟨xw_t8 122 (by decide +kernel) rfl, xw_t1 14 (by decide +kernel) rfl, by decide +kernel, by decide⟩
theorem lk_L_148 : xLV RL 148 yX12_payments cX12_payments 3 (some .int) 0 12 := ⟨mt_X12_payments, xw_t8 119 (by decide +kernel) rfl, xw_t8 120 (by decide +kernel) rfl, xw_t8 121 (by decide +kernel) rfl, rfl, by decide⟩
theorem mt_X11_moons : xMT yX11_moons cX11_moons 3 (some .int) 1 := ⟨xw_t5 158 (by decide +kernel) rfl, xw_t1 1 (by decide +kernel) rfl, by decide +kernel, by decide⟩
theorem lk_L_149 : xLV RL 149 yX11_moons cX11_moons 3 (some .int) 1 11 := ⟨mt_X11_moons, xw_t5 155 (by decide +kernel) rfl, xw_t5 156 (by decide +kernel) rfl, xw_t5 157 (by decide +kernel) rfl, rfl, by decide⟩
theorem mt_X12_moons : xMT yX12_moons cX12_moons 3 (some .int) 1 := ⟨xw_t8 130 (by decide +kernel) rfl, xw_t1 14 (by decide +kernel) rfl, by decide +kernel, by decide⟩
theorem lk_L_152 : xLV RL 152 yX12_moons cX12_moons 3 (some .int) 1 12 := ⟨mt_X12_moons, xw_t8 127 (by decide +kernel) rfl, xw_t8 128 (by decide +kernel) rfl, xw_t8 129 (by decide +kernel) rfl, rfl, by decide⟩
theorem mt_X11_look : xMT yX11_look cX11_look 8 (some .int) 1 := ⟨xw_t5 171 (by decide +kernel) rfl, xw_t1 1 (by decide +kernel) rfl, by decide +kernel, by decide⟩
theorem lk_L_153 : xLV RL 153 yX11_look cX11_look 8 (some .int) 1 11 := ⟨mt_X11_look, xw_t5 168 (by decide +kernel) rfl, xw_t5 169 (by decide +kernel) rfl, xw_t5 170 (by decide +kernel) rfl, rfl, by decide⟩
theorem mt_X12_look : xMT yX12_look cX12_look 8 (some .int) 1 := ⟨xw_t8 144 (by decide +kernel) rfl, xw_t1 14 (by decide +kernel) rfl, by decide +kernel, by decide⟩
theorem lk_L_156 : xLV RL 156 yX12_look cX12_look 8 (some .int) 1 12 := ⟨mt_X12_look, xw_t8 141 (by decide +kernel) rfl, xw_t8 142 (by decide +kernel) rfl, xw_t8 143 (by decide +kernel) rfl, rfl, by decide⟩
theorem mt_X11_puts : xMT yX11_puts cX11_puts 4 (some .int) 1 := ⟨xw_t5 180 (by decide +kernel) rfl, xw_t1 1 (by decide +kernel) rfl, by decide +kernel, by decide⟩
theorem lk_L_157 : xLV RL 157 yX11_puts cX11_puts 4 (some .int) 1 11 := ⟨mt_X11_puts, xw_t5 177 (by decide +kernel) rfl, xw_t5 178 (by decide +kernel) rfl, xw_t5 179 (by decide +kernel) rfl, rfl, by decide⟩
theorem mt_X12_puts : xMT yX12_puts cX12_puts 4 (some .int) 1 := ⟨xw_t8 152 (by decide +kernel) rfl, xw_t1 14 (by decide +kernel) rfl, by decide +kernel, by decide⟩
theorem lk_L_160 : xLV RL 160 yX12_puts cX12_puts 4 (some .int) 1 12 := ⟨mt_X12_puts, xw_t8 149 (by decide +kernel) rfl, xw_t8 150 (by decide +kernel) rfl, xw_t8 151 (by decide +kernel) rfl, rfl, by decide⟩
theorem mt_X11_wins : xMT yX11_wins cX11_wins 3 (some .int) 0 := ⟨xw_t5 189 (by decide +kernel) rfl, xw_t1 1 (by decide +kernel) rfl, by decide +kernel, by decide⟩
theorem lk_L_161 : xLV RL 161 yX11_wins cX11_wins 3 (some .int) 0 11 := ⟨mt_X11_wins, xw_t5 186 (by decide +kernel) rfl, xw_t5 187 (by decide +kernel) rfl, xw_t5 188 (by decide +kernel) rfl, rfl, by decide⟩
theorem mt_X12_wins : xMT yX12_wins cX12_wins 3 (some .int) 0 := ⟨xw_t8 167 (by decide +kernel) rfl, xw_t1 14 (by decide +kernel) rfl, by decide +kernel, by decide⟩
theorem lk_L_164 : xLV RL 164 yX12_wins cX12_wins 3 (some .int) 0 12 := ⟨mt_X12_wins, xw_t8 164 (by decide +kernel) rfl, xw_t8 165 (by decide +kernel) rfl, xw_t8 166 (by decide +kernel) rfl, rfl, by decide⟩
theorem mt_X11_chance : xMT yX11_chance cX11_chance 4 (some .int) 3 := ⟨xw_t5 193 (by decide +kernel) rfl, xw_t1 1 (by decide +kernel) rfl, by decide +kernel, by decide⟩
theorem lk_L_165 : xLV RL 165 yX11_chance cX11_chance 4 (some .int) 3 11 := ⟨mt_X11_chance, xw_t5 190 (by decide +kernel) rfl, xw_t5 191 (by decide +kernel) rfl, xw_t5 192 (by decide +kernel) rfl, rfl, by decide⟩
theorem mt_X12_chance : xMT yX12_chance cX12_chance 4 (some .int) 3 := ⟨xw_t8 171 (by decide +kernel) rfl, xw_t1 14 (by decide +kernel) rfl, by decide +kernel, by decide⟩
theorem lk_L_169 : xLV RL 169 yX12_chance cX12_chance 4 (some .int) 3 12 := ⟨mt_X12_chance, xw_t8 168 (by decide +kernel) rfl, xw_t8 169 (by decide +kernel) rfl, xw_t8 170 (by decide +kernel) rfl, rfl, by decide⟩
theorem mt_X11_mean : xMT yX11_mean cX11_mean 6 (some .int) 2 := ⟨xw_t5 220 (by decide +kernel) rfl, xw_t1 1 (by decide +kernel) rfl, by decide +kernel, by decide⟩
theorem lk_L_170 : xLV RL 170 yX11_mean cX11_mean 6 (some .int) 2 11 := ⟨mt_X11_mean, xw_t5 217 (by decide +kernel) rfl, xw_t5 218 (by decide +kernel) rfl, xw_t5 219 (by decide +kernel) rfl, rfl, by decide⟩
theorem mt_X12_mean : xMT yX12_mean cX12_mean 6 (some .int) 2 := ⟨xw_t8 192 (by decide +kernel) rfl, xw_t1 14 (by decide +kernel) rfl, by decide +kernel, by decide⟩
theorem lk_L_173 : xLV RL 173 yX12_mean cX12_mean 6 (some .int) 2 12 := ⟨mt_X12_mean, xw_t8 189 (by decide +kernel) rfl, xw_t8 190 (by decide +kernel) rfl, xw_t8 191 (by decide +kernel) rfl, rfl, by decide⟩
theorem mt_X11_numbers : xMT yX11_numbers cX11_numbers 4 (some .int) 3 := ⟨xw_t5 224 (by decide +kernel) rfl, xw_t1 1 (by decide +kernel) rfl, by decide +kernel, by decide⟩
theorem lk_L_174 : xLV RL 174 yX11_numbers cX11_numbers 4 (some .int) 3 11 := ⟨mt_X11_numbers, xw_t5 221 (by decide +kernel) rfl, xw_t5 222 (by decide +kernel) rfl, xw_t5 223 (by decide +kernel) rfl, rfl, by decide⟩
theorem mt_X12_numbers : xMT yX12_numbers cX12_numbers 5 (some .int) 3 := ⟨xw_t8 196 (by decide +kernel) rfl, xw_t1 14 (by decide +kernel) rfl, by decide +kernel, by decide⟩
theorem lk_L_177 : xLV RL 177 yX12_numbers cX12_numbers 5 (some .int) 3 12 := ⟨mt_X12_numbers, xw_t8 193 (by decide +kernel) rfl, xw_t8 194 (by decide +kernel) rfl, xw_t8 195 (by decide +kernel) rfl, rfl, by decide⟩
theorem mt_X11_write : xMT yX11_write cX11_write 6 (some .long) 3 := ⟨xw_t5 233 (by decide +kernel) rfl, xw_t1 1 (by decide +kernel) rfl, by decide +kernel, by decide⟩
theorem lk_L_180 : xLV RL 180 yX11_write cX11_write 6 (some .long) 3 11 := ⟨mt_X11_write, xw_t5 230 (by decide +kernel) rfl, xw_t5 231 (by decide +kernel) rfl, xw_t5 232 (by decide +kernel) rfl, rfl, by decide⟩
theorem mt_X12_write : xMT yX12_write cX12_write 6 (some .long) 3 := ⟨xw_t8 200 (by decide +kernel) rfl, xw_t1 14 (by decide +kernel) rfl, by decide +kernel, by decide⟩
theorem lk_L_184 : xLV RL 184 yX12_write cX12_write 6 (some .long) 3 12 := ⟨mt_X12_write, xw_t8 197 (by decide +kernel) rfl, xw_t8 198 (by decide +kernel) rfl, xw_t8 199 (by decide +kernel) rfl, rfl, by decide⟩
theorem mt_X11_lists : xMT yX11_lists cX11_lists 5 (some .int) 1 := ⟨xw_t6 3 (by decide +kernel) rfl, xw_t1 1 (by decide +kernel) rfl, by decide +kernel, by decide⟩
theorem lk_L_185 : xLV RL 185 yX11_lists cX11_lists 5 (some .int) 1 11 := ⟨mt_X11_lists, xw_t6 0 (by decide +kernel) rfl, xw_t6 1 (by decide +kernel) rfl, xw_t6 2 (by decide +kernel) rfl, rfl, by decide⟩
theorem mt_X12_lists : xMT yX12_lists cX12_lists 5 (some .int) 1 := ⟨xw_t8 208 (by decide +kernel) rfl, xw_t1 14 (by decide +kernel) rfl, by decide +kernel, by decide⟩
theorem lk_L_188 : xLV RL 188 yX12_lists cX12_lists 5 (some .int) 1 12 := ⟨mt_X12_lists, xw_t8 205 (by decide +kernel) rfl, xw_t8 206 (by decide +kernel) rfl, xw_t8 207 (by decide +kernel) rfl, rfl, by decide⟩
theorem mt_X11_image : xMT yX11_image cX11_image 2 (some .int) 1 := ⟨xw_t6 8 (by decide +kernel) rfl, xw_t1 1 (by decide +kernel) rfl, by decide +kernel, by decide⟩
theorem lk_L_189 : xLV RL 189 yX11_image cX11_image 2 (some .int) 1 11 := ⟨mt_X11_image, xw_t6 5 (by decide +kernel) rfl, xw_t6 6 (by decide +kernel) rfl, xw_t6 7 (by decide +kernel) rfl, rfl, by decide⟩
theorem mt_X12_image : xMT yX12_image cX12_image 3 (some .int) 1 := ⟨xw_t8 212 (by decide +kernel) rfl, xw_t1 14 (by decide +kernel) rfl, by decide +kernel, by decide⟩
theorem lk_L_192 : xLV RL 192 yX12_image cX12_image 3 (some .int) 1 12 := ⟨mt_X12_image, xw_t8 209 (by decide +kernel) rfl, xw_t8 210 (by decide +kernel) rfl, xw_t8 211 (by decide +kernel) rfl, rfl, by decide⟩
theorem mt_X11_restore : xMT yX11_restore cX11_restore 2 (some .int) 1 := ⟨xw_t6 15 (by decide +kernel) rfl, xw_t1 1 (by decide +kernel) rfl, by decide +kernel, by decide⟩
theorem lk_L_193 : xLV RL 193 yX11_restore cX11_restore 2 (some .int) 1 11 := ⟨mt_X11_restore, xw_t6 12 (by decide +kernel) rfl, xw_t6 13 (by decide +kernel) rfl, xw_t6 14 (by decide +kernel) rfl, rfl, by decide⟩
theorem mt_X12_restore : xMT yX12_restore cX12_restore 3 (some .int) 1 := ⟨xw_t8 216 (by decide +kernel) rfl, xw_t1 14 (by decide +kernel) rfl, by decide +kernel, by decide⟩
theorem lk_L_196 : xLV RL 196 yX12_restore cX12_restore 3 (some .int) 1 12 := ⟨mt_X12_restore, xw_t8 213 (by decide +kernel) rfl, xw_t8 214 (by decide +kernel) rfl, xw_t8 215 (by decide +kernel) rfl, rfl, by decide⟩
theorem mt_X11_count : xMT yX11_count cX11_count 2 (some .int) 1 := ⟨xw_t6 19 (by decide +kernel) rfl, xw_t1 1 (by decide +kernel) rfl, by decide +kernel, by decide⟩
theorem lk_L_197 : xLV RL 197 yX11_count cX11_count 2 (some .int) 1 11 := ⟨mt_X11_count, xw_t6 16 (by decide +kernel) rfl, xw_t6 17 (by decide +kernel) rfl, xw_t6 18 (by decide +kernel) rfl, rfl, by decide⟩
theorem mt_X12_count : xMT yX12_count cX12_count 2 (some .int) 1 := ⟨xw_t8 220 (by decide +kernel) rfl, xw_t1 14 (by decide +kernel) rfl, by decide +kernel, by decide⟩
theorem lk_L_200 : xLV RL 200 yX12_count cX12_count 2 (some .int) 1 12 := ⟨mt_X12_count, xw_t8 217 (by decide +kernel) rfl, xw_t8 218 (by decide +kernel) rfl, xw_t8 219 (by decide +kernel) rfl, rfl, by decide⟩
theorem lo_X12_7 : Cond.methodLink RX12 7 objectInit ∈ xw ∧ Cond.instanceMethod objectInit ∈ xw ∧ Cond.code objectInit ⟨#[0xb1]⟩ 1 none ∈ xw := ⟨xw_t6 25 (by decide +kernel) rfl, xw_t1 29 (by decide +kernel) rfl, xw_t1 30 (by decide +kernel) rfl⟩
theorem mt_X12_plain : xMT yX12_plain cX12_plain 2 none 1 := ⟨xw_t6 28 (by decide +kernel) rfl, xw_t1 14 (by decide +kernel) rfl, by decide +kernel, by decide⟩
theorem lk_X12_79 : xLS RX12 79 yX12_plain cX12_plain 2 none 1 := ⟨mt_X12_plain, xw_t6 26 (by decide +kernel) rfl, xw_t6 27 (by decide +kernel) rfl⟩
theorem lk_X12_91 : xLT RX12 91 yJ0_length_8abf5 cJ0_length_8abf5 1 (some .int) 0 := ⟨mt_J0_length_8abf5, xw_t6 166 (by decide +kernel) rfl, xw_t2 239 (by decide +kernel) rfl, xw_t3 0 (by decide +kernel) rfl, rfl⟩
theorem lk_X12_97 : xLT RX12 97 yJ0_charAt_5068e cJ0_charAt_5068e 2 (some .char) 1 := ⟨mt_J0_charAt_5068e, xw_t6 167 (by decide +kernel) rfl, xw_t3 81 (by decide +kernel) rfl, xw_t3 82 (by decide +kernel) rfl, rfl⟩
theorem mt_X12_see : xMT yX12_see cX12_see 2 (some .int) 1 := ⟨xw_t6 157 (by decide +kernel) rfl, xw_t1 14 (by decide +kernel) rfl, by decide +kernel, by decide⟩
theorem lk_X12_107 : xLV RX12 107 yX12_see cX12_see 2 (some .int) 1 12 := ⟨mt_X12_see, xw_t6 154 (by decide +kernel) rfl, xw_t6 156 (by decide +kernel) rfl, xw_p4 12 (by decide +kernel), rfl, by decide⟩
theorem mt_X12_isSmall : xMT yX12_isSmall cX12_isSmall 1 (some .boolean) 1 := ⟨xw_t6 160 (by decide +kernel) rfl, xw_t1 14 (by decide +kernel) rfl, by decide +kernel, by decide⟩
theorem lk_X12_114 : xLS RX12 114 yX12_isSmall cX12_isSmall 1 (some .boolean) 1 := ⟨mt_X12_isSmall, xw_t6 158 (by decide +kernel) rfl, xw_t6 159 (by decide +kernel) rfl⟩
theorem mt_X12_keyAt : xMT yX12_keyAt cX12_keyAt 4 (some .int) 0 := ⟨xw_t6 164 (by decide +kernel) rfl, xw_t1 14 (by decide +kernel) rfl, by decide +kernel, by decide⟩
theorem lk_X12_118 : xLV RX12 118 yX12_keyAt cX12_keyAt 4 (some .int) 0 12 := ⟨mt_X12_keyAt, xw_t6 161 (by decide +kernel) rfl, xw_t6 163 (by decide +kernel) rfl, xw_p4 13 (by decide +kernel), rfl, by decide⟩
theorem mt_X12_isDigit : xMT yX12_isDigit cX12_isDigit 1 (some .boolean) 1 := ⟨xw_t6 170 (by decide +kernel) rfl, xw_t1 14 (by decide +kernel) rfl, by decide +kernel, by decide⟩
theorem lk_X12_121 : xLS RX12 121 yX12_isDigit cX12_isDigit 1 (some .boolean) 1 := ⟨mt_X12_isDigit, xw_t6 168 (by decide +kernel) rfl, xw_t6 169 (by decide +kernel) rfl⟩
theorem mt_X12_is : xMT yX12_is cX12_is 2 (some .boolean) 1 := ⟨xw_t6 179 (by decide +kernel) rfl, xw_t1 14 (by decide +kernel) rfl, by decide +kernel, by decide⟩
theorem lk_X12_135 : xLV RX12 135 yX12_is cX12_is 2 (some .boolean) 1 12 := ⟨mt_X12_is, xw_t6 176 (by decide +kernel) rfl, xw_t6 178 (by decide +kernel) rfl, xw_p4 15 (by decide +kernel), rfl, by decide⟩
theorem mt_X12_next : xMT yX12_next cX12_next 2 none 0 := ⟨xw_t6 153 (by decide +kernel) rfl, xw_t1 14 (by decide +kernel) rfl, by decide +kernel, by decide⟩
theorem lk_X12_138 : xLV RX12 138 yX12_next cX12_next 2 none 0 12 := ⟨mt_X12_next, xw_t6 150 (by decide +kernel) rfl, xw_t6 152 (by decide +kernel) rfl, xw_p4 11 (by decide +kernel), rfl, by decide⟩
theorem mt_X12_fails : xMT yX12_fails cX12_fails 2 none 1 := ⟨xw_t6 183 (by decide +kernel) rfl, xw_t1 14 (by decide +kernel) rfl, by decide +kernel, by decide⟩
theorem lk_X12_141 : xLV RX12 141 yX12_fails cX12_fails 2 none 1 12 := ⟨mt_X12_fails, xw_t6 180 (by decide +kernel) rfl, xw_t6 182 (by decide +kernel) rfl, xw_p5 0 (by decide +kernel), rfl, by decide⟩
theorem mt_X12_within : xMT yX12_within cX12_within 6 (some .boolean) 3 := ⟨xw_t6 149 (by decide +kernel) rfl, xw_t1 14 (by decide +kernel) rfl, by decide +kernel, by decide⟩
theorem lk_X12_145 : xLS RX12 145 yX12_within cX12_within 6 (some .boolean) 3 := ⟨mt_X12_within, xw_t6 147 (by decide +kernel) rfl, xw_t6 148 (by decide +kernel) rfl⟩
theorem mt_X12_codes : xMT yX12_codes cX12_codes 2 none 1 := ⟨xw_t7 11 (by decide +kernel) rfl, xw_t1 14 (by decide +kernel) rfl, by decide +kernel, by decide⟩
theorem lk_X12_152 : xLV RX12 152 yX12_codes cX12_codes 2 none 1 12 := ⟨mt_X12_codes, xw_t7 8 (by decide +kernel) rfl, xw_t7 10 (by decide +kernel) rfl, xw_p6 1 (by decide +kernel), rfl, by decide⟩
theorem mt_X12_wordOf : xMT yX12_wordOf cX12_wordOf 2 (some .int) 1 := ⟨xw_t7 15 (by decide +kernel) rfl, xw_t1 14 (by decide +kernel) rfl, by decide +kernel, by decide⟩
theorem lk_X12_155 : xLV RX12 155 yX12_wordOf cX12_wordOf 2 (some .int) 1 12 := ⟨mt_X12_wordOf, xw_t7 12 (by decide +kernel) rfl, xw_t7 14 (by decide +kernel) rfl, xw_p6 2 (by decide +kernel), rfl, by decide⟩
theorem mt_X12_goesIn : xMT yX12_goesIn cX12_goesIn 2 (some .boolean) 1 := ⟨xw_t7 19 (by decide +kernel) rfl, xw_t1 14 (by decide +kernel) rfl, by decide +kernel, by decide⟩
theorem lk_X12_158 : xLV RX12 158 yX12_goesIn cX12_goesIn 2 (some .boolean) 1 12 := ⟨mt_X12_goesIn, xw_t7 16 (by decide +kernel) rfl, xw_t7 18 (by decide +kernel) rfl, xw_p6 3 (by decide +kernel), rfl, by decide⟩
theorem mt_X12_readSum : xMT yX12_readSum cX12_readSum 3 none 1 := ⟨xw_t6 239 (by decide +kernel) rfl, xw_t1 14 (by decide +kernel) rfl, by decide +kernel, by decide⟩
theorem lk_X12_161 : xLV RX12 161 yX12_readSum cX12_readSum 3 none 1 12 := ⟨mt_X12_readSum, xw_t6 236 (by decide +kernel) rfl, xw_t6 238 (by decide +kernel) rfl, xw_p5 14 (by decide +kernel), rfl, by decide⟩
theorem mt_X12_eats : xMT yX12_eats cX12_eats 2 (some .boolean) 1 := ⟨xw_t6 175 (by decide +kernel) rfl, xw_t1 14 (by decide +kernel) rfl, by decide +kernel, by decide⟩
theorem lk_X12_164 : xLV RX12 164 yX12_eats cX12_eats 2 (some .boolean) 1 12 := ⟨mt_X12_eats, xw_t6 172 (by decide +kernel) rfl, xw_t6 174 (by decide +kernel) rfl, xw_p4 14 (by decide +kernel), rfl, by decide⟩
theorem mt_X12_readIf : xMT yX12_readIf cX12_readIf 2 none 1 := ⟨xw_t7 23 (by decide +kernel) rfl, xw_t1 14 (by decide +kernel) rfl, by decide +kernel, by decide⟩
theorem lk_X12_167 : xLV RX12 167 yX12_readIf cX12_readIf 2 none 1 12 := ⟨mt_X12_readIf, xw_t7 20 (by decide +kernel) rfl, xw_t7 22 (by decide +kernel) rfl, xw_p6 4 (by decide +kernel), rfl, by decide⟩
theorem mt_X12_readTruth : xMT yX12_readTruth cX12_readTruth 2 none 1 := ⟨xw_t7 27 (by decide +kernel) rfl, xw_t1 14 (by decide +kernel) rfl, by decide +kernel, by decide⟩
theorem lk_X12_170 : xLV RX12 170 yX12_readTruth cX12_readTruth 2 none 1 12 := ⟨mt_X12_readTruth, xw_t7 24 (by decide +kernel) rfl, xw_t7 26 (by decide +kernel) rfl, xw_p6 5 (by decide +kernel), rfl, by decide⟩
theorem mt_X12_readAtom : xMT yX12_readAtom cX12_readAtom 2 none 1 := ⟨xw_t7 7 (by decide +kernel) rfl, xw_t1 14 (by decide +kernel) rfl, by decide +kernel, by decide⟩
theorem lk_X12_173 : xLV RX12 173 yX12_readAtom cX12_readAtom 2 none 1 12 := ⟨mt_X12_readAtom, xw_t7 4 (by decide +kernel) rfl, xw_t7 6 (by decide +kernel) rfl, xw_p6 0 (by decide +kernel), rfl, by decide⟩
theorem mt_X12_readTerm : xMT yX12_readTerm cX12_readTerm 2 none 1 := ⟨xw_t7 3 (by decide +kernel) rfl, xw_t1 14 (by decide +kernel) rfl, by decide +kernel, by decide⟩
theorem lk_X12_176 : xLV RX12 176 yX12_readTerm cX12_readTerm 2 none 1 12 := ⟨mt_X12_readTerm, xw_t7 0 (by decide +kernel) rfl, xw_t7 2 (by decide +kernel) rfl, xw_p5 15 (by decide +kernel), rfl, by decide⟩
theorem mt_X12_readUnit : xMT yX12_readUnit cX12_readUnit 3 none 1 := ⟨xw_t7 35 (by decide +kernel) rfl, xw_t1 14 (by decide +kernel) rfl, by decide +kernel, by decide⟩
theorem lk_X12_179 : xLV RX12 179 yX12_readUnit cX12_readUnit 3 none 1 12 := ⟨mt_X12_readUnit, xw_t7 32 (by decide +kernel) rfl, xw_t7 34 (by decide +kernel) rfl, xw_p6 7 (by decide +kernel), rfl, by decide⟩
theorem mt_X12_readBoth : xMT yX12_readBoth cX12_readBoth 2 none 1 := ⟨xw_t7 31 (by decide +kernel) rfl, xw_t1 14 (by decide +kernel) rfl, by decide +kernel, by decide⟩
theorem lk_X12_182 : xLV RX12 182 yX12_readBoth cX12_readBoth 2 none 1 12 := ⟨mt_X12_readBoth, xw_t7 28 (by decide +kernel) rfl, xw_t7 30 (by decide +kernel) rfl, xw_p6 6 (by decide +kernel), rfl, by decide⟩
theorem mt_X12_takes : xMT yX12_takes cX12_takes 4 (some .int) 2 := ⟨xw_t6 191 (by decide +kernel) rfl, xw_t1 14 (by decide +kernel) rfl, by decide +kernel, by decide⟩
theorem lk_X12_185 : xLV RX12 185 yX12_takes cX12_takes 4 (some .int) 2 12 := ⟨mt_X12_takes, xw_t6 188 (by decide +kernel) rfl, xw_t6 190 (by decide +kernel) rfl, xw_p5 2 (by decide +kernel), rfl, by decide⟩
theorem mt_X12_cellsOf : xMT yX12_cellsOf cX12_cellsOf 2 (some .int) 1 := ⟨xw_t6 211 (by decide +kernel) rfl, xw_t1 14 (by decide +kernel) rfl, by decide +kernel, by decide⟩
theorem lk_X12_189 : xLV RX12 189 yX12_cellsOf cX12_cellsOf 2 (some .int) 1 12 := ⟨mt_X12_cellsOf, xw_t6 208 (by decide +kernel) rfl, xw_t6 210 (by decide +kernel) rfl, xw_p5 7 (by decide +kernel), rfl, by decide⟩
theorem mt_X12_takesCell : xMT yX12_takesCell cX12_takesCell 1 (some .int) 0 := ⟨xw_t6 207 (by decide +kernel) rfl, xw_t1 14 (by decide +kernel) rfl, by decide +kernel, by decide⟩
theorem lk_X12_193 : xLV RX12 193 yX12_takesCell cX12_takesCell 1 (some .int) 0 12 := ⟨mt_X12_takesCell, xw_t6 204 (by decide +kernel) rfl, xw_t6 206 (by decide +kernel) rfl, xw_p5 6 (by decide +kernel), rfl, by decide⟩
theorem mt_X12_isBuiltOn : xMT yX12_isBuiltOn cX12_isBuiltOn 3 (some .boolean) 1 := ⟨xw_t6 219 (by decide +kernel) rfl, xw_t1 14 (by decide +kernel) rfl, by decide +kernel, by decide⟩
theorem lk_X12_196 : xLV RX12 196 yX12_isBuiltOn cX12_isBuiltOn 3 (some .boolean) 1 12 := ⟨mt_X12_isBuiltOn, xw_t6 216 (by decide +kernel) rfl, xw_t6 218 (by decide +kernel) rfl, xw_p5 9 (by decide +kernel), rfl, by decide⟩
theorem mt_X12_named : xMT yX12_named cX12_named 4 (some .int) 3 := ⟨xw_t6 187 (by decide +kernel) rfl, xw_t1 14 (by decide +kernel) rfl, by decide +kernel, by decide⟩
theorem lk_X12_199 : xLV RX12 199 yX12_named cX12_named 4 (some .int) 3 12 := ⟨mt_X12_named, xw_t6 184 (by decide +kernel) rfl, xw_t6 186 (by decide +kernel) rfl, xw_p5 1 (by decide +kernel), rfl, by decide⟩
theorem mt_X12_readSand : xMT yX12_readSand cX12_readSand 3 none 0 := ⟨xw_t6 203 (by decide +kernel) rfl, xw_t1 14 (by decide +kernel) rfl, by decide +kernel, by decide⟩
theorem lk_X12_203 : xLV RX12 203 yX12_readSand cX12_readSand 3 none 0 12 := ⟨mt_X12_readSand, xw_t6 200 (by decide +kernel) rfl, xw_t6 202 (by decide +kernel) rfl, xw_p5 5 (by decide +kernel), rfl, by decide⟩
theorem mt_X12_readHouse : xMT yX12_readHouse cX12_readHouse 2 none 0 := ⟨xw_t6 215 (by decide +kernel) rfl, xw_t1 14 (by decide +kernel) rfl, by decide +kernel, by decide⟩
theorem lk_X12_206 : xLV RX12 206 yX12_readHouse cX12_readHouse 2 none 0 12 := ⟨mt_X12_readHouse, xw_t6 212 (by decide +kernel) rfl, xw_t6 214 (by decide +kernel) rfl, xw_p5 8 (by decide +kernel), rfl, by decide⟩
theorem mt_X12_readPlot : xMT yX12_readPlot cX12_readPlot 2 none 0 := ⟨xw_t6 223 (by decide +kernel) rfl, xw_t1 14 (by decide +kernel) rfl, by decide +kernel, by decide⟩
theorem lk_X12_209 : xLV RX12 209 yX12_readPlot cX12_readPlot 2 none 0 12 := ⟨mt_X12_readPlot, xw_t6 220 (by decide +kernel) rfl, xw_t6 222 (by decide +kernel) rfl, xw_p5 10 (by decide +kernel), rfl, by decide⟩
theorem mt_X12_readPaper : xMT yX12_readPaper cX12_readPaper 2 none 0 := ⟨xw_t6 227 (by decide +kernel) rfl, xw_t1 14 (by decide +kernel) rfl, by decide +kernel, by decide⟩
theorem lk_X12_212 : xLV RX12 212 yX12_readPaper cX12_readPaper 2 none 0 12 := ⟨mt_X12_readPaper, xw_t6 224 (by decide +kernel) rfl, xw_t6 226 (by decide +kernel) rfl, xw_p5 11 (by decide +kernel), rfl, by decide⟩
theorem mt_X12_readOwes : xMT yX12_readOwes cX12_readOwes 2 none 0 := ⟨xw_t6 231 (by decide +kernel) rfl, xw_t1 14 (by decide +kernel) rfl, by decide +kernel, by decide⟩
theorem lk_X12_215 : xLV RX12 215 yX12_readOwes cX12_readOwes 2 none 0 12 := ⟨mt_X12_readOwes, xw_t6 228 (by decide +kernel) rfl, xw_t6 230 (by decide +kernel) rfl, xw_p5 12 (by decide +kernel), rfl, by decide⟩
theorem mt_X12_readLaw : xMT yX12_readLaw cX12_readLaw 3 none 1 := ⟨xw_t6 235 (by decide +kernel) rfl, xw_t1 14 (by decide +kernel) rfl, by decide +kernel, by decide⟩
theorem lk_X12_218 : xLV RX12 218 yX12_readLaw cX12_readLaw 3 none 1 12 := ⟨mt_X12_readLaw, xw_t6 232 (by decide +kernel) rfl, xw_t6 234 (by decide +kernel) rfl, xw_p5 13 (by decide +kernel), rfl, by decide⟩
theorem mt_X12_closes : xMT yX12_closes cX12_closes 1 none 0 := ⟨xw_t6 195 (by decide +kernel) rfl, xw_t1 14 (by decide +kernel) rfl, by decide +kernel, by decide⟩
theorem lk_X12_221 : xLV RX12 221 yX12_closes cX12_closes 1 none 0 12 := ⟨mt_X12_closes, xw_t6 192 (by decide +kernel) rfl, xw_t6 194 (by decide +kernel) rfl, xw_p5 3 (by decide +kernel), rfl, by decide⟩
theorem mt_X12_readLine : xMT yX12_readLine cX12_readLine 1 none 0 := ⟨xw_t6 199 (by decide +kernel) rfl, xw_t1 14 (by decide +kernel) rfl, by decide +kernel, by decide⟩
theorem lk_X12_224 : xLV RX12 224 yX12_readLine cX12_readLine 1 none 0 12 := ⟨mt_X12_readLine, xw_t6 196 (by decide +kernel) rfl, xw_t6 198 (by decide +kernel) rfl, xw_p5 4 (by decide +kernel), rfl, by decide⟩
theorem mt_X12_isCell : xMT yX12_isCell cX12_isCell 3 (some .boolean) 1 := ⟨xw_t7 47 (by decide +kernel) rfl, xw_t1 14 (by decide +kernel) rfl, by decide +kernel, by decide⟩
theorem lk_X12_230 : xLV RX12 230 yX12_isCell cX12_isCell 3 (some .boolean) 1 12 := ⟨mt_X12_isCell, xw_t7 44 (by decide +kernel) rfl, xw_t7 46 (by decide +kernel) rfl, xw_p6 8 (by decide +kernel), rfl, by decide⟩
theorem mt_X12_between : xMT yX12_between cX12_between 5 (some .int) 3 := ⟨xw_t7 79 (by decide +kernel) rfl, xw_t1 14 (by decide +kernel) rfl, by decide +kernel, by decide⟩
theorem lk_X12_238 : xLS RX12 238 yX12_between cX12_between 5 (some .int) 3 := ⟨mt_X12_between, xw_t7 77 (by decide +kernel) rfl, xw_t7 78 (by decide +kernel) rfl⟩
theorem mt_X12_reckons : xMT yX12_reckons cX12_reckons 5 (some .int) 1 := ⟨xw_t7 76 (by decide +kernel) rfl, xw_t1 14 (by decide +kernel) rfl, by decide +kernel, by decide⟩
theorem lk_X12_241 : xLV RX12 241 yX12_reckons cX12_reckons 5 (some .int) 1 12 := ⟨mt_X12_reckons, xw_t7 73 (by decide +kernel) rfl, xw_t7 75 (by decide +kernel) rfl, xw_p6 11 (by decide +kernel), rfl, by decide⟩
theorem mt_X12_kept : xMT yX12_kept cX12_kept 2 (some .int) 2 := ⟨xw_t7 84 (by decide +kernel) rfl, xw_t1 14 (by decide +kernel) rfl, by decide +kernel, by decide⟩
theorem lk_X12_244 : xLS RX12 244 yX12_kept cX12_kept 2 (some .int) 2 := ⟨mt_X12_kept, xw_t7 82 (by decide +kernel) rfl, xw_t7 83 (by decide +kernel) rfl⟩
theorem mt_X12_isIn : xMT yX12_isIn cX12_isIn 3 (some .boolean) 2 := ⟨xw_t7 58 (by decide +kernel) rfl, xw_t1 14 (by decide +kernel) rfl, by decide +kernel, by decide⟩
theorem lk_X12_253 : xLS RX12 253 yX12_isIn cX12_isIn 3 (some .boolean) 2 := ⟨mt_X12_isIn, xw_t7 56 (by decide +kernel) rfl, xw_t7 57 (by decide +kernel) rfl⟩
theorem mt_X12_besides : xMT yX12_besides cX12_besides 4 (some .int) 1 := ⟨xw_t7 101 (by decide +kernel) rfl, xw_t1 14 (by decide +kernel) rfl, by decide +kernel, by decide⟩
theorem lk_X12_257 : xLV RX12 257 yX12_besides cX12_besides 4 (some .int) 1 12 := ⟨mt_X12_besides, xw_t7 98 (by decide +kernel) rfl, xw_t7 100 (by decide +kernel) rfl, xw_p6 14 (by decide +kernel), rfl, by decide⟩
theorem mt_X12_bitsOf : xMT yX12_bitsOf cX12_bitsOf 3 (some .int) 1 := ⟨xw_t7 129 (by decide +kernel) rfl, xw_t1 14 (by decide +kernel) rfl, by decide +kernel, by decide⟩
theorem lk_X12_260 : xLS RX12 260 yX12_bitsOf cX12_bitsOf 3 (some .int) 1 := ⟨mt_X12_bitsOf, xw_t7 127 (by decide +kernel) rfl, xw_t7 128 (by decide +kernel) rfl⟩
theorem mt_X12_levelOf : xMT yX12_levelOf cX12_levelOf 4 (some .int) 2 := ⟨xw_t7 72 (by decide +kernel) rfl, xw_t1 14 (by decide +kernel) rfl, by decide +kernel, by decide⟩
theorem lk_X12_263 : xLV RX12 263 yX12_levelOf cX12_levelOf 4 (some .int) 2 12 := ⟨mt_X12_levelOf, xw_t7 69 (by decide +kernel) rfl, xw_t7 71 (by decide +kernel) rfl, xw_p6 10 (by decide +kernel), rfl, by decide⟩
theorem mt_X12_wetOf : xMT yX12_wetOf cX12_wetOf 5 (some .int) 1 := ⟨xw_t7 97 (by decide +kernel) rfl, xw_t1 14 (by decide +kernel) rfl, by decide +kernel, by decide⟩
theorem lk_X12_266 : xLV RX12 266 yX12_wetOf cX12_wetOf 5 (some .int) 1 12 := ⟨mt_X12_wetOf, xw_t7 94 (by decide +kernel) rfl, xw_t7 96 (by decide +kernel) rfl, xw_p6 13 (by decide +kernel), rfl, by decide⟩
theorem mt_X12_washedTo : xMT yX12_washedTo cX12_washedTo 4 (some .int) 3 := ⟨xw_t7 126 (by decide +kernel) rfl, xw_t1 14 (by decide +kernel) rfl, by decide +kernel, by decide⟩
theorem lk_X12_269 : xLV RX12 269 yX12_washedTo cX12_washedTo 4 (some .int) 3 12 := ⟨mt_X12_washedTo, xw_t7 123 (by decide +kernel) rfl, xw_t7 125 (by decide +kernel) rfl, xw_p7 3 (by decide +kernel), rfl, by decide⟩
theorem mt_X12_begins : xMT yX12_begins cX12_begins 2 none 0 := ⟨xw_t7 93 (by decide +kernel) rfl, xw_t1 14 (by decide +kernel) rfl, by decide +kernel, by decide⟩
theorem lk_X12_272 : xLV RX12 272 yX12_begins cX12_begins 2 none 0 12 := ⟨mt_X12_begins, xw_t7 90 (by decide +kernel) rfl, xw_t7 92 (by decide +kernel) rfl, xw_p6 12 (by decide +kernel), rfl, by decide⟩
theorem mt_X12_goesOn : xMT yX12_goesOn cX12_goesOn 5 (some .int) 1 := ⟨xw_t7 122 (by decide +kernel) rfl, xw_t1 14 (by decide +kernel) rfl, by decide +kernel, by decide⟩
theorem lk_X12_275 : xLV RX12 275 yX12_goesOn cX12_goesOn 5 (some .int) 1 12 := ⟨mt_X12_goesOn, xw_t7 119 (by decide +kernel) rfl, xw_t7 121 (by decide +kernel) rfl, xw_p7 2 (by decide +kernel), rfl, by decide⟩
theorem mt_X12_isHouse : xMT yX12_isHouse cX12_isHouse 3 (some .boolean) 1 := ⟨xw_t7 55 (by decide +kernel) rfl, xw_t1 14 (by decide +kernel) rfl, by decide +kernel, by decide⟩
theorem lk_X12_278 : xLV RX12 278 yX12_isHouse cX12_isHouse 3 (some .boolean) 1 12 := ⟨mt_X12_isHouse, xw_t7 52 (by decide +kernel) rfl, xw_t7 54 (by decide +kernel) rfl, xw_p6 9 (by decide +kernel), rfl, by decide⟩
theorem mt_X12_goesOnFor : xMT yX12_goesOnFor cX12_goesOnFor 3 none 1 := ⟨xw_t7 118 (by decide +kernel) rfl, xw_t1 14 (by decide +kernel) rfl, by decide +kernel, by decide⟩
theorem lk_X12_287 : xLV RX12 287 yX12_goesOnFor cX12_goesOnFor 3 none 1 12 := ⟨mt_X12_goesOnFor, xw_t7 115 (by decide +kernel) rfl, xw_t7 117 (by decide +kernel) rfl, xw_p7 1 (by decide +kernel), rfl, by decide⟩
theorem mt_X12_stores : xMT yX12_stores cX12_stores 2 none 0 := ⟨xw_t7 110 (by decide +kernel) rfl, xw_t1 14 (by decide +kernel) rfl, by decide +kernel, by decide⟩
theorem lk_X12_292 : xLV RX12 292 yX12_stores cX12_stores 2 none 0 12 := ⟨mt_X12_stores, xw_t7 107 (by decide +kernel) rfl, xw_t7 109 (by decide +kernel) rfl, xw_p6 15 (by decide +kernel), rfl, by decide⟩
theorem mt_X12_goesMinutes : xMT yX12_goesMinutes cX12_goesMinutes 3 none 1 := ⟨xw_t7 114 (by decide +kernel) rfl, xw_t1 14 (by decide +kernel) rfl, by decide +kernel, by decide⟩
theorem lk_X12_295 : xLV RX12 295 yX12_goesMinutes cX12_goesMinutes 3 none 1 12 := ⟨mt_X12_goesMinutes, xw_t7 111 (by decide +kernel) rfl, xw_t7 113 (by decide +kernel) rfl, xw_p7 0 (by decide +kernel), rfl, by decide⟩
theorem mt_X12_notes : xMT yX12_notes cX12_notes 2 none 0 := ⟨xw_t7 133 (by decide +kernel) rfl, xw_t1 14 (by decide +kernel) rfl, by decide +kernel, by decide⟩
theorem lk_X12_298 : xLV RX12 298 yX12_notes cX12_notes 2 none 0 12 := ⟨mt_X12_notes, xw_t7 130 (by decide +kernel) rfl, xw_t7 132 (by decide +kernel) rfl, xw_p7 4 (by decide +kernel), rfl, by decide⟩
theorem mt_X12_standing : xMT yX12_standing cX12_standing 1 (some .int) 0 := ⟨xw_t7 137 (by decide +kernel) rfl, xw_t1 14 (by decide +kernel) rfl, by decide +kernel, by decide⟩
theorem lk_X12_301 : xLV RX12 301 yX12_standing cX12_standing 1 (some .int) 0 12 := ⟨mt_X12_standing, xw_t7 134 (by decide +kernel) rfl, xw_t7 136 (by decide +kernel) rfl, xw_p7 5 (by decide +kernel), rfl, by decide⟩
theorem mt_X12_whySand : xMT yX12_whySand cX12_whySand 4 (some .int) 2 := ⟨xw_t7 149 (by decide +kernel) rfl, xw_t1 14 (by decide +kernel) rfl, by decide +kernel, by decide⟩
theorem lk_X12_304 : xLV RX12 304 yX12_whySand cX12_whySand 4 (some .int) 2 12 := ⟨mt_X12_whySand, xw_t7 146 (by decide +kernel) rfl, xw_t7 148 (by decide +kernel) rfl, xw_p7 7 (by decide +kernel), rfl, by decide⟩
theorem mt_X12_heaps : xMT yX12_heaps cX12_heaps 4 (some .int) 2 := ⟨xw_t7 145 (by decide +kernel) rfl, xw_t1 14 (by decide +kernel) rfl, by decide +kernel, by decide⟩
theorem lk_X12_308 : xLV RX12 308 yX12_heaps cX12_heaps 4 (some .int) 2 12 := ⟨mt_X12_heaps, xw_t7 142 (by decide +kernel) rfl, xw_t7 144 (by decide +kernel) rfl, xw_p7 6 (by decide +kernel), rfl, by decide⟩
theorem mt_X12_isHeld : xMT yX12_isHeld cX12_isHeld 3 (some .boolean) 1 := ⟨xw_t7 166 (by decide +kernel) rfl, xw_t1 14 (by decide +kernel) rfl, by decide +kernel, by decide⟩
theorem lk_X12_313 : xLV RX12 313 yX12_isHeld cX12_isHeld 3 (some .boolean) 1 12 := ⟨mt_X12_isHeld, xw_t7 163 (by decide +kernel) rfl, xw_t7 165 (by decide +kernel) rfl, xw_p7 9 (by decide +kernel), rfl, by decide⟩
theorem mt_X12_whyBuild : xMT yX12_whyBuild cX12_whyBuild 5 (some .int) 2 := ⟨xw_t7 161 (by decide +kernel) rfl, xw_t1 14 (by decide +kernel) rfl, by decide +kernel, by decide⟩
theorem lk_X12_316 : xLV RX12 316 yX12_whyBuild cX12_whyBuild 5 (some .int) 2 12 := ⟨mt_X12_whyBuild, xw_t7 158 (by decide +kernel) rfl, xw_t7 160 (by decide +kernel) rfl, xw_p7 8 (by decide +kernel), rfl, by decide⟩
theorem mt_X12_builds : xMT yX12_builds cX12_builds 4 none 2 := ⟨xw_t7 170 (by decide +kernel) rfl, xw_t1 14 (by decide +kernel) rfl, by decide +kernel, by decide⟩
theorem lk_X12_320 : xLV RX12 320 yX12_builds cX12_builds 4 none 2 12 := ⟨mt_X12_builds, xw_t7 167 (by decide +kernel) rfl, xw_t7 169 (by decide +kernel) rfl, xw_p7 10 (by decide +kernel), rfl, by decide⟩
theorem mt_X12_whyNot : xMT yX12_whyNot cX12_whyNot 3 (some .int) 1 := ⟨xw_t7 196 (by decide +kernel) rfl, xw_t1 14 (by decide +kernel) rfl, by decide +kernel, by decide⟩
theorem lk_X12_341 : xLV RX12 341 yX12_whyNot cX12_whyNot 3 (some .int) 1 12 := ⟨mt_X12_whyNot, xw_t7 193 (by decide +kernel) rfl, xw_t7 195 (by decide +kernel) rfl, xw_p7 13 (by decide +kernel), rfl, by decide⟩
theorem mt_X12_does : xMT yX12_does cX12_does 2 none 1 := ⟨xw_t7 206 (by decide +kernel) rfl, xw_t1 14 (by decide +kernel) rfl, by decide +kernel, by decide⟩
theorem lk_X12_345 : xLV RX12 345 yX12_does cX12_does 2 none 1 12 := ⟨mt_X12_does, xw_t7 203 (by decide +kernel) rfl, xw_t7 205 (by decide +kernel) rfl, xw_p7 14 (by decide +kernel), rfl, by decide⟩
theorem mt_X12_noTray : xMT yX12_noTray cX12_noTray 2 (some .int) 1 := ⟨xw_t7 188 (by decide +kernel) rfl, xw_t1 14 (by decide +kernel) rfl, by decide +kernel, by decide⟩
theorem lk_X12_350 : xLV RX12 350 yX12_noTray cX12_noTray 2 (some .int) 1 12 := ⟨mt_X12_noTray, xw_t7 185 (by decide +kernel) rfl, xw_t7 187 (by decide +kernel) rfl, xw_p7 11 (by decide +kernel), rfl, by decide⟩
theorem mt_X12_tells : xMT yX12_tells cX12_tells 3 (some .int) 1 := ⟨xw_t7 192 (by decide +kernel) rfl, xw_t1 14 (by decide +kernel) rfl, by decide +kernel, by decide⟩
theorem lk_X12_353 : xLV RX12 353 yX12_tells cX12_tells 3 (some .int) 1 12 := ⟨mt_X12_tells, xw_t7 189 (by decide +kernel) rfl, xw_t7 191 (by decide +kernel) rfl, xw_p7 12 (by decide +kernel), rfl, by decide⟩
theorem mt_X12_sandSum : xMT yX12_sandSum cX12_sandSum 3 (some .int) 0 := ⟨xw_t7 210 (by decide +kernel) rfl, xw_t1 14 (by decide +kernel) rfl, by decide +kernel, by decide⟩
theorem lk_X12_356 : xLV RX12 356 yX12_sandSum cX12_sandSum 3 (some .int) 0 12 := ⟨mt_X12_sandSum, xw_t7 207 (by decide +kernel) rfl, xw_t7 209 (by decide +kernel) rfl, xw_p7 15 (by decide +kernel), rfl, by decide⟩
theorem mt_X12_isAgain : xMT yX12_isAgain cX12_isAgain 2 none 0 := ⟨xw_t7 214 (by decide +kernel) rfl, xw_t1 14 (by decide +kernel) rfl, by decide +kernel, by decide⟩
theorem lk_X12_359 : xLV RX12 359 yX12_isAgain cX12_isAgain 2 none 0 12 := ⟨mt_X12_isAgain, xw_t7 211 (by decide +kernel) rfl, xw_t7 213 (by decide +kernel) rfl, xw_p8 0 (by decide +kernel), rfl, by decide⟩
theorem mt_X12_draw : xMT yX12_draw cX12_draw 2 (some .int) 1 := ⟨xw_t7 231 (by decide +kernel) rfl, xw_t1 14 (by decide +kernel) rfl, by decide +kernel, by decide⟩
theorem lk_X12_366 : xLV RX12 366 yX12_draw cX12_draw 2 (some .int) 1 12 := ⟨mt_X12_draw, xw_t7 228 (by decide +kernel) rfl, xw_t7 230 (by decide +kernel) rfl, xw_p8 2 (by decide +kernel), rfl, by decide⟩
theorem mt_X12_drawn : xMT yX12_drawn cX12_drawn 3 (some .int) 0 := ⟨xw_t7 227 (by decide +kernel) rfl, xw_t1 14 (by decide +kernel) rfl, by decide +kernel, by decide⟩
theorem lk_X12_371 : xLV RX12 371 yX12_drawn cX12_drawn 3 (some .int) 0 12 := ⟨mt_X12_drawn, xw_t7 224 (by decide +kernel) rfl, xw_t7 226 (by decide +kernel) rfl, xw_p8 1 (by decide +kernel), rfl, by decide⟩
theorem mt_X12_fallsIn : xMT yX12_fallsIn cX12_fallsIn 3 (some .int) 1 := ⟨xw_t8 0 (by decide +kernel) rfl, xw_t1 14 (by decide +kernel) rfl, by decide +kernel, by decide⟩
theorem lk_X12_374 : xLV RX12 374 yX12_fallsIn cX12_fallsIn 3 (some .int) 1 12 := ⟨mt_X12_fallsIn, xw_t7 237 (by decide +kernel) rfl, xw_t7 239 (by decide +kernel) rfl, xw_p8 3 (by decide +kernel), rfl, by decide⟩
theorem mt_X12_standingOn : xMT yX12_standingOn cX12_standingOn 1 (some .int) 0 := ⟨xw_t8 9 (by decide +kernel) rfl, xw_t1 14 (by decide +kernel) rfl, by decide +kernel, by decide⟩
theorem lk_X12_379 : xLV RX12 379 yX12_standingOn cX12_standingOn 1 (some .int) 0 12 := ⟨mt_X12_standingOn, xw_t8 6 (by decide +kernel) rfl, xw_t8 8 (by decide +kernel) rfl, xw_p8 4 (by decide +kernel), rfl, by decide⟩
theorem mt_X12_wetIn : xMT yX12_wetIn cX12_wetIn 3 (some .int) 1 := ⟨xw_t8 17 (by decide +kernel) rfl, xw_t1 14 (by decide +kernel) rfl, by decide +kernel, by decide⟩
theorem lk_X12_382 : xLV RX12 382 yX12_wetIn cX12_wetIn 3 (some .int) 1 12 := ⟨mt_X12_wetIn, xw_t8 14 (by decide +kernel) rfl, xw_t8 16 (by decide +kernel) rfl, xw_p8 5 (by decide +kernel), rfl, by decide⟩
theorem mt_X12_laysRoom : xMT yX12_laysRoom cX12_laysRoom 4 none 1 := ⟨xw_t8 42 (by decide +kernel) rfl, xw_t1 14 (by decide +kernel) rfl, by decide +kernel, by decide⟩
theorem lk_X12_386 : xLV RX12 386 yX12_laysRoom cX12_laysRoom 4 none 1 12 := ⟨mt_X12_laysRoom, xw_t8 39 (by decide +kernel) rfl, xw_t8 41 (by decide +kernel) rfl, xw_p8 7 (by decide +kernel), rfl, by decide⟩
theorem mt_X12_isCome : xMT yX12_isCome cX12_isCome 5 (some .boolean) 1 := ⟨xw_t8 46 (by decide +kernel) rfl, xw_t1 14 (by decide +kernel) rfl, by decide +kernel, by decide⟩
theorem lk_X12_389 : xLV RX12 389 yX12_isCome cX12_isCome 5 (some .boolean) 1 12 := ⟨mt_X12_isCome, xw_t8 43 (by decide +kernel) rfl, xw_t8 45 (by decide +kernel) rfl, xw_p8 8 (by decide +kernel), rfl, by decide⟩
theorem mt_X12_leastFor : xMT yX12_leastFor cX12_leastFor 7 (some .int) 2 := ⟨xw_t8 38 (by decide +kernel) rfl, xw_t1 14 (by decide +kernel) rfl, by decide +kernel, by decide⟩
theorem lk_X12_392 : xLV RX12 392 yX12_leastFor cX12_leastFor 7 (some .int) 2 12 := ⟨mt_X12_leastFor, xw_t8 35 (by decide +kernel) rfl, xw_t8 37 (by decide +kernel) rfl, xw_p8 6 (by decide +kernel), rfl, by decide⟩
theorem mt_X12_laysUntil : xMT yX12_laysUntil cX12_laysUntil 3 none 0 := ⟨xw_t8 66 (by decide +kernel) rfl, xw_t1 14 (by decide +kernel) rfl, by decide +kernel, by decide⟩
theorem lk_X12_395 : xLV RX12 395 yX12_laysUntil cX12_laysUntil 3 none 0 12 := ⟨mt_X12_laysUntil, xw_t8 63 (by decide +kernel) rfl, xw_t8 65 (by decide +kernel) rfl, xw_p8 10 (by decide +kernel), rfl, by decide⟩
theorem mt_X12_worthOf : xMT yX12_worthOf cX12_worthOf 4 (some .int) 1 := ⟨xw_t8 70 (by decide +kernel) rfl, xw_t1 14 (by decide +kernel) rfl, by decide +kernel, by decide⟩
theorem lk_X12_398 : xLV RX12 398 yX12_worthOf cX12_worthOf 4 (some .int) 1 12 := ⟨mt_X12_worthOf, xw_t8 67 (by decide +kernel) rfl, xw_t8 69 (by decide +kernel) rfl, xw_p8 11 (by decide +kernel), rfl, by decide⟩
theorem mt_X12_canBuild : xMT yX12_canBuild cX12_canBuild 6 (some .boolean) 2 := ⟨xw_t8 74 (by decide +kernel) rfl, xw_t1 14 (by decide +kernel) rfl, by decide +kernel, by decide⟩
theorem lk_X12_401 : xLV RX12 401 yX12_canBuild cX12_canBuild 6 (some .boolean) 2 12 := ⟨mt_X12_canBuild, xw_t8 71 (by decide +kernel) rfl, xw_t8 73 (by decide +kernel) rfl, xw_p8 12 (by decide +kernel), rfl, by decide⟩
theorem mt_X12_bestPlots : xMT yX12_bestPlots cX12_bestPlots 3 (some .int) 0 := ⟨xw_t8 62 (by decide +kernel) rfl, xw_t1 14 (by decide +kernel) rfl, by decide +kernel, by decide⟩
theorem lk_X12_405 : xLV RX12 405 yX12_bestPlots cX12_bestPlots 3 (some .int) 0 12 := ⟨mt_X12_bestPlots, xw_t8 59 (by decide +kernel) rfl, xw_t8 61 (by decide +kernel) rfl, xw_p8 9 (by decide +kernel), rfl, by decide⟩
theorem mt_X12_isAmid : xMT yX12_isAmid cX12_isAmid 3 (some .boolean) 3 := ⟨xw_t8 97 (by decide +kernel) rfl, xw_t1 14 (by decide +kernel) rfl, by decide +kernel, by decide⟩
theorem lk_X12_408 : xLS RX12 408 yX12_isAmid cX12_isAmid 3 (some .boolean) 3 := ⟨mt_X12_isAmid, xw_t8 95 (by decide +kernel) rfl, xw_t8 96 (by decide +kernel) rfl⟩
theorem mt_X12_isOver : xMT yX12_isOver cX12_isOver 5 (some .boolean) 2 := ⟨xw_t8 94 (by decide +kernel) rfl, xw_t1 14 (by decide +kernel) rfl, by decide +kernel, by decide⟩
theorem lk_X12_412 : xLV RX12 412 yX12_isOver cX12_isOver 5 (some .boolean) 2 12 := ⟨mt_X12_isOver, xw_t8 91 (by decide +kernel) rfl, xw_t8 93 (by decide +kernel) rfl, xw_p8 15 (by decide +kernel), rfl, by decide⟩
theorem mt_X12_overlap : xMT yX12_overlap cX12_overlap 4 (some .boolean) 2 := ⟨xw_t8 90 (by decide +kernel) rfl, xw_t1 14 (by decide +kernel) rfl, by decide +kernel, by decide⟩
theorem lk_X12_415 : xLV RX12 415 yX12_overlap cX12_overlap 4 (some .boolean) 2 12 := ⟨mt_X12_overlap, xw_t8 87 (by decide +kernel) rfl, xw_t8 89 (by decide +kernel) rfl, xw_p8 14 (by decide +kernel), rfl, by decide⟩
theorem mt_X12_canColour : xMT yX12_canColour cX12_canColour 6 (some .boolean) 2 := ⟨xw_t8 86 (by decide +kernel) rfl, xw_t1 14 (by decide +kernel) rfl, by decide +kernel, by decide⟩
theorem lk_X12_418 : xLV RX12 418 yX12_canColour cX12_canColour 6 (some .boolean) 2 12 := ⟨mt_X12_canColour, xw_t8 83 (by decide +kernel) rfl, xw_t8 85 (by decide +kernel) rfl, xw_p8 13 (by decide +kernel), rfl, by decide⟩
theorem mt_X12_isClique : xMT yX12_isClique cX12_isClique 4 (some .boolean) 1 := ⟨xw_t8 105 (by decide +kernel) rfl, xw_t1 14 (by decide +kernel) rfl, by decide +kernel, by decide⟩
theorem lk_X12_421 : xLV RX12 421 yX12_isClique cX12_isClique 4 (some .boolean) 1 12 := ⟨mt_X12_isClique, xw_t8 102 (by decide +kernel) rfl, xw_t8 104 (by decide +kernel) rfl, xw_p9 0 (by decide +kernel), rfl, by decide⟩
theorem mt_X12_balanceOf : xMT yX12_balanceOf cX12_balanceOf 4 (some .int) 1 := ⟨xw_t8 117 (by decide +kernel) rfl, xw_t1 14 (by decide +kernel) rfl, by decide +kernel, by decide⟩
theorem lk_X12_424 : xLV RX12 424 yX12_balanceOf cX12_balanceOf 4 (some .int) 1 12 := ⟨mt_X12_balanceOf, xw_t8 114 (by decide +kernel) rfl, xw_t8 116 (by decide +kernel) rfl, xw_p9 1 (by decide +kernel), rfl, by decide⟩
theorem mt_X12_partsOf : xMT yX12_partsOf cX12_partsOf 6 (some .int) 1 := ⟨xw_t8 126 (by decide +kernel) rfl, xw_t1 14 (by decide +kernel) rfl, by decide +kernel, by decide⟩
theorem lk_X12_428 : xLV RX12 428 yX12_partsOf cX12_partsOf 6 (some .int) 1 12 := ⟨mt_X12_partsOf, xw_t8 123 (by decide +kernel) rfl, xw_t8 125 (by decide +kernel) rfl, xw_p9 2 (by decide +kernel), rfl, by decide⟩
theorem mt_X12_noLooked : xMT yX12_noLooked cX12_noLooked 4 (some .int) 1 := ⟨xw_t8 134 (by decide +kernel) rfl, xw_t1 14 (by decide +kernel) rfl, by decide +kernel, by decide⟩
theorem lk_X12_435 : xLV RX12 435 yX12_noLooked cX12_noLooked 4 (some .int) 1 12 := ⟨mt_X12_noLooked, xw_t8 131 (by decide +kernel) rfl, xw_t8 133 (by decide +kernel) rfl, xw_p9 3 (by decide +kernel), rfl, by decide⟩
theorem mt_X12_moonsOf : xMT yX12_moonsOf cX12_moonsOf 7 (some .int) 1 := ⟨xw_t8 140 (by decide +kernel) rfl, xw_t1 14 (by decide +kernel) rfl, by decide +kernel, by decide⟩
theorem lk_X12_438 : xLV RX12 438 yX12_moonsOf cX12_moonsOf 7 (some .int) 1 12 := ⟨mt_X12_moonsOf, xw_t8 137 (by decide +kernel) rfl, xw_t8 139 (by decide +kernel) rfl, xw_p9 4 (by decide +kernel), rfl, by decide⟩
theorem mt_X12_mostOften : xMT yX12_mostOften cX12_mostOften 6 (some .int) 2 := ⟨xw_t8 148 (by decide +kernel) rfl, xw_t1 14 (by decide +kernel) rfl, by decide +kernel, by decide⟩
theorem lk_X12_441 : xLV RX12 441 yX12_mostOften cX12_mostOften 6 (some .int) 2 12 := ⟨mt_X12_mostOften, xw_t8 145 (by decide +kernel) rfl, xw_t8 147 (by decide +kernel) rfl, xw_p9 5 (by decide +kernel), rfl, by decide⟩
theorem mt_X12_putTo : xMT yX12_putTo cX12_putTo 2 (some .int) 2 := ⟨xw_t8 159 (by decide +kernel) rfl, xw_t1 14 (by decide +kernel) rfl, by decide +kernel, by decide⟩
theorem lk_X12_444 : xLS RX12 444 yX12_putTo cX12_putTo 2 (some .int) 2 := ⟨mt_X12_putTo, xw_t8 157 (by decide +kernel) rfl, xw_t8 158 (by decide +kernel) rfl⟩
theorem mt_X12_nimOf : xMT yX12_nimOf cX12_nimOf 4 (some .int) 1 := ⟨xw_t8 163 (by decide +kernel) rfl, xw_t1 14 (by decide +kernel) rfl, by decide +kernel, by decide⟩
theorem lk_X12_447 : xLV RX12 447 yX12_nimOf cX12_nimOf 4 (some .int) 1 12 := ⟨mt_X12_nimOf, xw_t8 160 (by decide +kernel) rfl, xw_t8 162 (by decide +kernel) rfl, xw_p9 7 (by decide +kernel), rfl, by decide⟩
theorem mt_X12_freeIn : xMT yX12_freeIn cX12_freeIn 6 (some .int) 1 := ⟨xw_t8 156 (by decide +kernel) rfl, xw_t1 14 (by decide +kernel) rfl, by decide +kernel, by decide⟩
theorem lk_X12_450 : xLV RX12 450 yX12_freeIn cX12_freeIn 6 (some .int) 1 12 := ⟨mt_X12_freeIn, xw_t8 153 (by decide +kernel) rfl, xw_t8 155 (by decide +kernel) rfl, xw_p9 6 (by decide +kernel), rfl, by decide⟩
theorem mt_X12_goesGale : xMT yX12_goesGale cX12_goesGale 8 none 2 := ⟨xw_t8 179 (by decide +kernel) rfl, xw_t1 14 (by decide +kernel) rfl, by decide +kernel, by decide⟩
theorem lk_X12_453 : xLV RX12 453 yX12_goesGale cX12_goesGale 8 none 2 12 := ⟨mt_X12_goesGale, xw_t8 176 (by decide +kernel) rfl, xw_t8 178 (by decide +kernel) rfl, xw_p9 9 (by decide +kernel), rfl, by decide⟩
theorem mt_X12_common : xMT yX12_common cX12_common 4 (some .long) 2 := ⟨xw_t8 188 (by decide +kernel) rfl, xw_t1 14 (by decide +kernel) rfl, by decide +kernel, by decide⟩
theorem lk_X12_457 : xLS RX12 457 yX12_common cX12_common 4 (some .long) 2 := ⟨mt_X12_common, xw_t8 186 (by decide +kernel) rfl, xw_t8 187 (by decide +kernel) rfl⟩
theorem mt_X12_laysGale : xMT yX12_laysGale cX12_laysGale 3 none 1 := ⟨xw_t8 175 (by decide +kernel) rfl, xw_t1 14 (by decide +kernel) rfl, by decide +kernel, by decide⟩
theorem lk_X12_461 : xLV RX12 461 yX12_laysGale cX12_laysGale 3 none 1 12 := ⟨mt_X12_laysGale, xw_t8 172 (by decide +kernel) rfl, xw_t8 174 (by decide +kernel) rfl, xw_p9 8 (by decide +kernel), rfl, by decide⟩
theorem mt_X12_wholeOf : xMT yX12_wholeOf cX12_wholeOf 4 (some .long) 1 := ⟨xw_t8 182 (by decide +kernel) rfl, xw_t1 14 (by decide +kernel) rfl, by decide +kernel, by decide⟩
theorem lk_X12_464 : xLS RX12 464 yX12_wholeOf cX12_wholeOf 4 (some .long) 1 := ⟨mt_X12_wholeOf, xw_t8 180 (by decide +kernel) rfl, xw_t8 181 (by decide +kernel) rfl⟩
theorem mt_X12_part : xMT yX12_part cX12_part 5 (some .int) 3 := ⟨xw_t8 185 (by decide +kernel) rfl, xw_t1 14 (by decide +kernel) rfl, by decide +kernel, by decide⟩
theorem lk_X12_468 : xLS RX12 468 yX12_part cX12_part 5 (some .int) 3 := ⟨mt_X12_part, xw_t8 183 (by decide +kernel) rfl, xw_t8 184 (by decide +kernel) rfl⟩
theorem mt_X12_cut : xMT yX12_cut cX12_cut 3 (some .long) 2 := ⟨xw_t8 204 (by decide +kernel) rfl, xw_t1 14 (by decide +kernel) rfl, by decide +kernel, by decide⟩
theorem lk_X12_474 : xLS RX12 474 yX12_cut cX12_cut 3 (some .long) 2 := ⟨mt_X12_cut, xw_t8 202 (by decide +kernel) rfl, xw_t8 203 (by decide +kernel) rfl⟩
theorem mt_J0_coder_7d493 : xMT yJ0_coder_7d493 cJ0_coder_7d493 1 (some .byte) 0 := ⟨xw_t3 5 (by decide +kernel) rfl, xw_t1 17 (by decide +kernel) rfl, by decide +kernel, by decide⟩
theorem lk_J0_335 : xLT RJ0 335 yJ0_coder_7d493 cJ0_coder_7d493 1 (some .byte) 0 := ⟨mt_J0_coder_7d493, xw_t3 2 (by decide +kernel) rfl, xw_t3 3 (by decide +kernel) rfl, xw_t3 4 (by decide +kernel) rfl, rfl⟩
theorem mt_J0_isLatin1_aae02 : xMT yJ0_isLatin1_aae02 cJ0_isLatin1_aae02 1 (some .boolean) 0 := ⟨xw_t2 235 (by decide +kernel) rfl, xw_t1 17 (by decide +kernel) rfl, by decide +kernel, by decide⟩
theorem lk_J0_492 : xLT RJ0 492 yJ0_isLatin1_aae02 cJ0_isLatin1_aae02 1 (some .boolean) 0 := ⟨mt_J0_isLatin1_aae02, xw_t2 232 (by decide +kernel) rfl, xw_t2 233 (by decide +kernel) rfl, xw_t2 234 (by decide +kernel) rfl, rfl⟩
theorem mt_J1_charAt_3b067 : xMT yJ1_charAt_3b067 cJ1_charAt_3b067 2 (some .char) 2 := ⟨xw_t3 86 (by decide +kernel) rfl, xw_t1 18 (by decide +kernel) rfl, by decide +kernel, by decide⟩
theorem lk_J0_495 : xLS RJ0 495 yJ1_charAt_3b067 cJ1_charAt_3b067 2 (some .char) 2 := ⟨mt_J1_charAt_3b067, xw_t3 84 (by decide +kernel) rfl, xw_t3 85 (by decide +kernel) rfl⟩
theorem mt_J2_charAt_3b067 : xMT yJ2_charAt_3b067 cJ2_charAt_3b067 2 (some .char) 2 := ⟨xw_t3 95 (by decide +kernel) rfl, xw_t1 19 (by decide +kernel) rfl, by decide +kernel, by decide⟩
theorem lk_J0_498 : xLS RJ0 498 yJ2_charAt_3b067 cJ2_charAt_3b067 2 (some .char) 2 := ⟨mt_J2_charAt_3b067, xw_t3 93 (by decide +kernel) rfl, xw_t3 94 (by decide +kernel) rfl⟩
theorem lk_J0_505 : xLT RJ0 505 yJ0_length_8abf5 cJ0_length_8abf5 1 (some .int) 0 := ⟨mt_J0_length_8abf5, xw_t2 238 (by decide +kernel) rfl, xw_t2 239 (by decide +kernel) rfl, xw_t3 0 (by decide +kernel) rfl, rfl⟩
theorem mt_J0_indexOf_7cf53 : xMT yJ0_indexOf_7cf53 cJ0_indexOf_7cf53 3 (some .int) 2 := ⟨xw_t2 231 (by decide +kernel) rfl, xw_t1 17 (by decide +kernel) rfl, by decide +kernel, by decide⟩
theorem lk_J0_633 : xLT RJ0 633 yJ0_indexOf_7cf53 cJ0_indexOf_7cf53 3 (some .int) 2 := ⟨mt_J0_indexOf_7cf53, xw_t2 228 (by decide +kernel) rfl, xw_t2 229 (by decide +kernel) rfl, xw_t2 230 (by decide +kernel) rfl, rfl⟩
theorem mt_J1_indexOf_4cfef : xMT yJ1_indexOf_4cfef cJ1_indexOf_4cfef 4 (some .int) 4 := ⟨xw_t3 8 (by decide +kernel) rfl, xw_t1 18 (by decide +kernel) rfl, by decide +kernel, by decide⟩
theorem lk_J0_637 : xLS RJ0 637 yJ1_indexOf_4cfef cJ1_indexOf_4cfef 4 (some .int) 4 := ⟨mt_J1_indexOf_4cfef, xw_t3 6 (by decide +kernel) rfl, xw_t3 7 (by decide +kernel) rfl⟩
theorem mt_J2_indexOf_4cfef : xMT yJ2_indexOf_4cfef cJ2_indexOf_4cfef 4 (some .int) 4 := ⟨xw_t3 19 (by decide +kernel) rfl, xw_t1 19 (by decide +kernel) rfl, by decide +kernel, by decide⟩
theorem lk_J0_640 : xLS RJ0 640 yJ2_indexOf_4cfef cJ2_indexOf_4cfef 4 (some .int) 4 := ⟨mt_J2_indexOf_4cfef, xw_t3 17 (by decide +kernel) rfl, xw_t3 18 (by decide +kernel) rfl⟩
theorem mt_J3_checkIndex_8e157 : xMT yJ3_checkIndex_8e157 cJ3_checkIndex_8e157 3 (some .int) 3 := ⟨xw_t3 92 (by decide +kernel) rfl, xw_t1 20 (by decide +kernel) rfl, by decide +kernel, by decide⟩
theorem lk_J0_1059 : xLS RJ0 1059 yJ3_checkIndex_8e157 cJ3_checkIndex_8e157 3 (some .int) 3 := ⟨mt_J3_checkIndex_8e157, xw_t3 90 (by decide +kernel) rfl, xw_t3 91 (by decide +kernel) rfl⟩
theorem mt_J3_checkFromToIndex_8c36e : xMT yJ3_checkFromToIndex_8c36e cJ3_checkFromToIndex_8c36e 4 (some .int) 4 := ⟨xw_t3 39 (by decide +kernel) rfl, xw_t1 20 (by decide +kernel) rfl, by decide +kernel, by decide⟩
theorem lk_J0_1062 : xLS RJ0 1062 yJ3_checkFromToIndex_8c36e cJ3_checkFromToIndex_8c36e 4 (some .int) 4 := ⟨mt_J3_checkFromToIndex_8c36e, xw_t3 37 (by decide +kernel) rfl, xw_t3 38 (by decide +kernel) rfl⟩
theorem mt_J0_checkIndex_df160 : xMT yJ0_checkIndex_df160 cJ0_checkIndex_df160 2 none 2 := ⟨xw_t3 89 (by decide +kernel) rfl, xw_t1 17 (by decide +kernel) rfl, by decide +kernel, by decide⟩
theorem lk_J1_9 : xLS RJ1 9 yJ0_checkIndex_df160 cJ0_checkIndex_df160 2 none 2 := ⟨mt_J0_checkIndex_df160, xw_t3 87 (by decide +kernel) rfl, xw_t3 88 (by decide +kernel) rfl⟩
theorem lk_J1_38 : xLS RJ1 38 yJ9_min_7cf53 cJ9_min_7cf53 2 (some .int) 2 := ⟨mt_J9_min_7cf53, xw_t3 13 (by decide +kernel) rfl, xw_t2 194 (by decide +kernel) rfl⟩
theorem mt_J1_canEncode_9a6ad : xMT yJ1_canEncode_9a6ad cJ1_canEncode_9a6ad 1 (some .boolean) 1 := ⟨xw_t3 11 (by decide +kernel) rfl, xw_t1 18 (by decide +kernel) rfl, by decide +kernel, by decide⟩
theorem lk_J1_88 : xLS RJ1 88 yJ1_canEncode_9a6ad cJ1_canEncode_9a6ad 1 (some .boolean) 1 := ⟨mt_J1_canEncode_9a6ad, xw_t3 9 (by decide +kernel) rfl, xw_t3 10 (by decide +kernel) rfl⟩
theorem lk_J1_92 : xLS RJ1 92 yJ9_max_7cf53 cJ9_max_7cf53 2 (some .int) 2 := ⟨mt_J9_max_7cf53, xw_t3 12 (by decide +kernel) rfl, xw_t2 197 (by decide +kernel) rfl⟩
theorem mt_J1_indexOfChar_4cfef : xMT yJ1_indexOfChar_4cfef cJ1_indexOfChar_4cfef 6 (some .int) 4 := ⟨xw_t3 16 (by decide +kernel) rfl, xw_t1 18 (by decide +kernel) rfl, by decide +kernel, by decide⟩
theorem lk_J1_95 : xLS RJ1 95 yJ1_indexOfChar_4cfef cJ1_indexOfChar_4cfef 6 (some .int) 4 := ⟨mt_J1_indexOfChar_4cfef, xw_t3 14 (by decide +kernel) rfl, xw_t3 15 (by decide +kernel) rfl⟩
theorem mt_J2_length_9d52b : xMT yJ2_length_9d52b cJ2_length_9d52b 1 (some .int) 1 := ⟨xw_t3 31 (by decide +kernel) rfl, xw_t1 19 (by decide +kernel) rfl, by decide +kernel, by decide⟩
theorem lk_J2_48 : xLS RJ2 48 yJ2_length_9d52b cJ2_length_9d52b 1 (some .int) 1 := ⟨mt_J2_length_9d52b, xw_t3 29 (by decide +kernel) rfl, xw_t3 30 (by decide +kernel) rfl⟩
theorem mt_J2_checkIndex_2214a : xMT yJ2_checkIndex_2214a cJ2_checkIndex_2214a 2 none 2 := ⟨xw_t3 98 (by decide +kernel) rfl, xw_t1 19 (by decide +kernel) rfl, by decide +kernel, by decide⟩
theorem lk_J2_67 : xLS RJ2 67 yJ2_checkIndex_2214a cJ2_checkIndex_2214a 2 none 2 := ⟨mt_J2_checkIndex_2214a, xw_t3 96 (by decide +kernel) rfl, xw_t3 97 (by decide +kernel) rfl⟩
theorem mt_J2_getChar_3b067 : xMT yJ2_getChar_3b067 cJ2_getChar_3b067 2 (some .char) 2 := ⟨xw_t3 45 (by decide +kernel) rfl, xw_t1 19 (by decide +kernel) rfl, by decide +kernel, by decide⟩
theorem lk_J2_71 : xLS RJ2 71 yJ2_getChar_3b067 cJ2_getChar_3b067 2 (some .char) 2 := ⟨mt_J2_getChar_3b067, xw_t3 43 (by decide +kernel) rfl, xw_t3 44 (by decide +kernel) rfl⟩
theorem mt_J2_checkBoundsBeginEnd_d044e : xMT yJ2_checkBoundsBeginEnd_d044e cJ2_checkBoundsBeginEnd_d044e 3 none 3 := ⟨xw_t3 28 (by decide +kernel) rfl, xw_t1 19 (by decide +kernel) rfl, by decide +kernel, by decide⟩
theorem lk_J2_96 : xLS RJ2 96 yJ2_checkBoundsBeginEnd_d044e cJ2_checkBoundsBeginEnd_d044e 3 none 3 := ⟨mt_J2_checkBoundsBeginEnd_d044e, xw_t3 26 (by decide +kernel) rfl, xw_t3 27 (by decide +kernel) rfl⟩
theorem mt_J11_highSurrogate_5068e : xMT yJ11_highSurrogate_5068e cJ11_highSurrogate_5068e 1 (some .char) 1 := ⟨xw_t3 60 (by decide +kernel) rfl, xw_t1 21 (by decide +kernel) rfl, by decide +kernel, by decide⟩
theorem lk_J2_157 : xLS RJ2 157 yJ11_highSurrogate_5068e cJ11_highSurrogate_5068e 1 (some .char) 1 := ⟨mt_J11_highSurrogate_5068e, xw_t3 58 (by decide +kernel) rfl, xw_t3 59 (by decide +kernel) rfl⟩
theorem mt_J11_lowSurrogate_5068e : xMT yJ11_lowSurrogate_5068e cJ11_lowSurrogate_5068e 1 (some .char) 1 := ⟨xw_t3 64 (by decide +kernel) rfl, xw_t1 21 (by decide +kernel) rfl, by decide +kernel, by decide⟩
theorem lk_J2_161 : xLS RJ2 161 yJ11_lowSurrogate_5068e cJ11_lowSurrogate_5068e 1 (some .char) 1 := ⟨mt_J11_lowSurrogate_5068e, xw_t3 62 (by decide +kernel) rfl, xw_t3 63 (by decide +kernel) rfl⟩
theorem mt_J11_isValidCodePoint_9a6ad : xMT yJ11_isValidCodePoint_9a6ad cJ11_isValidCodePoint_9a6ad 2 (some .boolean) 1 := ⟨xw_t3 57 (by decide +kernel) rfl, xw_t1 21 (by decide +kernel) rfl, by decide +kernel, by decide⟩
theorem lk_J2_164 : xLS RJ2 164 yJ11_isValidCodePoint_9a6ad cJ11_isValidCodePoint_9a6ad 2 (some .boolean) 1 := ⟨mt_J11_isValidCodePoint_9a6ad, xw_t3 55 (by decide +kernel) rfl, xw_t3 56 (by decide +kernel) rfl⟩
theorem lk_J2_183 : xLS RJ2 183 yJ9_min_7cf53 cJ9_min_7cf53 2 (some .int) 2 := ⟨mt_J9_min_7cf53, xw_t3 21 (by decide +kernel) rfl, xw_t2 194 (by decide +kernel) rfl⟩
theorem lk_J2_224 : xLS RJ2 224 yJ9_max_7cf53 cJ9_max_7cf53 2 (some .int) 2 := ⟨mt_J9_max_7cf53, xw_t3 20 (by decide +kernel) rfl, xw_t2 197 (by decide +kernel) rfl⟩
theorem mt_J2_indexOfChar_4cfef : xMT yJ2_indexOfChar_4cfef cJ2_indexOfChar_4cfef 4 (some .int) 4 := ⟨xw_t3 25 (by decide +kernel) rfl, xw_t1 19 (by decide +kernel) rfl, by decide +kernel, by decide⟩
theorem lk_J2_228 : xLS RJ2 228 yJ2_indexOfChar_4cfef cJ2_indexOfChar_4cfef 4 (some .int) 4 := ⟨mt_J2_indexOfChar_4cfef, xw_t3 23 (by decide +kernel) rfl, xw_t3 24 (by decide +kernel) rfl⟩
theorem mt_J2_indexOfSupplementary_4cfef : xMT yJ2_indexOfSupplementary_4cfef cJ2_indexOfSupplementary_4cfef 7 (some .int) 4 := ⟨xw_t3 54 (by decide +kernel) rfl, xw_t1 19 (by decide +kernel) rfl, by decide +kernel, by decide⟩
theorem lk_J2_232 : xLS RJ2 232 yJ2_indexOfSupplementary_4cfef cJ2_indexOfSupplementary_4cfef 7 (some .int) 4 := ⟨mt_J2_indexOfSupplementary_4cfef, xw_t3 52 (by decide +kernel) rfl, xw_t3 53 (by decide +kernel) rfl⟩
theorem mt_J0_checkBoundsBeginEnd_23922 : xMT yJ0_checkBoundsBeginEnd_23922 cJ0_checkBoundsBeginEnd_23922 3 none 3 := ⟨xw_t3 34 (by decide +kernel) rfl, xw_t1 17 (by decide +kernel) rfl, by decide +kernel, by decide⟩
theorem lk_J2_241 : xLS RJ2 241 yJ0_checkBoundsBeginEnd_23922 cJ0_checkBoundsBeginEnd_23922 3 none 3 := ⟨mt_J0_checkBoundsBeginEnd_23922, xw_t3 32 (by decide +kernel) rfl, xw_t3 33 (by decide +kernel) rfl⟩
theorem mt_J2_indexOfCharUnsafe_4cfef : xMT yJ2_indexOfCharUnsafe_4cfef cJ2_indexOfCharUnsafe_4cfef 5 (some .int) 4 := ⟨xw_t3 42 (by decide +kernel) rfl, xw_t1 19 (by decide +kernel) rfl, by decide +kernel, by decide⟩
theorem lk_J2_244 : xLS RJ2 244 yJ2_indexOfCharUnsafe_4cfef cJ2_indexOfCharUnsafe_4cfef 5 (some .int) 4 := ⟨mt_J2_indexOfCharUnsafe_4cfef, xw_t3 40 (by decide +kernel) rfl, xw_t3 41 (by decide +kernel) rfl⟩
theorem lk_J2_414 : xLS RJ2 414 yJ0_checkIndex_df160 cJ0_checkIndex_df160 2 none 2 := ⟨mt_J0_checkIndex_df160, xw_t3 99 (by decide +kernel) rfl, xw_t3 88 (by decide +kernel) rfl⟩
theorem ct_X11_298 : Cond.constant RX11 298 (-99000002) ∈ xw := xw_t5 138 (by decide +kernel) rfl
theorem ct_X11_348 : Cond.constantLong RX11 348 (-7) ∈ xw := xw_t5 234 (by decide +kernel) rfl
theorem ct_X11_365 : Cond.constantLong RX11 365 (10) ∈ xw := xw_t4 90 (by decide +kernel) rfl
theorem ct_X11_371 : Cond.constantLong RX11 371 (100) ∈ xw := xw_t5 163 (by decide +kernel) rfl
theorem ct_X11_382 : Cond.constant RX11 382 (1103515245) ∈ xw := xw_t4 230 (by decide +kernel) rfl
theorem ct_X2_71 : Cond.constantLong RX2 71 (10) ∈ xw := xw_t5 216 (by decide +kernel) rfl
theorem ct_X4_16 : Cond.constantLong RX4 16 (-1000000) ∈ xw := xw_t4 70 (by decide +kernel) rfl
theorem ct_X4_18 : Cond.constantLong RX4 18 (1000000) ∈ xw := xw_t4 71 (by decide +kernel) rfl
theorem ct_X8_123 : Cond.constantLong RX8 123 (10) ∈ xw := xw_t4 200 (by decide +kernel) rfl
theorem ct_X8_125 : Cond.constantLong RX8 125 (2000) ∈ xw := xw_t4 201 (by decide +kernel) rfl
theorem ct_X10_28 : Cond.constantLong RX10 28 (-7) ∈ xw := xw_t5 239 (by decide +kernel) rfl
theorem ct_L_178 : Cond.constantLong RL 178 (4294967295) ∈ xw := xw_t8 221 (by decide +kernel) rfl
theorem ct_X12_234 : Cond.constantLong RX12 234 (1000000) ∈ xw := xw_t7 80 (by decide +kernel) rfl
theorem ct_X12_236 : Cond.constantLong RX12 236 (-1000000) ∈ xw := xw_t7 81 (by decide +kernel) rfl
theorem ct_X12_281 : Cond.constantLong RX12 281 (2) ∈ xw := xw_t7 63 (by decide +kernel) rfl
theorem ct_X12_283 : Cond.constantLong RX12 283 (999) ∈ xw := xw_t7 68 (by decide +kernel) rfl
theorem ct_X12_285 : Cond.constantLong RX12 285 (10) ∈ xw := xw_t7 89 (by decide +kernel) rfl
theorem ct_X12_290 : Cond.constantLong RX12 290 (99) ∈ xw := xw_t7 106 (by decide +kernel) rfl
theorem ct_X12_311 : Cond.constantLong RX12 311 (4) ∈ xw := xw_t7 162 (by decide +kernel) rfl
theorem ct_X12_324 : Cond.constantLong RX12 324 (9) ∈ xw := xw_t7 175 (by decide +kernel) rfl
theorem ct_X12_326 : Cond.constantLong RX12 326 (19) ∈ xw := xw_t7 197 (by decide +kernel) rfl
theorem ct_X12_328 : Cond.constantLong RX12 328 (100) ∈ xw := xw_t7 198 (by decide +kernel) rfl
theorem ct_X12_330 : Cond.constantLong RX12 330 (299) ∈ xw := xw_t7 199 (by decide +kernel) rfl
theorem ct_X12_332 : Cond.constantLong RX12 332 (200) ∈ xw := xw_t7 200 (by decide +kernel) rfl
theorem ct_X12_334 : Cond.constantLong RX12 334 (1000) ∈ xw := xw_t7 201 (by decide +kernel) rfl
theorem ct_X12_336 : Cond.constantLong RX12 336 (1999) ∈ xw := xw_t7 202 (by decide +kernel) rfl
theorem ct_X12_348 : Cond.constantLong RX12 348 (3) ∈ xw := xw_t7 184 (by decide +kernel) rfl
theorem ct_X12_362 : Cond.constant RX12 362 (1103515245) ∈ xw := xw_t7 232 (by decide +kernel) rfl
theorem ct_X12_369 : Cond.constantLong RX12 369 (40) ∈ xw := xw_t7 223 (by decide +kernel) rfl
theorem ct_X12_377 : Cond.constantLong RX12 377 (60) ∈ xw := xw_t8 5 (by decide +kernel) rfl
theorem ct_X12_385 : Cond.constant RX12 385 (268435456) ∈ xw := xw_t8 26 (by decide +kernel) rfl
theorem ct_X12_427 : Cond.constant RX12 427 (-99000002) ∈ xw := xw_t8 118 (by decide +kernel) rfl
theorem ct_X12_431 : Cond.constantLong RX12 431 (8) ∈ xw := xw_t8 135 (by decide +kernel) rfl
theorem ct_X12_433 : Cond.constantLong RX12 433 (1099) ∈ xw := xw_t8 136 (by decide +kernel) rfl
theorem ct_X12_472 : Cond.constantLong RX12 472 (-7) ∈ xw := xw_t8 201 (by decide +kernel) rfl
theorem ct_J11_76 : Cond.constant RJ11 76 (56320) ∈ xw := xw_t3 65 (by decide +kernel) rfl
theorem ct_J11_110 : Cond.constant RJ11 110 (55232) ∈ xw := xw_t3 61 (by decide +kernel) rfl
theorem ct_J6_264 : Cond.constant RJ6 264 (65536) ∈ xw := xw_t2 108 (by decide +kernel) rfl
theorem ct_J6_265 : Cond.constant RJ6 265 (1431655765) ∈ xw := xw_t4 128 (by decide +kernel) rfl
theorem ct_J6_266 : Cond.constant RJ6 266 (858993459) ∈ xw := xw_t4 129 (by decide +kernel) rfl
theorem ct_J6_267 : Cond.constant RJ6 267 (252645135) ∈ xw := xw_t4 130 (by decide +kernel) rfl
theorem ct_J2_227 : Cond.constant RJ2 227 (65536) ∈ xw := xw_t3 22 (by decide +kernel) rfl
