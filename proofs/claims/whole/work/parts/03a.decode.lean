theorem dX0_init_0 : decode cX0_init 0 = .ok (.aload_n 0, 1) := by decide +kernel
theorem dX0_init_1 : decode cX0_init 1 = .ok (.invokespecial 3, 3) := by decide +kernel
theorem dX0_init_4 : decode cX0_init 4 = .ok (.aload_n 0, 1) := by decide +kernel
theorem dX0_init_5 : decode cX0_init 5 = .ok (.bipush 25, 2) := by decide +kernel
theorem dX0_init_7 : decode cX0_init 7 = .ok (.newarray .int, 2) := by decide +kernel
theorem dX0_init_9 : decode cX0_init 9 = .ok (.putfield 9, 3) := by decide +kernel
theorem dX0_init_12 : decode cX0_init 12 = .ok (.aload_n 0, 1) := by decide +kernel
theorem dX0_init_13 : decode cX0_init 13 = .ok (.bipush 6, 2) := by decide +kernel
theorem dX0_init_15 : decode cX0_init 15 = .ok (.newarray .int, 2) := by decide +kernel
theorem dX0_init_17 : decode cX0_init 17 = .ok (.putfield 15, 3) := by decide +kernel
theorem dX0_init_20 : decode cX0_init 20 = .ok (.aload_n 0, 1) := by decide +kernel
theorem dX0_init_21 : decode cX0_init 21 = .ok (.bipush 6, 2) := by decide +kernel
theorem dX0_init_23 : decode cX0_init 23 = .ok (.newarray .int, 2) := by decide +kernel
theorem dX0_init_25 : decode cX0_init 25 = .ok (.putfield 18, 3) := by decide +kernel
theorem dX0_init_28 : decode cX0_init 28 = .ok (.return_, 1) := by decide +kernel
theorem dX0_take_0 : decode cX0_take 0 = .ok (.aload_n 1, 1) := by decide +kernel
theorem dX0_take_1 : decode cX0_take 1 = .ok (.getfield 9, 3) := by decide +kernel
theorem dX0_take_4 : decode cX0_take 4 = .ok (.iconst 0, 1) := by decide +kernel
theorem dX0_take_5 : decode cX0_take 5 = .ok (.aload_n 0, 1) := by decide +kernel
theorem dX0_take_6 : decode cX0_take 6 = .ok (.getfield 9, 3) := by decide +kernel
theorem dX0_take_9 : decode cX0_take 9 = .ok (.iconst 0, 1) := by decide +kernel
theorem dX0_take_10 : decode cX0_take 10 = .ok (.bipush 25, 2) := by decide +kernel
theorem dX0_take_12 : decode cX0_take 12 = .ok (.invokestatic 21, 3) := by decide +kernel
theorem dX0_take_15 : decode cX0_take 15 = .ok (.aload_n 1, 1) := by decide +kernel
theorem dX0_take_16 : decode cX0_take 16 = .ok (.getfield 15, 3) := by decide +kernel
theorem dX0_take_19 : decode cX0_take 19 = .ok (.iconst 0, 1) := by decide +kernel
theorem dX0_take_20 : decode cX0_take 20 = .ok (.aload_n 0, 1) := by decide +kernel
theorem dX0_take_21 : decode cX0_take 21 = .ok (.getfield 15, 3) := by decide +kernel
theorem dX0_take_24 : decode cX0_take 24 = .ok (.iconst 0, 1) := by decide +kernel
theorem dX0_take_25 : decode cX0_take 25 = .ok (.bipush 6, 2) := by decide +kernel
theorem dX0_take_27 : decode cX0_take 27 = .ok (.invokestatic 21, 3) := by decide +kernel
theorem dX0_take_30 : decode cX0_take 30 = .ok (.aload_n 1, 1) := by decide +kernel
theorem dX0_take_31 : decode cX0_take 31 = .ok (.getfield 18, 3) := by decide +kernel
theorem dX0_take_34 : decode cX0_take 34 = .ok (.iconst 0, 1) := by decide +kernel
theorem dX0_take_35 : decode cX0_take 35 = .ok (.aload_n 0, 1) := by decide +kernel
theorem dX0_take_36 : decode cX0_take 36 = .ok (.getfield 18, 3) := by decide +kernel
theorem dX0_take_39 : decode cX0_take 39 = .ok (.iconst 0, 1) := by decide +kernel
theorem dX0_take_40 : decode cX0_take 40 = .ok (.bipush 6, 2) := by decide +kernel
theorem dX0_take_42 : decode cX0_take 42 = .ok (.invokestatic 21, 3) := by decide +kernel
theorem dX0_take_45 : decode cX0_take 45 = .ok (.aload_n 0, 1) := by decide +kernel
theorem dX0_take_46 : decode cX0_take 46 = .ok (.aload_n 1, 1) := by decide +kernel
theorem dX0_take_47 : decode cX0_take 47 = .ok (.getfield 27, 3) := by decide +kernel
theorem dX0_take_50 : decode cX0_take 50 = .ok (.putfield 27, 3) := by decide +kernel
theorem dX0_take_53 : decode cX0_take 53 = .ok (.aload_n 0, 1) := by decide +kernel
theorem dX0_take_54 : decode cX0_take 54 = .ok (.aload_n 1, 1) := by decide +kernel
theorem dX0_take_55 : decode cX0_take 55 = .ok (.getfield 31, 3) := by decide +kernel
theorem dX0_take_58 : decode cX0_take 58 = .ok (.putfield 31, 3) := by decide +kernel
theorem dX0_take_61 : decode cX0_take 61 = .ok (.aload_n 0, 1) := by decide +kernel
theorem dX0_take_62 : decode cX0_take 62 = .ok (.aload_n 1, 1) := by decide +kernel
theorem dX0_take_63 : decode cX0_take 63 = .ok (.getfield 34, 3) := by decide +kernel
theorem dX0_take_66 : decode cX0_take 66 = .ok (.putfield 34, 3) := by decide +kernel
theorem dX0_take_69 : decode cX0_take 69 = .ok (.aload_n 0, 1) := by decide +kernel
theorem dX0_take_70 : decode cX0_take 70 = .ok (.aload_n 1, 1) := by decide +kernel
theorem dX0_take_71 : decode cX0_take 71 = .ok (.getfield 37, 3) := by decide +kernel
theorem dX0_take_74 : decode cX0_take 74 = .ok (.putfield 37, 3) := by decide +kernel
theorem dX0_take_77 : decode cX0_take 77 = .ok (.return_, 1) := by decide +kernel
theorem dX0_clear_0 : decode cX0_clear 0 = .ok (.aload_n 0, 1) := by decide +kernel
theorem dX0_clear_1 : decode cX0_clear 1 = .ok (.getfield 9, 3) := by decide +kernel
theorem dX0_clear_4 : decode cX0_clear 4 = .ok (.iconst 0, 1) := by decide +kernel
theorem dX0_clear_5 : decode cX0_clear 5 = .ok (.invokestatic 40, 3) := by decide +kernel
theorem dX0_clear_8 : decode cX0_clear 8 = .ok (.aload_n 0, 1) := by decide +kernel
theorem dX0_clear_9 : decode cX0_clear 9 = .ok (.iconst 0, 1) := by decide +kernel
theorem dX0_clear_10 : decode cX0_clear 10 = .ok (.putfield 27, 3) := by decide +kernel
theorem dX0_clear_13 : decode cX0_clear 13 = .ok (.aload_n 0, 1) := by decide +kernel
theorem dX0_clear_14 : decode cX0_clear 14 = .ok (.iconst 0, 1) := by decide +kernel
theorem dX0_clear_15 : decode cX0_clear 15 = .ok (.putfield 31, 3) := by decide +kernel
theorem dX0_clear_18 : decode cX0_clear 18 = .ok (.aload_n 0, 1) := by decide +kernel
theorem dX0_clear_19 : decode cX0_clear 19 = .ok (.iconst 0, 1) := by decide +kernel
theorem dX0_clear_20 : decode cX0_clear 20 = .ok (.putfield 34, 3) := by decide +kernel
theorem dX0_clear_23 : decode cX0_clear 23 = .ok (.aload_n 0, 1) := by decide +kernel
theorem dX0_clear_24 : decode cX0_clear 24 = .ok (.iconst 0, 1) := by decide +kernel
theorem dX0_clear_25 : decode cX0_clear 25 = .ok (.putfield 37, 3) := by decide +kernel
theorem dX0_clear_28 : decode cX0_clear 28 = .ok (.return_, 1) := by decide +kernel
theorem dX0_heap_0 : decode cX0_heap 0 = .ok (.iload_n 1, 1) := by decide +kernel
theorem dX0_heap_1 : decode cX0_heap 1 = .ok (.ifCond .lt 14, 3) := by decide +kernel
theorem dX0_heap_4 : decode cX0_heap 4 = .ok (.iload_n 1, 1) := by decide +kernel
theorem dX0_heap_5 : decode cX0_heap 5 = .ok (.iload_n 2, 1) := by decide +kernel
theorem dX0_heap_6 : decode cX0_heap 6 = .ok (.if_icmp .ge 9, 3) := by decide +kernel
theorem dX0_heap_9 : decode cX0_heap 9 = .ok (.iload_n 1, 1) := by decide +kernel
theorem dX0_heap_10 : decode cX0_heap 10 = .ok (.bipush 25, 2) := by decide +kernel
theorem dX0_heap_12 : decode cX0_heap 12 = .ok (.if_icmp .lt 5, 3) := by decide +kernel
theorem dX0_heap_15 : decode cX0_heap 15 = .ok (.iconst 1, 1) := by decide +kernel
theorem dX0_heap_16 : decode cX0_heap 16 = .ok (.ireturn, 1) := by decide +kernel
theorem dX0_heap_17 : decode cX0_heap 17 = .ok (.aload_n 0, 1) := by decide +kernel
theorem dX0_heap_18 : decode cX0_heap 18 = .ok (.getfield 9, 3) := by decide +kernel
theorem dX0_heap_21 : decode cX0_heap 21 = .ok (.iload_n 1, 1) := by decide +kernel
theorem dX0_heap_22 : decode cX0_heap 22 = .ok (.iaload, 1) := by decide +kernel
theorem dX0_heap_23 : decode cX0_heap 23 = .ok (.bipush 9, 2) := by decide +kernel
theorem dX0_heap_25 : decode cX0_heap 25 = .ok (.if_icmp .lt 5, 3) := by decide +kernel
theorem dX0_heap_28 : decode cX0_heap 28 = .ok (.iconst 2, 1) := by decide +kernel
theorem dX0_heap_29 : decode cX0_heap 29 = .ok (.ireturn, 1) := by decide +kernel
theorem dX0_heap_30 : decode cX0_heap 30 = .ok (.aload_n 0, 1) := by decide +kernel
theorem dX0_heap_31 : decode cX0_heap 31 = .ok (.getfield 9, 3) := by decide +kernel
theorem dX0_heap_34 : decode cX0_heap 34 = .ok (.iload_n 1, 1) := by decide +kernel
theorem dX0_heap_35 : decode cX0_heap 35 = .ok (.dup2, 1) := by decide +kernel
theorem dX0_heap_36 : decode cX0_heap 36 = .ok (.iaload, 1) := by decide +kernel
theorem dX0_heap_37 : decode cX0_heap 37 = .ok (.iconst 1, 1) := by decide +kernel
theorem dX0_heap_38 : decode cX0_heap 38 = .ok (.iadd, 1) := by decide +kernel
theorem dX0_heap_39 : decode cX0_heap 39 = .ok (.iastore, 1) := by decide +kernel
theorem dX0_heap_40 : decode cX0_heap 40 = .ok (.iconst 0, 1) := by decide +kernel
theorem dX0_heap_41 : decode cX0_heap 41 = .ok (.ireturn, 1) := by decide +kernel
theorem dX0_scoop_0 : decode cX0_scoop 0 = .ok (.iload_n 1, 1) := by decide +kernel
theorem dX0_scoop_1 : decode cX0_scoop 1 = .ok (.ifCond .lt 14, 3) := by decide +kernel
theorem dX0_scoop_4 : decode cX0_scoop 4 = .ok (.iload_n 1, 1) := by decide +kernel
theorem dX0_scoop_5 : decode cX0_scoop 5 = .ok (.iload_n 2, 1) := by decide +kernel
theorem dX0_scoop_6 : decode cX0_scoop 6 = .ok (.if_icmp .ge 9, 3) := by decide +kernel
theorem dX0_scoop_9 : decode cX0_scoop 9 = .ok (.iload_n 1, 1) := by decide +kernel
theorem dX0_scoop_10 : decode cX0_scoop 10 = .ok (.bipush 25, 2) := by decide +kernel
theorem dX0_scoop_12 : decode cX0_scoop 12 = .ok (.if_icmp .lt 5, 3) := by decide +kernel
theorem dX0_scoop_15 : decode cX0_scoop 15 = .ok (.iconst 1, 1) := by decide +kernel
theorem dX0_scoop_16 : decode cX0_scoop 16 = .ok (.ireturn, 1) := by decide +kernel
theorem dX0_scoop_17 : decode cX0_scoop 17 = .ok (.aload_n 0, 1) := by decide +kernel
theorem dX0_scoop_18 : decode cX0_scoop 18 = .ok (.getfield 9, 3) := by decide +kernel
theorem dX0_scoop_21 : decode cX0_scoop 21 = .ok (.iload_n 1, 1) := by decide +kernel
theorem dX0_scoop_22 : decode cX0_scoop 22 = .ok (.iaload, 1) := by decide +kernel
theorem dX0_scoop_23 : decode cX0_scoop 23 = .ok (.ifCond .gt 5, 3) := by decide +kernel
theorem dX0_scoop_26 : decode cX0_scoop 26 = .ok (.iconst 2, 1) := by decide +kernel
theorem dX0_scoop_27 : decode cX0_scoop 27 = .ok (.ireturn, 1) := by decide +kernel
theorem dX0_scoop_28 : decode cX0_scoop 28 = .ok (.aload_n 0, 1) := by decide +kernel
theorem dX0_scoop_29 : decode cX0_scoop 29 = .ok (.getfield 9, 3) := by decide +kernel
theorem dX0_scoop_32 : decode cX0_scoop 32 = .ok (.iload_n 1, 1) := by decide +kernel
theorem dX0_scoop_33 : decode cX0_scoop 33 = .ok (.dup2, 1) := by decide +kernel
theorem dX0_scoop_34 : decode cX0_scoop 34 = .ok (.iaload, 1) := by decide +kernel
theorem dX0_scoop_35 : decode cX0_scoop 35 = .ok (.iconst 1, 1) := by decide +kernel
theorem dX0_scoop_36 : decode cX0_scoop 36 = .ok (.isub, 1) := by decide +kernel
theorem dX0_scoop_37 : decode cX0_scoop 37 = .ok (.iastore, 1) := by decide +kernel
theorem dX0_scoop_38 : decode cX0_scoop 38 = .ok (.iconst 0, 1) := by decide +kernel
theorem dX0_scoop_39 : decode cX0_scoop 39 = .ok (.ireturn, 1) := by decide +kernel
theorem dX0_settle_0 : decode cX0_settle 0 = .ok (.iload_n 1, 1) := by decide +kernel
theorem dX0_settle_1 : decode cX0_settle 1 = .ok (.ifCond .lt 17, 3) := by decide +kernel
theorem dX0_settle_4 : decode cX0_settle 4 = .ok (.iload_n 1, 1) := by decide +kernel
theorem dX0_settle_5 : decode cX0_settle 5 = .ok (.iload_n 3, 1) := by decide +kernel
theorem dX0_settle_6 : decode cX0_settle 6 = .ok (.if_icmp .ge 12, 3) := by decide +kernel
theorem dX0_settle_9 : decode cX0_settle 9 = .ok (.iload_n 2, 1) := by decide +kernel
theorem dX0_settle_10 : decode cX0_settle 10 = .ok (.ifCond .lt 8, 3) := by decide +kernel
theorem dX0_settle_13 : decode cX0_settle 13 = .ok (.iload_n 2, 1) := by decide +kernel
theorem dX0_settle_14 : decode cX0_settle 14 = .ok (.iconst 5, 1) := by decide +kernel
theorem dX0_settle_15 : decode cX0_settle 15 = .ok (.if_icmp .lt 5, 3) := by decide +kernel
theorem dX0_settle_18 : decode cX0_settle 18 = .ok (.iconst 1, 1) := by decide +kernel
theorem dX0_settle_19 : decode cX0_settle 19 = .ok (.ireturn, 1) := by decide +kernel
theorem dX0_settle_20 : decode cX0_settle 20 = .ok (.aload_n 0, 1) := by decide +kernel
theorem dX0_settle_21 : decode cX0_settle 21 = .ok (.getfield 27, 3) := by decide +kernel
theorem dX0_settle_24 : decode cX0_settle 24 = .ok (.bipush 6, 2) := by decide +kernel
theorem dX0_settle_26 : decode cX0_settle 26 = .ok (.if_icmp .lt 5, 3) := by decide +kernel
theorem dX0_settle_29 : decode cX0_settle 29 = .ok (.iconst 2, 1) := by decide +kernel
theorem dX0_settle_30 : decode cX0_settle 30 = .ok (.ireturn, 1) := by decide +kernel
theorem dX0_settle_31 : decode cX0_settle 31 = .ok (.aload_n 0, 1) := by decide +kernel
theorem dX0_settle_32 : decode cX0_settle 32 = .ok (.invokevirtual 46, 3) := by decide +kernel
theorem dX0_settle_35 : decode cX0_settle 35 = .ok (.iload_n 1, 1) := by decide +kernel
theorem dX0_settle_36 : decode cX0_settle 36 = .ok (.ishr, 1) := by decide +kernel
theorem dX0_settle_37 : decode cX0_settle 37 = .ok (.iconst 1, 1) := by decide +kernel
theorem dX0_settle_38 : decode cX0_settle 38 = .ok (.iand, 1) := by decide +kernel
theorem dX0_settle_39 : decode cX0_settle 39 = .ok (.ifCond .eq 5, 3) := by decide +kernel
theorem dX0_settle_42 : decode cX0_settle 42 = .ok (.iconst 3, 1) := by decide +kernel
theorem dX0_settle_43 : decode cX0_settle 43 = .ok (.ireturn, 1) := by decide +kernel
theorem dX0_settle_44 : decode cX0_settle 44 = .ok (.aload_n 0, 1) := by decide +kernel
theorem dX0_settle_45 : decode cX0_settle 45 = .ok (.getfield 15, 3) := by decide +kernel
theorem dX0_settle_48 : decode cX0_settle 48 = .ok (.aload_n 0, 1) := by decide +kernel
theorem dX0_settle_49 : decode cX0_settle 49 = .ok (.getfield 27, 3) := by decide +kernel
theorem dX0_settle_52 : decode cX0_settle 52 = .ok (.iload_n 1, 1) := by decide +kernel
theorem dX0_settle_53 : decode cX0_settle 53 = .ok (.iastore, 1) := by decide +kernel
theorem dX0_settle_54 : decode cX0_settle 54 = .ok (.aload_n 0, 1) := by decide +kernel
theorem dX0_settle_55 : decode cX0_settle 55 = .ok (.getfield 18, 3) := by decide +kernel
theorem dX0_settle_58 : decode cX0_settle 58 = .ok (.aload_n 0, 1) := by decide +kernel
theorem dX0_settle_59 : decode cX0_settle 59 = .ok (.getfield 27, 3) := by decide +kernel
theorem dX0_settle_62 : decode cX0_settle 62 = .ok (.iload_n 2, 1) := by decide +kernel
theorem dX0_settle_63 : decode cX0_settle 63 = .ok (.iastore, 1) := by decide +kernel
theorem dX0_settle_64 : decode cX0_settle 64 = .ok (.aload_n 0, 1) := by decide +kernel
theorem dX0_settle_65 : decode cX0_settle 65 = .ok (.dup, 1) := by decide +kernel
theorem dX0_settle_66 : decode cX0_settle 66 = .ok (.getfield 31, 3) := by decide +kernel
theorem dX0_settle_69 : decode cX0_settle 69 = .ok (.iconst 1, 1) := by decide +kernel
theorem dX0_settle_70 : decode cX0_settle 70 = .ok (.aload_n 0, 1) := by decide +kernel
theorem dX0_settle_71 : decode cX0_settle 71 = .ok (.getfield 27, 3) := by decide +kernel
theorem dX0_settle_74 : decode cX0_settle 74 = .ok (.ishl, 1) := by decide +kernel
theorem dX0_settle_75 : decode cX0_settle 75 = .ok (.ior, 1) := by decide +kernel
theorem dX0_settle_76 : decode cX0_settle 76 = .ok (.putfield 31, 3) := by decide +kernel
theorem dX0_settle_79 : decode cX0_settle 79 = .ok (.aload_n 0, 1) := by decide +kernel
theorem dX0_settle_80 : decode cX0_settle 80 = .ok (.dup, 1) := by decide +kernel
theorem dX0_settle_81 : decode cX0_settle 81 = .ok (.getfield 27, 3) := by decide +kernel
theorem dX0_settle_84 : decode cX0_settle 84 = .ok (.iconst 1, 1) := by decide +kernel
theorem dX0_settle_85 : decode cX0_settle 85 = .ok (.iadd, 1) := by decide +kernel
theorem dX0_settle_86 : decode cX0_settle 86 = .ok (.putfield 27, 3) := by decide +kernel
theorem dX0_settle_89 : decode cX0_settle 89 = .ok (.iconst 0, 1) := by decide +kernel
theorem dX0_settle_90 : decode cX0_settle 90 = .ok (.ireturn, 1) := by decide +kernel
theorem dX0_changeMoon_0 : decode cX0_changeMoon 0 = .ok (.iload_n 1, 1) := by decide +kernel
theorem dX0_changeMoon_1 : decode cX0_changeMoon 1 = .ok (.ifCond .lt 9, 3) := by decide +kernel
theorem dX0_changeMoon_4 : decode cX0_changeMoon 4 = .ok (.iload_n 1, 1) := by decide +kernel
theorem dX0_changeMoon_5 : decode cX0_changeMoon 5 = .ok (.bipush 10, 2) := by decide +kernel
theorem dX0_changeMoon_7 : decode cX0_changeMoon 7 = .ok (.if_icmp .lt 5, 3) := by decide +kernel
theorem dX0_changeMoon_10 : decode cX0_changeMoon 10 = .ok (.iconst 1, 1) := by decide +kernel
theorem dX0_changeMoon_11 : decode cX0_changeMoon 11 = .ok (.ireturn, 1) := by decide +kernel
theorem dX0_changeMoon_12 : decode cX0_changeMoon 12 = .ok (.aload_n 0, 1) := by decide +kernel
theorem dX0_changeMoon_13 : decode cX0_changeMoon 13 = .ok (.iload_n 1, 1) := by decide +kernel
theorem dX0_changeMoon_14 : decode cX0_changeMoon 14 = .ok (.putfield 34, 3) := by decide +kernel
theorem dX0_changeMoon_17 : decode cX0_changeMoon 17 = .ok (.iconst 0, 1) := by decide +kernel
theorem dX0_changeMoon_18 : decode cX0_changeMoon 18 = .ok (.ireturn, 1) := by decide +kernel
theorem dX0_builtCells_0 : decode cX0_builtCells 0 = .ok (.iconst 0, 1) := by decide +kernel
theorem dX0_builtCells_1 : decode cX0_builtCells 1 = .ok (.istore_n 1, 1) := by decide +kernel
theorem dX0_builtCells_2 : decode cX0_builtCells 2 = .ok (.iconst 0, 1) := by decide +kernel
theorem dX0_builtCells_3 : decode cX0_builtCells 3 = .ok (.istore_n 2, 1) := by decide +kernel
theorem dX0_builtCells_4 : decode cX0_builtCells 4 = .ok (.iload_n 2, 1) := by decide +kernel
theorem dX0_builtCells_5 : decode cX0_builtCells 5 = .ok (.aload_n 0, 1) := by decide +kernel
theorem dX0_builtCells_6 : decode cX0_builtCells 6 = .ok (.getfield 27, 3) := by decide +kernel
theorem dX0_builtCells_9 : decode cX0_builtCells 9 = .ok (.if_icmp .ge 31, 3) := by decide +kernel
theorem dX0_builtCells_12 : decode cX0_builtCells 12 = .ok (.aload_n 0, 1) := by decide +kernel
theorem dX0_builtCells_13 : decode cX0_builtCells 13 = .ok (.getfield 31, 3) := by decide +kernel
theorem dX0_builtCells_16 : decode cX0_builtCells 16 = .ok (.iload_n 2, 1) := by decide +kernel
theorem dX0_builtCells_17 : decode cX0_builtCells 17 = .ok (.ishr, 1) := by decide +kernel
theorem dX0_builtCells_18 : decode cX0_builtCells 18 = .ok (.iconst 1, 1) := by decide +kernel
theorem dX0_builtCells_19 : decode cX0_builtCells 19 = .ok (.iand, 1) := by decide +kernel
theorem dX0_builtCells_20 : decode cX0_builtCells 20 = .ok (.ifCond .eq 14, 3) := by decide +kernel
theorem dX0_builtCells_23 : decode cX0_builtCells 23 = .ok (.iload_n 1, 1) := by decide +kernel
theorem dX0_builtCells_24 : decode cX0_builtCells 24 = .ok (.iconst 1, 1) := by decide +kernel
theorem dX0_builtCells_25 : decode cX0_builtCells 25 = .ok (.aload_n 0, 1) := by decide +kernel
theorem dX0_builtCells_26 : decode cX0_builtCells 26 = .ok (.getfield 15, 3) := by decide +kernel
theorem dX0_builtCells_29 : decode cX0_builtCells 29 = .ok (.iload_n 2, 1) := by decide +kernel
theorem dX0_builtCells_30 : decode cX0_builtCells 30 = .ok (.iaload, 1) := by decide +kernel
theorem dX0_builtCells_31 : decode cX0_builtCells 31 = .ok (.ishl, 1) := by decide +kernel
theorem dX0_builtCells_32 : decode cX0_builtCells 32 = .ok (.ior, 1) := by decide +kernel
theorem dX0_builtCells_33 : decode cX0_builtCells 33 = .ok (.istore_n 1, 1) := by decide +kernel
theorem dX0_builtCells_34 : decode cX0_builtCells 34 = .ok (.iinc 2 1, 3) := by decide +kernel
theorem dX0_builtCells_37 : decode cX0_builtCells 37 = .ok (.goto (-33), 3) := by decide +kernel
theorem dX0_builtCells_40 : decode cX0_builtCells 40 = .ok (.iload_n 1, 1) := by decide +kernel
theorem dX0_builtCells_41 : decode cX0_builtCells 41 = .ok (.ireturn, 1) := by decide +kernel
theorem dX0_fell_0 : decode cX0_fell 0 = .ok (.iconst 0, 1) := by decide +kernel
theorem dX0_fell_1 : decode cX0_fell 1 = .ok (.istore_n 2, 1) := by decide +kernel
theorem dX0_fell_2 : decode cX0_fell 2 = .ok (.iload_n 2, 1) := by decide +kernel
theorem dX0_fell_3 : decode cX0_fell 3 = .ok (.aload_n 0, 1) := by decide +kernel
theorem dX0_fell_4 : decode cX0_fell 4 = .ok (.getfield 27, 3) := by decide +kernel
theorem dX0_fell_7 : decode cX0_fell 7 = .ok (.if_icmp .ge 36, 3) := by decide +kernel
theorem dX0_fell_10 : decode cX0_fell 10 = .ok (.iload_n 1, 1) := by decide +kernel
theorem dX0_fell_11 : decode cX0_fell 11 = .ok (.aload_n 0, 1) := by decide +kernel
theorem dX0_fell_12 : decode cX0_fell 12 = .ok (.getfield 15, 3) := by decide +kernel
theorem dX0_fell_15 : decode cX0_fell 15 = .ok (.iload_n 2, 1) := by decide +kernel
theorem dX0_fell_16 : decode cX0_fell 16 = .ok (.iaload, 1) := by decide +kernel
theorem dX0_fell_17 : decode cX0_fell 17 = .ok (.ishr, 1) := by decide +kernel
theorem dX0_fell_18 : decode cX0_fell 18 = .ok (.iconst 1, 1) := by decide +kernel
theorem dX0_fell_19 : decode cX0_fell 19 = .ok (.iand, 1) := by decide +kernel
theorem dX0_fell_20 : decode cX0_fell 20 = .ok (.ifCond .eq 17, 3) := by decide +kernel
theorem dX0_fell_23 : decode cX0_fell 23 = .ok (.aload_n 0, 1) := by decide +kernel
theorem dX0_fell_24 : decode cX0_fell 24 = .ok (.dup, 1) := by decide +kernel
theorem dX0_fell_25 : decode cX0_fell 25 = .ok (.getfield 31, 3) := by decide +kernel
theorem dX0_fell_28 : decode cX0_fell 28 = .ok (.iconst 1, 1) := by decide +kernel
theorem dX0_fell_29 : decode cX0_fell 29 = .ok (.iload_n 2, 1) := by decide +kernel
theorem dX0_fell_30 : decode cX0_fell 30 = .ok (.ishl, 1) := by decide +kernel
theorem dX0_fell_31 : decode cX0_fell 31 = .ok (.iconst (-1), 1) := by decide +kernel
theorem dX0_fell_32 : decode cX0_fell 32 = .ok (.ixor, 1) := by decide +kernel
theorem dX0_fell_33 : decode cX0_fell 33 = .ok (.iand, 1) := by decide +kernel
theorem dX0_fell_34 : decode cX0_fell 34 = .ok (.putfield 31, 3) := by decide +kernel
theorem dX0_fell_37 : decode cX0_fell 37 = .ok (.iinc 2 1, 3) := by decide +kernel
theorem dX0_fell_40 : decode cX0_fell 40 = .ok (.goto (-38), 3) := by decide +kernel
theorem dX0_fell_43 : decode cX0_fell 43 = .ok (.return_, 1) := by decide +kernel
theorem dX0_housesOf_0 : decode cX0_housesOf 0 = .ok (.iconst 0, 1) := by decide +kernel
theorem dX0_housesOf_1 : decode cX0_housesOf 1 = .ok (.istore_n 2, 1) := by decide +kernel
theorem dX0_housesOf_2 : decode cX0_housesOf 2 = .ok (.iconst 0, 1) := by decide +kernel
theorem dX0_housesOf_3 : decode cX0_housesOf 3 = .ok (.istore_n 3, 1) := by decide +kernel
theorem dX0_housesOf_4 : decode cX0_housesOf 4 = .ok (.iload_n 3, 1) := by decide +kernel
theorem dX0_housesOf_5 : decode cX0_housesOf 5 = .ok (.aload_n 0, 1) := by decide +kernel
theorem dX0_housesOf_6 : decode cX0_housesOf 6 = .ok (.getfield 27, 3) := by decide +kernel
theorem dX0_housesOf_9 : decode cX0_housesOf 9 = .ok (.if_icmp .ge 30, 3) := by decide +kernel
theorem dX0_housesOf_12 : decode cX0_housesOf 12 = .ok (.aload_n 0, 1) := by decide +kernel
theorem dX0_housesOf_13 : decode cX0_housesOf 13 = .ok (.getfield 18, 3) := by decide +kernel
theorem dX0_housesOf_16 : decode cX0_housesOf 16 = .ok (.iload_n 3, 1) := by decide +kernel
theorem dX0_housesOf_17 : decode cX0_housesOf 17 = .ok (.iaload, 1) := by decide +kernel
theorem dX0_housesOf_18 : decode cX0_housesOf 18 = .ok (.iload_n 1, 1) := by decide +kernel
theorem dX0_housesOf_19 : decode cX0_housesOf 19 = .ok (.if_icmp .ne 14, 3) := by decide +kernel
theorem dX0_housesOf_22 : decode cX0_housesOf 22 = .ok (.iload_n 2, 1) := by decide +kernel
theorem dX0_housesOf_23 : decode cX0_housesOf 23 = .ok (.aload_n 0, 1) := by decide +kernel
theorem dX0_housesOf_24 : decode cX0_housesOf 24 = .ok (.getfield 31, 3) := by decide +kernel
theorem dX0_housesOf_27 : decode cX0_housesOf 27 = .ok (.iload_n 3, 1) := by decide +kernel
theorem dX0_housesOf_28 : decode cX0_housesOf 28 = .ok (.ishr, 1) := by decide +kernel
theorem dX0_housesOf_29 : decode cX0_housesOf 29 = .ok (.iconst 1, 1) := by decide +kernel
theorem dX0_housesOf_30 : decode cX0_housesOf 30 = .ok (.iand, 1) := by decide +kernel
theorem dX0_housesOf_31 : decode cX0_housesOf 31 = .ok (.iadd, 1) := by decide +kernel
theorem dX0_housesOf_32 : decode cX0_housesOf 32 = .ok (.istore_n 2, 1) := by decide +kernel
theorem dX0_housesOf_33 : decode cX0_housesOf 33 = .ok (.iinc 3 1, 3) := by decide +kernel
theorem dX0_housesOf_36 : decode cX0_housesOf 36 = .ok (.goto (-32), 3) := by decide +kernel
theorem dX0_housesOf_39 : decode cX0_housesOf 39 = .ok (.iload_n 2, 1) := by decide +kernel
theorem dX0_housesOf_40 : decode cX0_housesOf 40 = .ok (.ireturn, 1) := by decide +kernel
theorem dX0_sandInAll_0 : decode cX0_sandInAll 0 = .ok (.iconst 0, 1) := by decide +kernel
theorem dX0_sandInAll_1 : decode cX0_sandInAll 1 = .ok (.istore_n 2, 1) := by decide +kernel
theorem dX0_sandInAll_2 : decode cX0_sandInAll 2 = .ok (.iconst 0, 1) := by decide +kernel
theorem dX0_sandInAll_3 : decode cX0_sandInAll 3 = .ok (.istore_n 3, 1) := by decide +kernel
theorem dX0_sandInAll_4 : decode cX0_sandInAll 4 = .ok (.iload_n 3, 1) := by decide +kernel
theorem dX0_sandInAll_5 : decode cX0_sandInAll 5 = .ok (.iload_n 1, 1) := by decide +kernel
theorem dX0_sandInAll_6 : decode cX0_sandInAll 6 = .ok (.if_icmp .ge 24, 3) := by decide +kernel
theorem dX0_sandInAll_9 : decode cX0_sandInAll 9 = .ok (.iload_n 3, 1) := by decide +kernel
theorem dX0_sandInAll_10 : decode cX0_sandInAll 10 = .ok (.bipush 25, 2) := by decide +kernel
theorem dX0_sandInAll_12 : decode cX0_sandInAll 12 = .ok (.if_icmp .ge 18, 3) := by decide +kernel
theorem dX0_sandInAll_15 : decode cX0_sandInAll 15 = .ok (.iload_n 2, 1) := by decide +kernel
theorem dX0_sandInAll_16 : decode cX0_sandInAll 16 = .ok (.aload_n 0, 1) := by decide +kernel
theorem dX0_sandInAll_17 : decode cX0_sandInAll 17 = .ok (.getfield 9, 3) := by decide +kernel
theorem dX0_sandInAll_20 : decode cX0_sandInAll 20 = .ok (.iload_n 3, 1) := by decide +kernel
theorem dX0_sandInAll_21 : decode cX0_sandInAll 21 = .ok (.iaload, 1) := by decide +kernel
theorem dX0_sandInAll_22 : decode cX0_sandInAll 22 = .ok (.iadd, 1) := by decide +kernel
theorem dX0_sandInAll_23 : decode cX0_sandInAll 23 = .ok (.istore_n 2, 1) := by decide +kernel
theorem dX0_sandInAll_24 : decode cX0_sandInAll 24 = .ok (.iinc 3 1, 3) := by decide +kernel
theorem dX0_sandInAll_27 : decode cX0_sandInAll 27 = .ok (.goto (-23), 3) := by decide +kernel
theorem dX0_sandInAll_30 : decode cX0_sandInAll 30 = .ok (.iload_n 2, 1) := by decide +kernel
theorem dX0_sandInAll_31 : decode cX0_sandInAll 31 = .ok (.ireturn, 1) := by decide +kernel
theorem dX1_init_0 : decode cX1_init 0 = .ok (.aload_n 0, 1) := by decide +kernel
theorem dX1_init_1 : decode cX1_init 1 = .ok (.invokespecial 3, 3) := by decide +kernel
theorem dX1_init_4 : decode cX1_init 4 = .ok (.aload_n 0, 1) := by decide +kernel
theorem dX1_init_5 : decode cX1_init 5 = .ok (.bipush 25, 2) := by decide +kernel
theorem dX1_init_7 : decode cX1_init 7 = .ok (.newarray .int, 2) := by decide +kernel
theorem dX1_init_9 : decode cX1_init 9 = .ok (.putfield 9, 3) := by decide +kernel
theorem dX1_init_12 : decode cX1_init 12 = .ok (.aload_n 0, 1) := by decide +kernel
theorem dX1_init_13 : decode cX1_init 13 = .ok (.bipush 25, 2) := by decide +kernel
theorem dX1_init_15 : decode cX1_init 15 = .ok (.newarray .int, 2) := by decide +kernel
theorem dX1_init_17 : decode cX1_init 17 = .ok (.putfield 15, 3) := by decide +kernel
theorem dX1_init_20 : decode cX1_init 20 = .ok (.aload_n 0, 1) := by decide +kernel
theorem dX1_init_21 : decode cX1_init 21 = .ok (.sipush 625, 3) := by decide +kernel
theorem dX1_init_24 : decode cX1_init 24 = .ok (.newarray .int, 2) := by decide +kernel
theorem dX1_init_26 : decode cX1_init 26 = .ok (.putfield 18, 3) := by decide +kernel
theorem dX1_init_29 : decode cX1_init 29 = .ok (.aload_n 0, 1) := by decide +kernel
theorem dX1_init_30 : decode cX1_init 30 = .ok (.bipush 50, 2) := by decide +kernel
theorem dX1_init_32 : decode cX1_init 32 = .ok (.newarray .int, 2) := by decide +kernel
theorem dX1_init_34 : decode cX1_init 34 = .ok (.putfield 21, 3) := by decide +kernel
theorem dX1_init_37 : decode cX1_init 37 = .ok (.aload_n 0, 1) := by decide +kernel
theorem dX1_init_38 : decode cX1_init 38 = .ok (.bipush 50, 2) := by decide +kernel
theorem dX1_init_40 : decode cX1_init 40 = .ok (.newarray .int, 2) := by decide +kernel
theorem dX1_init_42 : decode cX1_init 42 = .ok (.putfield 24, 3) := by decide +kernel
theorem dX1_init_45 : decode cX1_init 45 = .ok (.return_, 1) := by decide +kernel
theorem dX1_leastRaising_0 : decode cX1_leastRaising 0 = .ok (.iload_n 3, 1) := by decide +kernel
theorem dX1_leastRaising_1 : decode cX1_leastRaising 1 = .ok (.ifCond .lt 9, 3) := by decide +kernel
theorem dX1_leastRaising_4 : decode cX1_leastRaising 4 = .ok (.iload_n 3, 1) := by decide +kernel
theorem dX1_leastRaising_5 : decode cX1_leastRaising 5 = .ok (.bipush 25, 2) := by decide +kernel
theorem dX1_leastRaising_7 : decode cX1_leastRaising 7 = .ok (.if_icmp .lt 5, 3) := by decide +kernel
theorem dX1_leastRaising_10 : decode cX1_leastRaising 10 = .ok (.iconst 0, 1) := by decide +kernel
theorem dX1_leastRaising_11 : decode cX1_leastRaising 11 = .ok (.ireturn, 1) := by decide +kernel
theorem dX1_leastRaising_12 : decode cX1_leastRaising 12 = .ok (.iconst 0, 1) := by decide +kernel
theorem dX1_leastRaising_13 : decode cX1_leastRaising 13 = .ok (.istore 5, 2) := by decide +kernel
theorem dX1_leastRaising_15 : decode cX1_leastRaising 15 = .ok (.iload 5, 2) := by decide +kernel
theorem dX1_leastRaising_17 : decode cX1_leastRaising 17 = .ok (.bipush 25, 2) := by decide +kernel
theorem dX1_leastRaising_19 : decode cX1_leastRaising 19 = .ok (.if_icmp .ge 34, 3) := by decide +kernel
theorem dX1_leastRaising_22 : decode cX1_leastRaising 22 = .ok (.iload 5, 2) := by decide +kernel
theorem dX1_leastRaising_24 : decode cX1_leastRaising 24 = .ok (.aload_n 2, 1) := by decide +kernel
theorem dX1_leastRaising_25 : decode cX1_leastRaising 25 = .ok (.arraylength, 1) := by decide +kernel
theorem dX1_leastRaising_26 : decode cX1_leastRaising 26 = .ok (.if_icmp .ge 27, 3) := by decide +kernel
theorem dX1_leastRaising_29 : decode cX1_leastRaising 29 = .ok (.aload_n 0, 1) := by decide +kernel
theorem dX1_leastRaising_30 : decode cX1_leastRaising 30 = .ok (.getfield 9, 3) := by decide +kernel
theorem dX1_leastRaising_33 : decode cX1_leastRaising 33 = .ok (.iload 5, 2) := by decide +kernel
theorem dX1_leastRaising_35 : decode cX1_leastRaising 35 = .ok (.iconst 0, 1) := by decide +kernel
theorem dX1_leastRaising_36 : decode cX1_leastRaising 36 = .ok (.iload 4, 2) := by decide +kernel
theorem dX1_leastRaising_38 : decode cX1_leastRaising 38 = .ok (.aload_n 2, 1) := by decide +kernel
theorem dX1_leastRaising_39 : decode cX1_leastRaising 39 = .ok (.iload 5, 2) := by decide +kernel
theorem dX1_leastRaising_41 : decode cX1_leastRaising 41 = .ok (.iaload, 1) := by decide +kernel
theorem dX1_leastRaising_42 : decode cX1_leastRaising 42 = .ok (.isub, 1) := by decide +kernel
theorem dX1_leastRaising_43 : decode cX1_leastRaising 43 = .ok (.invokestatic 27, 3) := by decide +kernel
theorem dX1_leastRaising_46 : decode cX1_leastRaising 46 = .ok (.iastore, 1) := by decide +kernel
theorem dX1_leastRaising_47 : decode cX1_leastRaising 47 = .ok (.iinc 5 1, 3) := by decide +kernel
theorem dX1_leastRaising_50 : decode cX1_leastRaising 50 = .ok (.goto (-35), 3) := by decide +kernel
theorem dX1_leastRaising_53 : decode cX1_leastRaising 53 = .ok (.aload_n 0, 1) := by decide +kernel
theorem dX1_leastRaising_54 : decode cX1_leastRaising 54 = .ok (.getfield 15, 3) := by decide +kernel
theorem dX1_leastRaising_57 : decode cX1_leastRaising 57 = .ok (.iconst 0, 1) := by decide +kernel
theorem dX1_leastRaising_58 : decode cX1_leastRaising 58 = .ok (.invokestatic 33, 3) := by decide +kernel
theorem dX1_leastRaising_61 : decode cX1_leastRaising 61 = .ok (.aload_n 0, 1) := by decide +kernel
theorem dX1_leastRaising_62 : decode cX1_leastRaising 62 = .ok (.getfield 18, 3) := by decide +kernel
theorem dX1_leastRaising_65 : decode cX1_leastRaising 65 = .ok (.iconst 0, 1) := by decide +kernel
theorem dX1_leastRaising_66 : decode cX1_leastRaising 66 = .ok (.invokestatic 33, 3) := by decide +kernel
theorem dX1_leastRaising_69 : decode cX1_leastRaising 69 = .ok (.iconst 0, 1) := by decide +kernel
theorem dX1_leastRaising_70 : decode cX1_leastRaising 70 = .ok (.istore 5, 2) := by decide +kernel
theorem dX1_leastRaising_72 : decode cX1_leastRaising 72 = .ok (.iload 5, 2) := by decide +kernel
theorem dX1_leastRaising_74 : decode cX1_leastRaising 74 = .ok (.bipush 10, 2) := by decide +kernel
theorem dX1_leastRaising_76 : decode cX1_leastRaising 76 = .ok (.if_icmp .ge 27, 3) := by decide +kernel
theorem dX1_leastRaising_79 : decode cX1_leastRaising 79 = .ok (.aload_n 0, 1) := by decide +kernel
theorem dX1_leastRaising_80 : decode cX1_leastRaising 80 = .ok (.aload_n 1, 1) := by decide +kernel
theorem dX1_leastRaising_81 : decode cX1_leastRaising 81 = .ok (.iload_n 3, 1) := by decide +kernel
theorem dX1_leastRaising_82 : decode cX1_leastRaising 82 = .ok (.invokevirtual 39, 3) := by decide +kernel
theorem dX1_leastRaising_85 : decode cX1_leastRaising 85 = .ok (.ifCond .eq 18, 3) := by decide +kernel
theorem dX1_leastRaising_88 : decode cX1_leastRaising 88 = .ok (.aload_n 0, 1) := by decide +kernel
theorem dX1_leastRaising_89 : decode cX1_leastRaising 89 = .ok (.iconst 2, 1) := by decide +kernel
theorem dX1_leastRaising_90 : decode cX1_leastRaising 90 = .ok (.iload_n 3, 1) := by decide +kernel
theorem dX1_leastRaising_91 : decode cX1_leastRaising 91 = .ok (.imul, 1) := by decide +kernel
theorem dX1_leastRaising_92 : decode cX1_leastRaising 92 = .ok (.iconst 1, 1) := by decide +kernel
theorem dX1_leastRaising_93 : decode cX1_leastRaising 93 = .ok (.iadd, 1) := by decide +kernel
theorem dX1_leastRaising_94 : decode cX1_leastRaising 94 = .ok (.invokevirtual 43, 3) := by decide +kernel
theorem dX1_leastRaising_97 : decode cX1_leastRaising 97 = .ok (.iinc 5 1, 3) := by decide +kernel
theorem dX1_leastRaising_100 : decode cX1_leastRaising 100 = .ok (.goto (-28), 3) := by decide +kernel
theorem dX1_leastRaising_103 : decode cX1_leastRaising 103 = .ok (.iload 5, 2) := by decide +kernel
theorem dX1_leastRaising_105 : decode cX1_leastRaising 105 = .ok (.ireturn, 1) := by decide +kernel
theorem dX1_reaches_0 : decode cX1_reaches 0 = .ok (.aload_n 0, 1) := by decide +kernel
theorem dX1_reaches_1 : decode cX1_reaches 1 = .ok (.getfield 21, 3) := by decide +kernel
theorem dX1_reaches_4 : decode cX1_reaches 4 = .ok (.iconst (-1), 1) := by decide +kernel
theorem dX1_reaches_5 : decode cX1_reaches 5 = .ok (.invokestatic 33, 3) := by decide +kernel
theorem dX1_reaches_8 : decode cX1_reaches 8 = .ok (.aload_n 0, 1) := by decide +kernel
theorem dX1_reaches_9 : decode cX1_reaches 9 = .ok (.iconst 0, 1) := by decide +kernel
theorem dX1_reaches_10 : decode cX1_reaches 10 = .ok (.putfield 47, 3) := by decide +kernel
theorem dX1_reaches_13 : decode cX1_reaches 13 = .ok (.iconst 0, 1) := by decide +kernel
theorem dX1_reaches_14 : decode cX1_reaches 14 = .ok (.istore_n 3, 1) := by decide +kernel
theorem dX1_reaches_15 : decode cX1_reaches 15 = .ok (.iload_n 3, 1) := by decide +kernel
theorem dX1_reaches_16 : decode cX1_reaches 16 = .ok (.aload_n 1, 1) := by decide +kernel
theorem dX1_reaches_17 : decode cX1_reaches 17 = .ok (.getfield 51, 3) := by decide +kernel
theorem dX1_reaches_20 : decode cX1_reaches 20 = .ok (.if_icmp .ge 19, 3) := by decide +kernel
theorem dX1_reaches_23 : decode cX1_reaches 23 = .ok (.aload_n 0, 1) := by decide +kernel
theorem dX1_reaches_24 : decode cX1_reaches 24 = .ok (.iconst 2, 1) := by decide +kernel
theorem dX1_reaches_25 : decode cX1_reaches 25 = .ok (.iload_n 3, 1) := by decide +kernel
theorem dX1_reaches_26 : decode cX1_reaches 26 = .ok (.imul, 1) := by decide +kernel
theorem dX1_reaches_27 : decode cX1_reaches 27 = .ok (.iconst 2, 1) := by decide +kernel
theorem dX1_reaches_28 : decode cX1_reaches 28 = .ok (.iload_n 3, 1) := by decide +kernel
theorem dX1_reaches_29 : decode cX1_reaches 29 = .ok (.imul, 1) := by decide +kernel
theorem dX1_reaches_30 : decode cX1_reaches 30 = .ok (.invokevirtual 56, 3) := by decide +kernel
theorem dX1_reaches_33 : decode cX1_reaches 33 = .ok (.iinc 3 1, 3) := by decide +kernel
theorem dX1_reaches_36 : decode cX1_reaches 36 = .ok (.goto (-21), 3) := by decide +kernel
theorem dX1_reaches_39 : decode cX1_reaches 39 = .ok (.iconst 0, 1) := by decide +kernel
theorem dX1_reaches_40 : decode cX1_reaches 40 = .ok (.istore_n 3, 1) := by decide +kernel
theorem dX1_reaches_41 : decode cX1_reaches 41 = .ok (.iload_n 3, 1) := by decide +kernel
theorem dX1_reaches_42 : decode cX1_reaches 42 = .ok (.bipush 50, 2) := by decide +kernel
theorem dX1_reaches_44 : decode cX1_reaches 44 = .ok (.if_icmp .ge 57, 3) := by decide +kernel
theorem dX1_reaches_47 : decode cX1_reaches 47 = .ok (.iload_n 3, 1) := by decide +kernel
theorem dX1_reaches_48 : decode cX1_reaches 48 = .ok (.aload_n 0, 1) := by decide +kernel
theorem dX1_reaches_49 : decode cX1_reaches 49 = .ok (.getfield 47, 3) := by decide +kernel
theorem dX1_reaches_52 : decode cX1_reaches 52 = .ok (.if_icmp .ge 49, 3) := by decide +kernel
theorem dX1_reaches_55 : decode cX1_reaches 55 = .ok (.aload_n 0, 1) := by decide +kernel
theorem dX1_reaches_56 : decode cX1_reaches 56 = .ok (.getfield 24, 3) := by decide +kernel
theorem dX1_reaches_59 : decode cX1_reaches 59 = .ok (.iload_n 3, 1) := by decide +kernel
theorem dX1_reaches_60 : decode cX1_reaches 60 = .ok (.iaload, 1) := by decide +kernel
theorem dX1_reaches_61 : decode cX1_reaches 61 = .ok (.iconst 2, 1) := by decide +kernel
theorem dX1_reaches_62 : decode cX1_reaches 62 = .ok (.irem, 1) := by decide +kernel
theorem dX1_reaches_63 : decode cX1_reaches 63 = .ok (.ifCond .ne 19, 3) := by decide +kernel
theorem dX1_reaches_66 : decode cX1_reaches 66 = .ok (.aload_n 0, 1) := by decide +kernel
theorem dX1_reaches_67 : decode cX1_reaches 67 = .ok (.aload_n 1, 1) := by decide +kernel
theorem dX1_reaches_68 : decode cX1_reaches 68 = .ok (.aload_n 0, 1) := by decide +kernel
theorem dX1_reaches_69 : decode cX1_reaches 69 = .ok (.getfield 24, 3) := by decide +kernel
theorem dX1_reaches_72 : decode cX1_reaches 72 = .ok (.iload_n 3, 1) := by decide +kernel
theorem dX1_reaches_73 : decode cX1_reaches 73 = .ok (.iaload, 1) := by decide +kernel
theorem dX1_reaches_74 : decode cX1_reaches 74 = .ok (.iconst 2, 1) := by decide +kernel
theorem dX1_reaches_75 : decode cX1_reaches 75 = .ok (.idiv, 1) := by decide +kernel
theorem dX1_reaches_76 : decode cX1_reaches 76 = .ok (.invokevirtual 60, 3) := by decide +kernel
theorem dX1_reaches_79 : decode cX1_reaches 79 = .ok (.goto 16, 3) := by decide +kernel
theorem dX1_reaches_82 : decode cX1_reaches 82 = .ok (.aload_n 0, 1) := by decide +kernel
theorem dX1_reaches_83 : decode cX1_reaches 83 = .ok (.aload_n 1, 1) := by decide +kernel
theorem dX1_reaches_84 : decode cX1_reaches 84 = .ok (.aload_n 0, 1) := by decide +kernel
theorem dX1_reaches_85 : decode cX1_reaches 85 = .ok (.getfield 24, 3) := by decide +kernel
theorem dX1_reaches_88 : decode cX1_reaches 88 = .ok (.iload_n 3, 1) := by decide +kernel
theorem dX1_reaches_89 : decode cX1_reaches 89 = .ok (.iaload, 1) := by decide +kernel
theorem dX1_reaches_90 : decode cX1_reaches 90 = .ok (.iconst 2, 1) := by decide +kernel
theorem dX1_reaches_91 : decode cX1_reaches 91 = .ok (.idiv, 1) := by decide +kernel
theorem dX1_reaches_92 : decode cX1_reaches 92 = .ok (.invokevirtual 64, 3) := by decide +kernel
theorem dX1_reaches_95 : decode cX1_reaches 95 = .ok (.iinc 3 1, 3) := by decide +kernel
theorem dX1_reaches_98 : decode cX1_reaches 98 = .ok (.goto (-57), 3) := by decide +kernel
theorem dX1_reaches_101 : decode cX1_reaches 101 = .ok (.aload_n 0, 1) := by decide +kernel
theorem dX1_reaches_102 : decode cX1_reaches 102 = .ok (.getfield 21, 3) := by decide +kernel
theorem dX1_reaches_105 : decode cX1_reaches 105 = .ok (.iconst 2, 1) := by decide +kernel
theorem dX1_reaches_106 : decode cX1_reaches 106 = .ok (.iload_n 2, 1) := by decide +kernel
theorem dX1_reaches_107 : decode cX1_reaches 107 = .ok (.imul, 1) := by decide +kernel
theorem dX1_reaches_108 : decode cX1_reaches 108 = .ok (.iconst 1, 1) := by decide +kernel
theorem dX1_reaches_109 : decode cX1_reaches 109 = .ok (.iadd, 1) := by decide +kernel
theorem dX1_reaches_110 : decode cX1_reaches 110 = .ok (.iaload, 1) := by decide +kernel
theorem dX1_reaches_111 : decode cX1_reaches 111 = .ok (.iconst (-1), 1) := by decide +kernel
theorem dX1_reaches_112 : decode cX1_reaches 112 = .ok (.if_icmp .eq 7, 3) := by decide +kernel
theorem dX1_reaches_115 : decode cX1_reaches 115 = .ok (.iconst 1, 1) := by decide +kernel
theorem dX1_reaches_116 : decode cX1_reaches 116 = .ok (.goto 4, 3) := by decide +kernel
theorem dX1_reaches_119 : decode cX1_reaches 119 = .ok (.iconst 0, 1) := by decide +kernel
theorem dX1_reaches_120 : decode cX1_reaches 120 = .ok (.ireturn, 1) := by decide +kernel
theorem dX1_enqueue_0 : decode cX1_enqueue 0 = .ok (.aload_n 0, 1) := by decide +kernel
theorem dX1_enqueue_1 : decode cX1_enqueue 1 = .ok (.getfield 21, 3) := by decide +kernel
theorem dX1_enqueue_4 : decode cX1_enqueue 4 = .ok (.iload_n 1, 1) := by decide +kernel
theorem dX1_enqueue_5 : decode cX1_enqueue 5 = .ok (.iaload, 1) := by decide +kernel
theorem dX1_enqueue_6 : decode cX1_enqueue 6 = .ok (.iconst (-1), 1) := by decide +kernel
theorem dX1_enqueue_7 : decode cX1_enqueue 7 = .ok (.if_icmp .ne 39, 3) := by decide +kernel
theorem dX1_enqueue_10 : decode cX1_enqueue 10 = .ok (.aload_n 0, 1) := by decide +kernel
theorem dX1_enqueue_11 : decode cX1_enqueue 11 = .ok (.getfield 47, 3) := by decide +kernel
theorem dX1_enqueue_14 : decode cX1_enqueue 14 = .ok (.bipush 50, 2) := by decide +kernel
theorem dX1_enqueue_16 : decode cX1_enqueue 16 = .ok (.if_icmp .ge 30, 3) := by decide +kernel
theorem dX1_enqueue_19 : decode cX1_enqueue 19 = .ok (.aload_n 0, 1) := by decide +kernel
theorem dX1_enqueue_20 : decode cX1_enqueue 20 = .ok (.getfield 21, 3) := by decide +kernel
theorem dX1_enqueue_23 : decode cX1_enqueue 23 = .ok (.iload_n 1, 1) := by decide +kernel
theorem dX1_enqueue_24 : decode cX1_enqueue 24 = .ok (.iload_n 2, 1) := by decide +kernel
theorem dX1_enqueue_25 : decode cX1_enqueue 25 = .ok (.iastore, 1) := by decide +kernel
theorem dX1_enqueue_26 : decode cX1_enqueue 26 = .ok (.aload_n 0, 1) := by decide +kernel
theorem dX1_enqueue_27 : decode cX1_enqueue 27 = .ok (.getfield 24, 3) := by decide +kernel
theorem dX1_enqueue_30 : decode cX1_enqueue 30 = .ok (.aload_n 0, 1) := by decide +kernel
theorem dX1_enqueue_31 : decode cX1_enqueue 31 = .ok (.getfield 47, 3) := by decide +kernel
theorem dX1_enqueue_34 : decode cX1_enqueue 34 = .ok (.iload_n 1, 1) := by decide +kernel
theorem dX1_enqueue_35 : decode cX1_enqueue 35 = .ok (.iastore, 1) := by decide +kernel
theorem dX1_enqueue_36 : decode cX1_enqueue 36 = .ok (.aload_n 0, 1) := by decide +kernel
theorem dX1_enqueue_37 : decode cX1_enqueue 37 = .ok (.dup, 1) := by decide +kernel
theorem dX1_enqueue_38 : decode cX1_enqueue 38 = .ok (.getfield 47, 3) := by decide +kernel
theorem dX1_enqueue_41 : decode cX1_enqueue 41 = .ok (.iconst 1, 1) := by decide +kernel
theorem dX1_enqueue_42 : decode cX1_enqueue 42 = .ok (.iadd, 1) := by decide +kernel
theorem dX1_enqueue_43 : decode cX1_enqueue 43 = .ok (.putfield 47, 3) := by decide +kernel
theorem dX1_enqueue_46 : decode cX1_enqueue 46 = .ok (.return_, 1) := by decide +kernel
theorem dX1_spreadIn_0 : decode cX1_spreadIn 0 = .ok (.aload_n 0, 1) := by decide +kernel
theorem dX1_spreadIn_1 : decode cX1_spreadIn 1 = .ok (.getfield 15, 3) := by decide +kernel
theorem dX1_spreadIn_4 : decode cX1_spreadIn 4 = .ok (.iload_n 2, 1) := by decide +kernel
theorem dX1_spreadIn_5 : decode cX1_spreadIn 5 = .ok (.iaload, 1) := by decide +kernel
theorem dX1_spreadIn_6 : decode cX1_spreadIn 6 = .ok (.aload_n 0, 1) := by decide +kernel
theorem dX1_spreadIn_7 : decode cX1_spreadIn 7 = .ok (.getfield 9, 3) := by decide +kernel
theorem dX1_spreadIn_10 : decode cX1_spreadIn 10 = .ok (.iload_n 2, 1) := by decide +kernel
theorem dX1_spreadIn_11 : decode cX1_spreadIn 11 = .ok (.iaload, 1) := by decide +kernel
theorem dX1_spreadIn_12 : decode cX1_spreadIn 12 = .ok (.if_icmp .ge 15, 3) := by decide +kernel
theorem dX1_spreadIn_15 : decode cX1_spreadIn 15 = .ok (.aload_n 0, 1) := by decide +kernel
theorem dX1_spreadIn_16 : decode cX1_spreadIn 16 = .ok (.iconst 2, 1) := by decide +kernel
theorem dX1_spreadIn_17 : decode cX1_spreadIn 17 = .ok (.iload_n 2, 1) := by decide +kernel
theorem dX1_spreadIn_18 : decode cX1_spreadIn 18 = .ok (.imul, 1) := by decide +kernel
theorem dX1_spreadIn_19 : decode cX1_spreadIn 19 = .ok (.iconst 1, 1) := by decide +kernel
theorem dX1_spreadIn_20 : decode cX1_spreadIn 20 = .ok (.iadd, 1) := by decide +kernel
theorem dX1_spreadIn_21 : decode cX1_spreadIn 21 = .ok (.iconst 2, 1) := by decide +kernel
theorem dX1_spreadIn_22 : decode cX1_spreadIn 22 = .ok (.iload_n 2, 1) := by decide +kernel
theorem dX1_spreadIn_23 : decode cX1_spreadIn 23 = .ok (.imul, 1) := by decide +kernel
theorem dX1_spreadIn_24 : decode cX1_spreadIn 24 = .ok (.invokevirtual 56, 3) := by decide +kernel
theorem dX1_spreadIn_27 : decode cX1_spreadIn 27 = .ok (.aload_n 1, 1) := by decide +kernel
theorem dX1_spreadIn_28 : decode cX1_spreadIn 28 = .ok (.iconst 1, 1) := by decide +kernel
theorem dX1_spreadIn_29 : decode cX1_spreadIn 29 = .ok (.iload_n 2, 1) := by decide +kernel
theorem dX1_spreadIn_30 : decode cX1_spreadIn 30 = .ok (.ishl, 1) := by decide +kernel
theorem dX1_spreadIn_31 : decode cX1_spreadIn 31 = .ok (.invokestatic 67, 3) := by decide +kernel
theorem dX1_spreadIn_34 : decode cX1_spreadIn 34 = .ok (.istore_n 3, 1) := by decide +kernel
theorem dX1_spreadIn_35 : decode cX1_spreadIn 35 = .ok (.iconst 0, 1) := by decide +kernel
theorem dX1_spreadIn_36 : decode cX1_spreadIn 36 = .ok (.istore 4, 2) := by decide +kernel
theorem dX1_spreadIn_38 : decode cX1_spreadIn 38 = .ok (.iload 4, 2) := by decide +kernel
theorem dX1_spreadIn_40 : decode cX1_spreadIn 40 = .ok (.aload_n 1, 1) := by decide +kernel
theorem dX1_spreadIn_41 : decode cX1_spreadIn 41 = .ok (.invokevirtual 73, 3) := by decide +kernel
theorem dX1_spreadIn_44 : decode cX1_spreadIn 44 = .ok (.if_icmp .ge 46, 3) := by decide +kernel
theorem dX1_spreadIn_47 : decode cX1_spreadIn 47 = .ok (.iload_n 3, 1) := by decide +kernel
theorem dX1_spreadIn_48 : decode cX1_spreadIn 48 = .ok (.iload 4, 2) := by decide +kernel
theorem dX1_spreadIn_50 : decode cX1_spreadIn 50 = .ok (.ishr, 1) := by decide +kernel
theorem dX1_spreadIn_51 : decode cX1_spreadIn 51 = .ok (.iconst 1, 1) := by decide +kernel
theorem dX1_spreadIn_52 : decode cX1_spreadIn 52 = .ok (.iand, 1) := by decide +kernel
theorem dX1_spreadIn_53 : decode cX1_spreadIn 53 = .ok (.ifCond .eq 31, 3) := by decide +kernel
theorem dX1_spreadIn_56 : decode cX1_spreadIn 56 = .ok (.aload_n 0, 1) := by decide +kernel
theorem dX1_spreadIn_57 : decode cX1_spreadIn 57 = .ok (.getfield 18, 3) := by decide +kernel
theorem dX1_spreadIn_60 : decode cX1_spreadIn 60 = .ok (.iload 4, 2) := by decide +kernel
theorem dX1_spreadIn_62 : decode cX1_spreadIn 62 = .ok (.bipush 25, 2) := by decide +kernel
theorem dX1_spreadIn_64 : decode cX1_spreadIn 64 = .ok (.imul, 1) := by decide +kernel
theorem dX1_spreadIn_65 : decode cX1_spreadIn 65 = .ok (.iload_n 2, 1) := by decide +kernel
theorem dX1_spreadIn_66 : decode cX1_spreadIn 66 = .ok (.iadd, 1) := by decide +kernel
theorem dX1_spreadIn_67 : decode cX1_spreadIn 67 = .ok (.iaload, 1) := by decide +kernel
theorem dX1_spreadIn_68 : decode cX1_spreadIn 68 = .ok (.ifCond .le 16, 3) := by decide +kernel
theorem dX1_spreadIn_71 : decode cX1_spreadIn 71 = .ok (.aload_n 0, 1) := by decide +kernel
theorem dX1_spreadIn_72 : decode cX1_spreadIn 72 = .ok (.iconst 2, 1) := by decide +kernel
theorem dX1_spreadIn_73 : decode cX1_spreadIn 73 = .ok (.iload 4, 2) := by decide +kernel
theorem dX1_spreadIn_75 : decode cX1_spreadIn 75 = .ok (.imul, 1) := by decide +kernel
theorem dX1_spreadIn_76 : decode cX1_spreadIn 76 = .ok (.iconst 1, 1) := by decide +kernel
theorem dX1_spreadIn_77 : decode cX1_spreadIn 77 = .ok (.iadd, 1) := by decide +kernel
theorem dX1_spreadIn_78 : decode cX1_spreadIn 78 = .ok (.iconst 2, 1) := by decide +kernel
theorem dX1_spreadIn_79 : decode cX1_spreadIn 79 = .ok (.iload_n 2, 1) := by decide +kernel
theorem dX1_spreadIn_80 : decode cX1_spreadIn 80 = .ok (.imul, 1) := by decide +kernel
theorem dX1_spreadIn_81 : decode cX1_spreadIn 81 = .ok (.invokevirtual 56, 3) := by decide +kernel
theorem dX1_spreadIn_84 : decode cX1_spreadIn 84 = .ok (.iinc 4 1, 3) := by decide +kernel
theorem dX1_spreadIn_87 : decode cX1_spreadIn 87 = .ok (.goto (-49), 3) := by decide +kernel
theorem dX1_spreadIn_90 : decode cX1_spreadIn 90 = .ok (.return_, 1) := by decide +kernel
theorem dX1_spreadOut_0 : decode cX1_spreadOut 0 = .ok (.aload_n 0, 1) := by decide +kernel
theorem dX1_spreadOut_1 : decode cX1_spreadOut 1 = .ok (.getfield 15, 3) := by decide +kernel
theorem dX1_spreadOut_4 : decode cX1_spreadOut 4 = .ok (.iload_n 2, 1) := by decide +kernel
theorem dX1_spreadOut_5 : decode cX1_spreadOut 5 = .ok (.iaload, 1) := by decide +kernel
theorem dX1_spreadOut_6 : decode cX1_spreadOut 6 = .ok (.ifCond .le 15, 3) := by decide +kernel
theorem dX1_spreadOut_9 : decode cX1_spreadOut 9 = .ok (.aload_n 0, 1) := by decide +kernel
theorem dX1_spreadOut_10 : decode cX1_spreadOut 10 = .ok (.iconst 2, 1) := by decide +kernel
theorem dX1_spreadOut_11 : decode cX1_spreadOut 11 = .ok (.iload_n 2, 1) := by decide +kernel
theorem dX1_spreadOut_12 : decode cX1_spreadOut 12 = .ok (.imul, 1) := by decide +kernel
theorem dX1_spreadOut_13 : decode cX1_spreadOut 13 = .ok (.iconst 2, 1) := by decide +kernel
theorem dX1_spreadOut_14 : decode cX1_spreadOut 14 = .ok (.iload_n 2, 1) := by decide +kernel
theorem dX1_spreadOut_15 : decode cX1_spreadOut 15 = .ok (.imul, 1) := by decide +kernel
theorem dX1_spreadOut_16 : decode cX1_spreadOut 16 = .ok (.iconst 1, 1) := by decide +kernel
theorem dX1_spreadOut_17 : decode cX1_spreadOut 17 = .ok (.iadd, 1) := by decide +kernel
theorem dX1_spreadOut_18 : decode cX1_spreadOut 18 = .ok (.invokevirtual 56, 3) := by decide +kernel
theorem dX1_spreadOut_21 : decode cX1_spreadOut 21 = .ok (.aload_n 1, 1) := by decide +kernel
theorem dX1_spreadOut_22 : decode cX1_spreadOut 22 = .ok (.iconst 1, 1) := by decide +kernel
theorem dX1_spreadOut_23 : decode cX1_spreadOut 23 = .ok (.iload_n 2, 1) := by decide +kernel
theorem dX1_spreadOut_24 : decode cX1_spreadOut 24 = .ok (.ishl, 1) := by decide +kernel
theorem dX1_spreadOut_25 : decode cX1_spreadOut 25 = .ok (.invokestatic 67, 3) := by decide +kernel
theorem dX1_spreadOut_28 : decode cX1_spreadOut 28 = .ok (.istore_n 3, 1) := by decide +kernel
theorem dX1_spreadOut_29 : decode cX1_spreadOut 29 = .ok (.iconst 0, 1) := by decide +kernel
theorem dX1_spreadOut_30 : decode cX1_spreadOut 30 = .ok (.istore 4, 2) := by decide +kernel
theorem dX1_spreadOut_32 : decode cX1_spreadOut 32 = .ok (.iload 4, 2) := by decide +kernel
theorem dX1_spreadOut_34 : decode cX1_spreadOut 34 = .ok (.aload_n 1, 1) := by decide +kernel
theorem dX1_spreadOut_35 : decode cX1_spreadOut 35 = .ok (.invokevirtual 73, 3) := by decide +kernel
theorem dX1_spreadOut_38 : decode cX1_spreadOut 38 = .ok (.if_icmp .ge 31, 3) := by decide +kernel
theorem dX1_spreadOut_41 : decode cX1_spreadOut 41 = .ok (.iload_n 3, 1) := by decide +kernel
theorem dX1_spreadOut_42 : decode cX1_spreadOut 42 = .ok (.iload 4, 2) := by decide +kernel
theorem dX1_spreadOut_44 : decode cX1_spreadOut 44 = .ok (.ishr, 1) := by decide +kernel
theorem dX1_spreadOut_45 : decode cX1_spreadOut 45 = .ok (.iconst 1, 1) := by decide +kernel
theorem dX1_spreadOut_46 : decode cX1_spreadOut 46 = .ok (.iand, 1) := by decide +kernel
theorem dX1_spreadOut_47 : decode cX1_spreadOut 47 = .ok (.ifCond .eq 16, 3) := by decide +kernel
theorem dX1_spreadOut_50 : decode cX1_spreadOut 50 = .ok (.aload_n 0, 1) := by decide +kernel
theorem dX1_spreadOut_51 : decode cX1_spreadOut 51 = .ok (.iconst 2, 1) := by decide +kernel
theorem dX1_spreadOut_52 : decode cX1_spreadOut 52 = .ok (.iload 4, 2) := by decide +kernel
theorem dX1_spreadOut_54 : decode cX1_spreadOut 54 = .ok (.imul, 1) := by decide +kernel
theorem dX1_spreadOut_55 : decode cX1_spreadOut 55 = .ok (.iconst 2, 1) := by decide +kernel
theorem dX1_spreadOut_56 : decode cX1_spreadOut 56 = .ok (.iload_n 2, 1) := by decide +kernel
theorem dX1_spreadOut_57 : decode cX1_spreadOut 57 = .ok (.imul, 1) := by decide +kernel
theorem dX1_spreadOut_58 : decode cX1_spreadOut 58 = .ok (.iconst 1, 1) := by decide +kernel
theorem dX1_spreadOut_59 : decode cX1_spreadOut 59 = .ok (.iadd, 1) := by decide +kernel
theorem dX1_spreadOut_60 : decode cX1_spreadOut 60 = .ok (.invokevirtual 56, 3) := by decide +kernel
theorem dX1_spreadOut_63 : decode cX1_spreadOut 63 = .ok (.iinc 4 1, 3) := by decide +kernel
theorem dX1_spreadOut_66 : decode cX1_spreadOut 66 = .ok (.goto (-34), 3) := by decide +kernel
theorem dX1_spreadOut_69 : decode cX1_spreadOut 69 = .ok (.return_, 1) := by decide +kernel
theorem dX1_widen_0 : decode cX1_widen 0 = .ok (.iload_n 1, 1) := by decide +kernel
theorem dX1_widen_1 : decode cX1_widen 1 = .ok (.istore_n 2, 1) := by decide +kernel
theorem dX1_widen_2 : decode cX1_widen 2 = .ok (.iconst 0, 1) := by decide +kernel
theorem dX1_widen_3 : decode cX1_widen 3 = .ok (.istore_n 3, 1) := by decide +kernel
theorem dX1_widen_4 : decode cX1_widen 4 = .ok (.iload_n 3, 1) := by decide +kernel
theorem dX1_widen_5 : decode cX1_widen 5 = .ok (.bipush 50, 2) := by decide +kernel
theorem dX1_widen_7 : decode cX1_widen 7 = .ok (.if_icmp .ge 128, 3) := by decide +kernel
theorem dX1_widen_10 : decode cX1_widen 10 = .ok (.aload_n 0, 1) := by decide +kernel
theorem dX1_widen_11 : decode cX1_widen 11 = .ok (.getfield 21, 3) := by decide +kernel
theorem dX1_widen_14 : decode cX1_widen 14 = .ok (.iload_n 2, 1) := by decide +kernel
theorem dX1_widen_15 : decode cX1_widen 15 = .ok (.iaload, 1) := by decide +kernel
theorem dX1_widen_16 : decode cX1_widen 16 = .ok (.iload_n 2, 1) := by decide +kernel
theorem dX1_widen_17 : decode cX1_widen 17 = .ok (.if_icmp .eq 118, 3) := by decide +kernel
theorem dX1_widen_20 : decode cX1_widen 20 = .ok (.aload_n 0, 1) := by decide +kernel
theorem dX1_widen_21 : decode cX1_widen 21 = .ok (.getfield 21, 3) := by decide +kernel
theorem dX1_widen_24 : decode cX1_widen 24 = .ok (.iload_n 2, 1) := by decide +kernel
theorem dX1_widen_25 : decode cX1_widen 25 = .ok (.iaload, 1) := by decide +kernel
theorem dX1_widen_26 : decode cX1_widen 26 = .ok (.iconst (-1), 1) := by decide +kernel
theorem dX1_widen_27 : decode cX1_widen 27 = .ok (.if_icmp .eq 108, 3) := by decide +kernel
theorem dX1_widen_30 : decode cX1_widen 30 = .ok (.aload_n 0, 1) := by decide +kernel
theorem dX1_widen_31 : decode cX1_widen 31 = .ok (.getfield 21, 3) := by decide +kernel
theorem dX1_widen_34 : decode cX1_widen 34 = .ok (.iload_n 2, 1) := by decide +kernel
theorem dX1_widen_35 : decode cX1_widen 35 = .ok (.iaload, 1) := by decide +kernel
theorem dX1_widen_36 : decode cX1_widen 36 = .ok (.istore 4, 2) := by decide +kernel
theorem dX1_widen_38 : decode cX1_widen 38 = .ok (.iload 4, 2) := by decide +kernel
theorem dX1_widen_40 : decode cX1_widen 40 = .ok (.iconst 2, 1) := by decide +kernel
theorem dX1_widen_41 : decode cX1_widen 41 = .ok (.idiv, 1) := by decide +kernel
theorem dX1_widen_42 : decode cX1_widen 42 = .ok (.istore 5, 2) := by decide +kernel
theorem dX1_widen_44 : decode cX1_widen 44 = .ok (.iload_n 2, 1) := by decide +kernel
theorem dX1_widen_45 : decode cX1_widen 45 = .ok (.iconst 2, 1) := by decide +kernel
theorem dX1_widen_46 : decode cX1_widen 46 = .ok (.idiv, 1) := by decide +kernel
theorem dX1_widen_47 : decode cX1_widen 47 = .ok (.istore 6, 2) := by decide +kernel
theorem dX1_widen_49 : decode cX1_widen 49 = .ok (.iload 5, 2) := by decide +kernel
theorem dX1_widen_51 : decode cX1_widen 51 = .ok (.iload 6, 2) := by decide +kernel
theorem dX1_widen_53 : decode cX1_widen 53 = .ok (.if_icmp .ne 28, 3) := by decide +kernel
theorem dX1_widen_56 : decode cX1_widen 56 = .ok (.aload_n 0, 1) := by decide +kernel
theorem dX1_widen_57 : decode cX1_widen 57 = .ok (.getfield 15, 3) := by decide +kernel
theorem dX1_widen_60 : decode cX1_widen 60 = .ok (.iload 5, 2) := by decide +kernel
theorem dX1_widen_62 : decode cX1_widen 62 = .ok (.dup2, 1) := by decide +kernel
theorem dX1_widen_63 : decode cX1_widen 63 = .ok (.iaload, 1) := by decide +kernel
theorem dX1_widen_64 : decode cX1_widen 64 = .ok (.iload 4, 2) := by decide +kernel
theorem dX1_widen_66 : decode cX1_widen 66 = .ok (.iconst 2, 1) := by decide +kernel
theorem dX1_widen_67 : decode cX1_widen 67 = .ok (.irem, 1) := by decide +kernel
theorem dX1_widen_68 : decode cX1_widen 68 = .ok (.ifCond .ne 7, 3) := by decide +kernel
theorem dX1_widen_71 : decode cX1_widen 71 = .ok (.iconst 1, 1) := by decide +kernel
theorem dX1_widen_72 : decode cX1_widen 72 = .ok (.goto 4, 3) := by decide +kernel
theorem dX1_widen_75 : decode cX1_widen 75 = .ok (.iconst (-1), 1) := by decide +kernel
theorem dX1_widen_76 : decode cX1_widen 76 = .ok (.iadd, 1) := by decide +kernel
theorem dX1_widen_77 : decode cX1_widen 77 = .ok (.iastore, 1) := by decide +kernel
theorem dX1_widen_78 : decode cX1_widen 78 = .ok (.goto 48, 3) := by decide +kernel
theorem dX1_widen_81 : decode cX1_widen 81 = .ok (.iload 4, 2) := by decide +kernel
theorem dX1_widen_83 : decode cX1_widen 83 = .ok (.iconst 2, 1) := by decide +kernel
theorem dX1_widen_84 : decode cX1_widen 84 = .ok (.irem, 1) := by decide +kernel
theorem dX1_widen_85 : decode cX1_widen 85 = .ok (.iconst 1, 1) := by decide +kernel
theorem dX1_widen_86 : decode cX1_widen 86 = .ok (.if_icmp .ne 23, 3) := by decide +kernel
theorem dX1_widen_89 : decode cX1_widen 89 = .ok (.aload_n 0, 1) := by decide +kernel
theorem dX1_widen_90 : decode cX1_widen 90 = .ok (.getfield 18, 3) := by decide +kernel
theorem dX1_widen_93 : decode cX1_widen 93 = .ok (.iload 5, 2) := by decide +kernel
theorem dX1_widen_95 : decode cX1_widen 95 = .ok (.bipush 25, 2) := by decide +kernel
theorem dX1_widen_97 : decode cX1_widen 97 = .ok (.imul, 1) := by decide +kernel
theorem dX1_widen_98 : decode cX1_widen 98 = .ok (.iload 6, 2) := by decide +kernel
theorem dX1_widen_100 : decode cX1_widen 100 = .ok (.iadd, 1) := by decide +kernel
theorem dX1_widen_101 : decode cX1_widen 101 = .ok (.dup2, 1) := by decide +kernel
theorem dX1_widen_102 : decode cX1_widen 102 = .ok (.iaload, 1) := by decide +kernel
theorem dX1_widen_103 : decode cX1_widen 103 = .ok (.iconst 1, 1) := by decide +kernel
theorem dX1_widen_104 : decode cX1_widen 104 = .ok (.iadd, 1) := by decide +kernel
theorem dX1_widen_105 : decode cX1_widen 105 = .ok (.iastore, 1) := by decide +kernel
theorem dX1_widen_106 : decode cX1_widen 106 = .ok (.goto 20, 3) := by decide +kernel
theorem dX1_widen_109 : decode cX1_widen 109 = .ok (.aload_n 0, 1) := by decide +kernel
theorem dX1_widen_110 : decode cX1_widen 110 = .ok (.getfield 18, 3) := by decide +kernel
theorem dX1_widen_113 : decode cX1_widen 113 = .ok (.iload 6, 2) := by decide +kernel
theorem dX1_widen_115 : decode cX1_widen 115 = .ok (.bipush 25, 2) := by decide +kernel
theorem dX1_widen_117 : decode cX1_widen 117 = .ok (.imul, 1) := by decide +kernel
theorem dX1_widen_118 : decode cX1_widen 118 = .ok (.iload 5, 2) := by decide +kernel
theorem dX1_widen_120 : decode cX1_widen 120 = .ok (.iadd, 1) := by decide +kernel
theorem dX1_widen_121 : decode cX1_widen 121 = .ok (.dup2, 1) := by decide +kernel
theorem dX1_widen_122 : decode cX1_widen 122 = .ok (.iaload, 1) := by decide +kernel
theorem dX1_widen_123 : decode cX1_widen 123 = .ok (.iconst 1, 1) := by decide +kernel
theorem dX1_widen_124 : decode cX1_widen 124 = .ok (.isub, 1) := by decide +kernel
theorem dX1_widen_125 : decode cX1_widen 125 = .ok (.iastore, 1) := by decide +kernel
theorem dX1_widen_126 : decode cX1_widen 126 = .ok (.iload 4, 2) := by decide +kernel
theorem dX1_widen_128 : decode cX1_widen 128 = .ok (.istore_n 2, 1) := by decide +kernel
theorem dX1_widen_129 : decode cX1_widen 129 = .ok (.iinc 3 1, 3) := by decide +kernel
theorem dX1_widen_132 : decode cX1_widen 132 = .ok (.goto (-128), 3) := by decide +kernel
theorem dX1_widen_135 : decode cX1_widen 135 = .ok (.return_, 1) := by decide +kernel
theorem dX2_init_0 : decode cX2_init 0 = .ok (.aload_n 0, 1) := by decide +kernel
theorem dX2_init_1 : decode cX2_init 1 = .ok (.invokespecial 3, 3) := by decide +kernel
theorem dX2_init_4 : decode cX2_init 4 = .ok (.aload_n 0, 1) := by decide +kernel
theorem dX2_init_5 : decode cX2_init 5 = .ok (.bipush 6, 2) := by decide +kernel
theorem dX2_init_7 : decode cX2_init 7 = .ok (.newarray .long, 2) := by decide +kernel
theorem dX2_init_9 : decode cX2_init 9 = .ok (.putfield 9, 3) := by decide +kernel
theorem dX2_init_12 : decode cX2_init 12 = .ok (.aload_n 0, 1) := by decide +kernel
theorem dX2_init_13 : decode cX2_init 13 = .ok (.bipush 9, 2) := by decide +kernel
theorem dX2_init_15 : decode cX2_init 15 = .ok (.anewarray 15, 3) := by decide +kernel
theorem dX2_init_18 : decode cX2_init 18 = .ok (.putfield 17, 3) := by decide +kernel
theorem dX2_init_21 : decode cX2_init 21 = .ok (.iconst 0, 1) := by decide +kernel
theorem dX2_init_22 : decode cX2_init 22 = .ok (.istore_n 1, 1) := by decide +kernel
theorem dX2_init_23 : decode cX2_init 23 = .ok (.iload_n 1, 1) := by decide +kernel
theorem dX2_init_24 : decode cX2_init 24 = .ok (.bipush 8, 2) := by decide +kernel
theorem dX2_init_26 : decode cX2_init 26 = .ok (.if_icmp .gt 22, 3) := by decide +kernel
theorem dX2_init_29 : decode cX2_init 29 = .ok (.aload_n 0, 1) := by decide +kernel
theorem dX2_init_30 : decode cX2_init 30 = .ok (.getfield 17, 3) := by decide +kernel
theorem dX2_init_33 : decode cX2_init 33 = .ok (.iload_n 1, 1) := by decide +kernel
theorem dX2_init_34 : decode cX2_init 34 = .ok (.new 15, 3) := by decide +kernel
theorem dX2_init_37 : decode cX2_init 37 = .ok (.dup, 1) := by decide +kernel
theorem dX2_init_38 : decode cX2_init 38 = .ok (.invokespecial 21, 3) := by decide +kernel
theorem dX2_init_41 : decode cX2_init 41 = .ok (.aastore, 1) := by decide +kernel
theorem dX2_init_42 : decode cX2_init 42 = .ok (.iinc 1 1, 3) := by decide +kernel
theorem dX2_init_45 : decode cX2_init 45 = .ok (.goto (-22), 3) := by decide +kernel
theorem dX2_init_48 : decode cX2_init 48 = .ok (.return_, 1) := by decide +kernel
theorem dX2_weigh_0 : decode cX2_weigh 0 = .ok (.aload_n 0, 1) := by decide +kernel
theorem dX2_weigh_1 : decode cX2_weigh 1 = .ok (.getfield 9, 3) := by decide +kernel
theorem dX2_weigh_4 : decode cX2_weigh 4 = .ok (.lconst 0, 1) := by decide +kernel
theorem dX2_weigh_5 : decode cX2_weigh 5 = .ok (.invokestatic 22, 3) := by decide +kernel
theorem dX2_weigh_8 : decode cX2_weigh 8 = .ok (.aload_n 0, 1) := by decide +kernel
theorem dX2_weigh_9 : decode cX2_weigh 9 = .ok (.getfield 17, 3) := by decide +kernel
theorem dX2_weigh_12 : decode cX2_weigh 12 = .ok (.iconst 0, 1) := by decide +kernel
theorem dX2_weigh_13 : decode cX2_weigh 13 = .ok (.aaload, 1) := by decide +kernel
theorem dX2_weigh_14 : decode cX2_weigh 14 = .ok (.aload_n 2, 1) := by decide +kernel
theorem dX2_weigh_15 : decode cX2_weigh 15 = .ok (.invokevirtual 28, 3) := by decide +kernel
theorem dX2_weigh_18 : decode cX2_weigh 18 = .ok (.aload_n 0, 1) := by decide +kernel
theorem dX2_weigh_19 : decode cX2_weigh 19 = .ok (.aload_n 1, 1) := by decide +kernel
theorem dX2_weigh_20 : decode cX2_weigh 20 = .ok (.aload_n 3, 1) := by decide +kernel
theorem dX2_weigh_21 : decode cX2_weigh 21 = .ok (.iconst 0, 1) := by decide +kernel
theorem dX2_weigh_22 : decode cX2_weigh 22 = .ok (.iload 4, 2) := by decide +kernel
theorem dX2_weigh_24 : decode cX2_weigh 24 = .ok (.bipush 8, 2) := by decide +kernel
theorem dX2_weigh_26 : decode cX2_weigh 26 = .ok (.invokestatic 32, 3) := by decide +kernel
theorem dX2_weigh_29 : decode cX2_weigh 29 = .ok (.lconst 1, 1) := by decide +kernel
theorem dX2_weigh_30 : decode cX2_weigh 30 = .ok (.invokevirtual 38, 3) := by decide +kernel
theorem dX2_weigh_33 : decode cX2_weigh 33 = .ok (.return_, 1) := by decide +kernel
theorem dX2_blow_0 : decode cX2_blow 0 = .ok (.aload_n 0, 1) := by decide +kernel
theorem dX2_blow_1 : decode cX2_blow 1 = .ok (.getfield 17, 3) := by decide +kernel
theorem dX2_blow_4 : decode cX2_blow 4 = .ok (.iload_n 3, 1) := by decide +kernel
theorem dX2_blow_5 : decode cX2_blow 5 = .ok (.aaload, 1) := by decide +kernel
theorem dX2_blow_6 : decode cX2_blow 6 = .ok (.astore 7, 2) := by decide +kernel
theorem dX2_blow_8 : decode cX2_blow 8 = .ok (.aload 7, 2) := by decide +kernel
theorem dX2_blow_10 : decode cX2_blow 10 = .ok (.getfield 42, 3) := by decide +kernel
theorem dX2_blow_13 : decode cX2_blow 13 = .ok (.ifCond .ne 4, 3) := by decide +kernel
theorem dX2_blow_16 : decode cX2_blow 16 = .ok (.return_, 1) := by decide +kernel
theorem dX2_blow_17 : decode cX2_blow 17 = .ok (.iload_n 3, 1) := by decide +kernel
theorem dX2_blow_18 : decode cX2_blow 18 = .ok (.iload 4, 2) := by decide +kernel
theorem dX2_blow_20 : decode cX2_blow 20 = .ok (.if_icmp .lt 12, 3) := by decide +kernel
theorem dX2_blow_23 : decode cX2_blow 23 = .ok (.aload_n 0, 1) := by decide +kernel
theorem dX2_blow_24 : decode cX2_blow 24 = .ok (.aload 7, 2) := by decide +kernel
theorem dX2_blow_26 : decode cX2_blow 26 = .ok (.lload 5, 2) := by decide +kernel
theorem dX2_blow_28 : decode cX2_blow 28 = .ok (.invokevirtual 46, 3) := by decide +kernel
theorem dX2_blow_31 : decode cX2_blow 31 = .ok (.return_, 1) := by decide +kernel
theorem dX2_blow_32 : decode cX2_blow 32 = .ok (.aload_n 2, 1) := by decide +kernel
theorem dX2_blow_33 : decode cX2_blow 33 = .ok (.aload_n 1, 1) := by decide +kernel
theorem dX2_blow_34 : decode cX2_blow 34 = .ok (.aload 7, 2) := by decide +kernel
theorem dX2_blow_36 : decode cX2_blow 36 = .ok (.getfield 50, 3) := by decide +kernel
theorem dX2_blow_39 : decode cX2_blow 39 = .ok (.iconst 1, 1) := by decide +kernel
theorem dX2_blow_40 : decode cX2_blow 40 = .ok (.iadd, 1) := by decide +kernel
theorem dX2_blow_41 : decode cX2_blow 41 = .ok (.aload 7, 2) := by decide +kernel
theorem dX2_blow_43 : decode cX2_blow 43 = .ok (.getfield 53, 3) := by decide +kernel
theorem dX2_blow_46 : decode cX2_blow 46 = .ok (.invokevirtual 56, 3) := by decide +kernel
theorem dX2_blow_49 : decode cX2_blow 49 = .ok (.istore 8, 2) := by decide +kernel
theorem dX2_blow_51 : decode cX2_blow 51 = .ok (.iload 8, 2) := by decide +kernel
theorem dX2_blow_53 : decode cX2_blow 53 = .ok (.bipush 10, 2) := by decide +kernel
theorem dX2_blow_55 : decode cX2_blow 55 = .ok (.if_icmp .ge 10, 3) := by decide +kernel
theorem dX2_blow_58 : decode cX2_blow 58 = .ok (.aload_n 1, 1) := by decide +kernel
theorem dX2_blow_59 : decode cX2_blow 59 = .ok (.getfield 62, 3) := by decide +kernel
theorem dX2_blow_62 : decode cX2_blow 62 = .ok (.goto 4, 3) := by decide +kernel
theorem dX2_blow_65 : decode cX2_blow 65 = .ok (.iconst 0, 1) := by decide +kernel
theorem dX2_blow_66 : decode cX2_blow 66 = .ok (.istore 9, 2) := by decide +kernel
theorem dX2_blow_68 : decode cX2_blow 68 = .ok (.iload 9, 2) := by decide +kernel
theorem dX2_blow_70 : decode cX2_blow 70 = .ok (.bipush 10, 2) := by decide +kernel
theorem dX2_blow_72 : decode cX2_blow 72 = .ok (.if_icmp .ge 52, 3) := by decide +kernel
theorem dX2_blow_75 : decode cX2_blow 75 = .ok (.aload_n 0, 1) := by decide +kernel
theorem dX2_blow_76 : decode cX2_blow 76 = .ok (.getfield 17, 3) := by decide +kernel
theorem dX2_blow_79 : decode cX2_blow 79 = .ok (.iload_n 3, 1) := by decide +kernel
theorem dX2_blow_80 : decode cX2_blow 80 = .ok (.iconst 1, 1) := by decide +kernel
theorem dX2_blow_81 : decode cX2_blow 81 = .ok (.iadd, 1) := by decide +kernel
theorem dX2_blow_82 : decode cX2_blow 82 = .ok (.aaload, 1) := by decide +kernel
theorem dX2_blow_83 : decode cX2_blow 83 = .ok (.aload 7, 2) := by decide +kernel
theorem dX2_blow_85 : decode cX2_blow 85 = .ok (.invokevirtual 28, 3) := by decide +kernel
theorem dX2_blow_88 : decode cX2_blow 88 = .ok (.aload_n 2, 1) := by decide +kernel
theorem dX2_blow_89 : decode cX2_blow 89 = .ok (.aload_n 1, 1) := by decide +kernel
theorem dX2_blow_90 : decode cX2_blow 90 = .ok (.aload_n 0, 1) := by decide +kernel
theorem dX2_blow_91 : decode cX2_blow 91 = .ok (.getfield 17, 3) := by decide +kernel
theorem dX2_blow_94 : decode cX2_blow 94 = .ok (.iload_n 3, 1) := by decide +kernel
theorem dX2_blow_95 : decode cX2_blow 95 = .ok (.iconst 1, 1) := by decide +kernel
theorem dX2_blow_96 : decode cX2_blow 96 = .ok (.iadd, 1) := by decide +kernel
theorem dX2_blow_97 : decode cX2_blow 97 = .ok (.aaload, 1) := by decide +kernel
theorem dX2_blow_98 : decode cX2_blow 98 = .ok (.iload 8, 2) := by decide +kernel
theorem dX2_blow_100 : decode cX2_blow 100 = .ok (.invokevirtual 67, 3) := by decide +kernel
theorem dX2_blow_103 : decode cX2_blow 103 = .ok (.pop, 1) := by decide +kernel
theorem dX2_blow_104 : decode cX2_blow 104 = .ok (.aload_n 0, 1) := by decide +kernel
theorem dX2_blow_105 : decode cX2_blow 105 = .ok (.aload_n 1, 1) := by decide +kernel
theorem dX2_blow_106 : decode cX2_blow 106 = .ok (.aload_n 2, 1) := by decide +kernel
theorem dX2_blow_107 : decode cX2_blow 107 = .ok (.iload_n 3, 1) := by decide +kernel
theorem dX2_blow_108 : decode cX2_blow 108 = .ok (.iconst 1, 1) := by decide +kernel
theorem dX2_blow_109 : decode cX2_blow 109 = .ok (.iadd, 1) := by decide +kernel
theorem dX2_blow_110 : decode cX2_blow 110 = .ok (.iload 4, 2) := by decide +kernel
theorem dX2_blow_112 : decode cX2_blow 112 = .ok (.lload 5, 2) := by decide +kernel
theorem dX2_blow_114 : decode cX2_blow 114 = .ok (.bipush 10, 2) := by decide +kernel
theorem dX2_blow_116 : decode cX2_blow 116 = .ok (.iload 9, 2) := by decide +kernel
theorem dX2_blow_118 : decode cX2_blow 118 = .ok (.isub, 1) := by decide +kernel
theorem dX2_blow_119 : decode cX2_blow 119 = .ok (.i2l, 1) := by decide +kernel
theorem dX2_blow_120 : decode cX2_blow 120 = .ok (.lmul, 1) := by decide +kernel
theorem dX2_blow_121 : decode cX2_blow 121 = .ok (.invokevirtual 38, 3) := by decide +kernel
theorem dX2_blow_124 : decode cX2_blow 124 = .ok (.iload 9, 2) := by decide +kernel
theorem dX2_blow_126 : decode cX2_blow 126 = .ok (.ifCond .le 51, 3) := by decide +kernel
theorem dX2_blow_129 : decode cX2_blow 129 = .ok (.aload_n 0, 1) := by decide +kernel
theorem dX2_blow_130 : decode cX2_blow 130 = .ok (.getfield 17, 3) := by decide +kernel
theorem dX2_blow_133 : decode cX2_blow 133 = .ok (.iload_n 3, 1) := by decide +kernel
theorem dX2_blow_134 : decode cX2_blow 134 = .ok (.iconst 1, 1) := by decide +kernel
theorem dX2_blow_135 : decode cX2_blow 135 = .ok (.iadd, 1) := by decide +kernel
theorem dX2_blow_136 : decode cX2_blow 136 = .ok (.aaload, 1) := by decide +kernel
theorem dX2_blow_137 : decode cX2_blow 137 = .ok (.aload 7, 2) := by decide +kernel
theorem dX2_blow_139 : decode cX2_blow 139 = .ok (.invokevirtual 28, 3) := by decide +kernel
theorem dX2_blow_142 : decode cX2_blow 142 = .ok (.aload_n 2, 1) := by decide +kernel
theorem dX2_blow_143 : decode cX2_blow 143 = .ok (.aload_n 1, 1) := by decide +kernel
theorem dX2_blow_144 : decode cX2_blow 144 = .ok (.aload_n 0, 1) := by decide +kernel
theorem dX2_blow_145 : decode cX2_blow 145 = .ok (.getfield 17, 3) := by decide +kernel
theorem dX2_blow_148 : decode cX2_blow 148 = .ok (.iload_n 3, 1) := by decide +kernel
theorem dX2_blow_149 : decode cX2_blow 149 = .ok (.iconst 1, 1) := by decide +kernel
theorem dX2_blow_150 : decode cX2_blow 150 = .ok (.iadd, 1) := by decide +kernel
theorem dX2_blow_151 : decode cX2_blow 151 = .ok (.aaload, 1) := by decide +kernel
theorem dX2_blow_152 : decode cX2_blow 152 = .ok (.iload 8, 2) := by decide +kernel
theorem dX2_blow_154 : decode cX2_blow 154 = .ok (.iconst 1, 1) := by decide +kernel
theorem dX2_blow_155 : decode cX2_blow 155 = .ok (.iadd, 1) := by decide +kernel
theorem dX2_blow_156 : decode cX2_blow 156 = .ok (.invokevirtual 67, 3) := by decide +kernel
theorem dX2_blow_159 : decode cX2_blow 159 = .ok (.pop, 1) := by decide +kernel
theorem dX2_blow_160 : decode cX2_blow 160 = .ok (.aload_n 0, 1) := by decide +kernel
theorem dX2_blow_161 : decode cX2_blow 161 = .ok (.aload_n 1, 1) := by decide +kernel
theorem dX2_blow_162 : decode cX2_blow 162 = .ok (.aload_n 2, 1) := by decide +kernel
theorem dX2_blow_163 : decode cX2_blow 163 = .ok (.iload_n 3, 1) := by decide +kernel
theorem dX2_blow_164 : decode cX2_blow 164 = .ok (.iconst 1, 1) := by decide +kernel
theorem dX2_blow_165 : decode cX2_blow 165 = .ok (.iadd, 1) := by decide +kernel
theorem dX2_blow_166 : decode cX2_blow 166 = .ok (.iload 4, 2) := by decide +kernel
theorem dX2_blow_168 : decode cX2_blow 168 = .ok (.lload 5, 2) := by decide +kernel
theorem dX2_blow_170 : decode cX2_blow 170 = .ok (.iload 9, 2) := by decide +kernel
theorem dX2_blow_172 : decode cX2_blow 172 = .ok (.i2l, 1) := by decide +kernel
theorem dX2_blow_173 : decode cX2_blow 173 = .ok (.lmul, 1) := by decide +kernel
theorem dX2_blow_174 : decode cX2_blow 174 = .ok (.invokevirtual 38, 3) := by decide +kernel
theorem dX2_blow_177 : decode cX2_blow 177 = .ok (.return_, 1) := by decide +kernel
theorem dX2_tally_0 : decode cX2_tally 0 = .ok (.iconst 0, 1) := by decide +kernel
theorem dX2_tally_1 : decode cX2_tally 1 = .ok (.istore 4, 2) := by decide +kernel
theorem dX2_tally_3 : decode cX2_tally 3 = .ok (.iload 4, 2) := by decide +kernel
theorem dX2_tally_5 : decode cX2_tally 5 = .ok (.bipush 6, 2) := by decide +kernel
theorem dX2_tally_7 : decode cX2_tally 7 = .ok (.if_icmp .ge 32, 3) := by decide +kernel
theorem dX2_tally_10 : decode cX2_tally 10 = .ok (.aload_n 1, 1) := by decide +kernel
theorem dX2_tally_11 : decode cX2_tally 11 = .ok (.getfield 42, 3) := by decide +kernel
theorem dX2_tally_14 : decode cX2_tally 14 = .ok (.iload 4, 2) := by decide +kernel
theorem dX2_tally_16 : decode cX2_tally 16 = .ok (.ishr, 1) := by decide +kernel
theorem dX2_tally_17 : decode cX2_tally 17 = .ok (.iconst 1, 1) := by decide +kernel
theorem dX2_tally_18 : decode cX2_tally 18 = .ok (.iand, 1) := by decide +kernel
theorem dX2_tally_19 : decode cX2_tally 19 = .ok (.ifCond .eq 14, 3) := by decide +kernel
theorem dX2_tally_22 : decode cX2_tally 22 = .ok (.aload_n 0, 1) := by decide +kernel
theorem dX2_tally_23 : decode cX2_tally 23 = .ok (.getfield 9, 3) := by decide +kernel
theorem dX2_tally_26 : decode cX2_tally 26 = .ok (.iload 4, 2) := by decide +kernel
theorem dX2_tally_28 : decode cX2_tally 28 = .ok (.dup2, 1) := by decide +kernel
theorem dX2_tally_29 : decode cX2_tally 29 = .ok (.laload, 1) := by decide +kernel
theorem dX2_tally_30 : decode cX2_tally 30 = .ok (.lload_n 2, 1) := by decide +kernel
theorem dX2_tally_31 : decode cX2_tally 31 = .ok (.ladd, 1) := by decide +kernel
theorem dX2_tally_32 : decode cX2_tally 32 = .ok (.lastore, 1) := by decide +kernel
theorem dX2_tally_33 : decode cX2_tally 33 = .ok (.iinc 4 1, 3) := by decide +kernel
theorem dX2_tally_36 : decode cX2_tally 36 = .ok (.goto (-33), 3) := by decide +kernel
theorem dX2_tally_39 : decode cX2_tally 39 = .ok (.return_, 1) := by decide +kernel
theorem dX2_lowest_0 : decode cX2_lowest 0 = .ok (.lconst 1, 1) := by decide +kernel
theorem dX2_lowest_1 : decode cX2_lowest 1 = .ok (.lstore 4, 2) := by decide +kernel
theorem dX2_lowest_3 : decode cX2_lowest 3 = .ok (.iconst 0, 1) := by decide +kernel
theorem dX2_lowest_4 : decode cX2_lowest 4 = .ok (.istore 6, 2) := by decide +kernel
theorem dX2_lowest_6 : decode cX2_lowest 6 = .ok (.iload 6, 2) := by decide +kernel
theorem dX2_lowest_8 : decode cX2_lowest 8 = .ok (.iload_n 2, 1) := by decide +kernel
theorem dX2_lowest_9 : decode cX2_lowest 9 = .ok (.if_icmp .ge 24, 3) := by decide +kernel
theorem dX2_lowest_12 : decode cX2_lowest 12 = .ok (.iload 6, 2) := by decide +kernel
theorem dX2_lowest_14 : decode cX2_lowest 14 = .ok (.bipush 8, 2) := by decide +kernel
theorem dX2_lowest_16 : decode cX2_lowest 16 = .ok (.if_icmp .ge 17, 3) := by decide +kernel
theorem dX2_lowest_19 : decode cX2_lowest 19 = .ok (.lload 4, 2) := by decide +kernel
theorem dX2_lowest_21 : decode cX2_lowest 21 = .ok (.ldc2_w 71, 3) := by decide +kernel
theorem dX2_lowest_24 : decode cX2_lowest 24 = .ok (.lmul, 1) := by decide +kernel
theorem dX2_lowest_25 : decode cX2_lowest 25 = .ok (.lstore 4, 2) := by decide +kernel
theorem dX2_lowest_27 : decode cX2_lowest 27 = .ok (.iinc 6 1, 3) := by decide +kernel
theorem dX2_lowest_30 : decode cX2_lowest 30 = .ok (.goto (-24), 3) := by decide +kernel
theorem dX2_lowest_33 : decode cX2_lowest 33 = .ok (.lload 4, 2) := by decide +kernel
theorem dX2_lowest_35 : decode cX2_lowest 35 = .ok (.lstore 6, 2) := by decide +kernel
theorem dX2_lowest_37 : decode cX2_lowest 37 = .ok (.lload_n 0, 1) := by decide +kernel
theorem dX2_lowest_38 : decode cX2_lowest 38 = .ok (.lstore 8, 2) := by decide +kernel
theorem dX2_lowest_40 : decode cX2_lowest 40 = .ok (.iconst 0, 1) := by decide +kernel
theorem dX2_lowest_41 : decode cX2_lowest 41 = .ok (.istore 10, 2) := by decide +kernel
theorem dX2_lowest_43 : decode cX2_lowest 43 = .ok (.iload 10, 2) := by decide +kernel
theorem dX2_lowest_45 : decode cX2_lowest 45 = .ok (.bipush 100, 2) := by decide +kernel
theorem dX2_lowest_47 : decode cX2_lowest 47 = .ok (.if_icmp .ge 31, 3) := by decide +kernel
theorem dX2_lowest_50 : decode cX2_lowest 50 = .ok (.lload 8, 2) := by decide +kernel
theorem dX2_lowest_52 : decode cX2_lowest 52 = .ok (.lconst 0, 1) := by decide +kernel
theorem dX2_lowest_53 : decode cX2_lowest 53 = .ok (.lcmp, 1) := by decide +kernel
theorem dX2_lowest_54 : decode cX2_lowest 54 = .ok (.ifCond .eq 24, 3) := by decide +kernel
theorem dX2_lowest_57 : decode cX2_lowest 57 = .ok (.lload 6, 2) := by decide +kernel
theorem dX2_lowest_59 : decode cX2_lowest 59 = .ok (.lload 8, 2) := by decide +kernel
theorem dX2_lowest_61 : decode cX2_lowest 61 = .ok (.lrem, 1) := by decide +kernel
theorem dX2_lowest_62 : decode cX2_lowest 62 = .ok (.lstore 11, 2) := by decide +kernel
theorem dX2_lowest_64 : decode cX2_lowest 64 = .ok (.lload 8, 2) := by decide +kernel
theorem dX2_lowest_66 : decode cX2_lowest 66 = .ok (.lstore 6, 2) := by decide +kernel
theorem dX2_lowest_68 : decode cX2_lowest 68 = .ok (.lload 11, 2) := by decide +kernel
theorem dX2_lowest_70 : decode cX2_lowest 70 = .ok (.lstore 8, 2) := by decide +kernel
theorem dX2_lowest_72 : decode cX2_lowest 72 = .ok (.iinc 10 1, 3) := by decide +kernel
theorem dX2_lowest_75 : decode cX2_lowest 75 = .ok (.goto (-32), 3) := by decide +kernel
theorem dX2_lowest_78 : decode cX2_lowest 78 = .ok (.lload 6, 2) := by decide +kernel
theorem dX2_lowest_80 : decode cX2_lowest 80 = .ok (.lconst 0, 1) := by decide +kernel
theorem dX2_lowest_81 : decode cX2_lowest 81 = .ok (.lcmp, 1) := by decide +kernel
theorem dX2_lowest_82 : decode cX2_lowest 82 = .ok (.ifCond .ne 5, 3) := by decide +kernel
theorem dX2_lowest_85 : decode cX2_lowest 85 = .ok (.iconst 0, 1) := by decide +kernel
theorem dX2_lowest_86 : decode cX2_lowest 86 = .ok (.ireturn, 1) := by decide +kernel
theorem dX2_lowest_87 : decode cX2_lowest 87 = .ok (.iload_n 3, 1) := by decide +kernel
theorem dX2_lowest_88 : decode cX2_lowest 88 = .ok (.ifCond .ne 7, 3) := by decide +kernel
theorem dX2_lowest_91 : decode cX2_lowest 91 = .ok (.lload_n 0, 1) := by decide +kernel
theorem dX2_lowest_92 : decode cX2_lowest 92 = .ok (.goto 5, 3) := by decide +kernel
theorem dX2_lowest_95 : decode cX2_lowest 95 = .ok (.lload 4, 2) := by decide +kernel
theorem dX2_lowest_97 : decode cX2_lowest 97 = .ok (.lload 6, 2) := by decide +kernel
theorem dX2_lowest_99 : decode cX2_lowest 99 = .ok (.ldiv, 1) := by decide +kernel
theorem dX2_lowest_100 : decode cX2_lowest 100 = .ok (.l2i, 1) := by decide +kernel
theorem dX2_lowest_101 : decode cX2_lowest 101 = .ok (.ireturn, 1) := by decide +kernel
theorem dX3_init_0 : decode cX3_init 0 = .ok (.aload_n 0, 1) := by decide +kernel
theorem dX3_init_1 : decode cX3_init 1 = .ok (.invokespecial 3, 3) := by decide +kernel
theorem dX3_init_4 : decode cX3_init 4 = .ok (.aload_n 0, 1) := by decide +kernel
theorem dX3_init_5 : decode cX3_init 5 = .ok (.iconst 1, 1) := by decide +kernel
theorem dX3_init_6 : decode cX3_init 6 = .ok (.putfield 9, 3) := by decide +kernel
theorem dX3_init_9 : decode cX3_init 9 = .ok (.aload_n 0, 1) := by decide +kernel
theorem dX3_init_10 : decode cX3_init 10 = .ok (.iconst 1, 1) := by decide +kernel
theorem dX3_init_11 : decode cX3_init 11 = .ok (.putfield 15, 3) := by decide +kernel
theorem dX3_init_14 : decode cX3_init 14 = .ok (.aload_n 0, 1) := by decide +kernel
theorem dX3_init_15 : decode cX3_init 15 = .ok (.iconst 1, 1) := by decide +kernel
theorem dX3_init_16 : decode cX3_init 16 = .ok (.putfield 18, 3) := by decide +kernel
theorem dX3_init_19 : decode cX3_init 19 = .ok (.aload_n 0, 1) := by decide +kernel
theorem dX3_init_20 : decode cX3_init 20 = .ok (.bipush 6, 2) := by decide +kernel
theorem dX3_init_22 : decode cX3_init 22 = .ok (.newarray .int, 2) := by decide +kernel
theorem dX3_init_24 : decode cX3_init 24 = .ok (.putfield 21, 3) := by decide +kernel
theorem dX3_init_27 : decode cX3_init 27 = .ok (.aload_n 0, 1) := by decide +kernel
theorem dX3_init_28 : decode cX3_init 28 = .ok (.bipush 6, 2) := by decide +kernel
theorem dX3_init_30 : decode cX3_init 30 = .ok (.newarray .int, 2) := by decide +kernel
theorem dX3_init_32 : decode cX3_init 32 = .ok (.putfield 25, 3) := by decide +kernel
theorem dX3_init_35 : decode cX3_init 35 = .ok (.aload_n 0, 1) := by decide +kernel
theorem dX3_init_36 : decode cX3_init 36 = .ok (.bipush 6, 2) := by decide +kernel
theorem dX3_init_38 : decode cX3_init 38 = .ok (.newarray .int, 2) := by decide +kernel
theorem dX3_init_40 : decode cX3_init 40 = .ok (.putfield 28, 3) := by decide +kernel
theorem dX3_init_43 : decode cX3_init 43 = .ok (.aload_n 0, 1) := by decide +kernel
theorem dX3_init_44 : decode cX3_init 44 = .ok (.bipush 6, 2) := by decide +kernel
theorem dX3_init_46 : decode cX3_init 46 = .ok (.newarray .int, 2) := by decide +kernel
theorem dX3_init_48 : decode cX3_init 48 = .ok (.putfield 31, 3) := by decide +kernel
theorem dX3_init_51 : decode cX3_init 51 = .ok (.aload_n 0, 1) := by decide +kernel
theorem dX3_init_52 : decode cX3_init 52 = .ok (.iconst 5, 1) := by decide +kernel
theorem dX3_init_53 : decode cX3_init 53 = .ok (.newarray .int, 2) := by decide +kernel
theorem dX3_init_55 : decode cX3_init 55 = .ok (.putfield 34, 3) := by decide +kernel
theorem dX3_init_58 : decode cX3_init 58 = .ok (.aload_n 0, 1) := by decide +kernel
theorem dX3_init_59 : decode cX3_init 59 = .ok (.sipush 900, 3) := by decide +kernel
theorem dX3_init_62 : decode cX3_init 62 = .ok (.newarray .int, 2) := by decide +kernel
theorem dX3_init_64 : decode cX3_init 64 = .ok (.putfield 37, 3) := by decide +kernel
theorem dX3_init_67 : decode cX3_init 67 = .ok (.return_, 1) := by decide +kernel
theorem dX3_cells_0 : decode cX3_cells 0 = .ok (.aload_n 0, 1) := by decide +kernel
theorem dX3_cells_1 : decode cX3_cells 1 = .ok (.getfield 9, 3) := by decide +kernel
theorem dX3_cells_4 : decode cX3_cells 4 = .ok (.aload_n 0, 1) := by decide +kernel
theorem dX3_cells_5 : decode cX3_cells 5 = .ok (.getfield 15, 3) := by decide +kernel
theorem dX3_cells_8 : decode cX3_cells 8 = .ok (.imul, 1) := by decide +kernel
theorem dX3_cells_9 : decode cX3_cells 9 = .ok (.ireturn, 1) := by decide +kernel
theorem dX3_setSize_0 : decode cX3_setSize 0 = .ok (.aload_n 0, 1) := by decide +kernel
theorem dX3_setSize_1 : decode cX3_setSize 1 = .ok (.iload_n 1, 1) := by decide +kernel
theorem dX3_setSize_2 : decode cX3_setSize 2 = .ok (.putfield 9, 3) := by decide +kernel
theorem dX3_setSize_5 : decode cX3_setSize 5 = .ok (.aload_n 0, 1) := by decide +kernel
theorem dX3_setSize_6 : decode cX3_setSize 6 = .ok (.iload_n 2, 1) := by decide +kernel
theorem dX3_setSize_7 : decode cX3_setSize 7 = .ok (.putfield 15, 3) := by decide +kernel
theorem dX3_setSize_10 : decode cX3_setSize 10 = .ok (.aload_n 0, 1) := by decide +kernel
theorem dX3_setSize_11 : decode cX3_setSize 11 = .ok (.iconst 0, 1) := by decide +kernel
theorem dX3_setSize_12 : decode cX3_setSize 12 = .ok (.putfield 18, 3) := by decide +kernel
theorem dX3_setSize_15 : decode cX3_setSize 15 = .ok (.iconst 0, 1) := by decide +kernel
theorem dX3_setSize_16 : decode cX3_setSize 16 = .ok (.istore_n 3, 1) := by decide +kernel
theorem dX3_setSize_17 : decode cX3_setSize 17 = .ok (.iload_n 3, 1) := by decide +kernel
theorem dX3_setSize_18 : decode cX3_setSize 18 = .ok (.aload_n 0, 1) := by decide +kernel
theorem dX3_setSize_19 : decode cX3_setSize 19 = .ok (.getfield 9, 3) := by decide +kernel
theorem dX3_setSize_22 : decode cX3_setSize 22 = .ok (.if_icmp .ge 26, 3) := by decide +kernel
theorem dX3_setSize_25 : decode cX3_setSize 25 = .ok (.aload_n 0, 1) := by decide +kernel
theorem dX3_setSize_26 : decode cX3_setSize 26 = .ok (.dup, 1) := by decide +kernel
theorem dX3_setSize_27 : decode cX3_setSize 27 = .ok (.getfield 18, 3) := by decide +kernel
theorem dX3_setSize_30 : decode cX3_setSize 30 = .ok (.iconst 1, 1) := by decide +kernel
theorem dX3_setSize_31 : decode cX3_setSize 31 = .ok (.iload_n 3, 1) := by decide +kernel
theorem dX3_setSize_32 : decode cX3_setSize 32 = .ok (.aload_n 0, 1) := by decide +kernel
theorem dX3_setSize_33 : decode cX3_setSize 33 = .ok (.getfield 15, 3) := by decide +kernel
theorem dX3_setSize_36 : decode cX3_setSize 36 = .ok (.imul, 1) := by decide +kernel
theorem dX3_setSize_37 : decode cX3_setSize 37 = .ok (.ishl, 1) := by decide +kernel
theorem dX3_setSize_38 : decode cX3_setSize 38 = .ok (.ior, 1) := by decide +kernel
theorem dX3_setSize_39 : decode cX3_setSize 39 = .ok (.putfield 18, 3) := by decide +kernel
theorem dX3_setSize_42 : decode cX3_setSize 42 = .ok (.iinc 3 1, 3) := by decide +kernel
theorem dX3_setSize_45 : decode cX3_setSize 45 = .ok (.goto (-28), 3) := by decide +kernel
theorem dX3_setSize_48 : decode cX3_setSize 48 = .ok (.return_, 1) := by decide +kernel
theorem dX3_clear_0 : decode cX3_clear 0 = .ok (.aload_n 0, 1) := by decide +kernel
theorem dX3_clear_1 : decode cX3_clear 1 = .ok (.iconst 1, 1) := by decide +kernel
theorem dX3_clear_2 : decode cX3_clear 2 = .ok (.iconst 1, 1) := by decide +kernel
theorem dX3_clear_3 : decode cX3_clear 3 = .ok (.invokevirtual 40, 3) := by decide +kernel
theorem dX3_clear_6 : decode cX3_clear 6 = .ok (.aload_n 0, 1) := by decide +kernel
theorem dX3_clear_7 : decode cX3_clear 7 = .ok (.iconst 0, 1) := by decide +kernel
theorem dX3_clear_8 : decode cX3_clear 8 = .ok (.putfield 44, 3) := by decide +kernel
theorem dX3_clear_11 : decode cX3_clear 11 = .ok (.aload_n 0, 1) := by decide +kernel
theorem dX3_clear_12 : decode cX3_clear 12 = .ok (.iconst 0, 1) := by decide +kernel
theorem dX3_clear_13 : decode cX3_clear 13 = .ok (.putfield 47, 3) := by decide +kernel
theorem dX3_clear_16 : decode cX3_clear 16 = .ok (.aload_n 0, 1) := by decide +kernel
theorem dX3_clear_17 : decode cX3_clear 17 = .ok (.iconst 0, 1) := by decide +kernel
theorem dX3_clear_18 : decode cX3_clear 18 = .ok (.putfield 50, 3) := by decide +kernel
theorem dX3_clear_21 : decode cX3_clear 21 = .ok (.aload_n 0, 1) := by decide +kernel
theorem dX3_clear_22 : decode cX3_clear 22 = .ok (.iconst 0, 1) := by decide +kernel
theorem dX3_clear_23 : decode cX3_clear 23 = .ok (.putfield 53, 3) := by decide +kernel
theorem dX3_clear_26 : decode cX3_clear 26 = .ok (.aload_n 0, 1) := by decide +kernel
theorem dX3_clear_27 : decode cX3_clear 27 = .ok (.iconst 0, 1) := by decide +kernel
theorem dX3_clear_28 : decode cX3_clear 28 = .ok (.putfield 56, 3) := by decide +kernel
theorem dX3_clear_31 : decode cX3_clear 31 = .ok (.aload_n 0, 1) := by decide +kernel
theorem dX3_clear_32 : decode cX3_clear 32 = .ok (.iconst 0, 1) := by decide +kernel
theorem dX3_clear_33 : decode cX3_clear 33 = .ok (.putfield 59, 3) := by decide +kernel
theorem dX3_clear_36 : decode cX3_clear 36 = .ok (.aload_n 0, 1) := by decide +kernel
theorem dX3_clear_37 : decode cX3_clear 37 = .ok (.iconst 0, 1) := by decide +kernel
theorem dX3_clear_38 : decode cX3_clear 38 = .ok (.putfield 62, 3) := by decide +kernel
theorem dX3_clear_41 : decode cX3_clear 41 = .ok (.aload_n 0, 1) := by decide +kernel
theorem dX3_clear_42 : decode cX3_clear 42 = .ok (.iconst 0, 1) := by decide +kernel
theorem dX3_clear_43 : decode cX3_clear 43 = .ok (.putfield 65, 3) := by decide +kernel
theorem dX3_clear_46 : decode cX3_clear 46 = .ok (.aload_n 0, 1) := by decide +kernel
theorem dX3_clear_47 : decode cX3_clear 47 = .ok (.iconst 0, 1) := by decide +kernel
theorem dX3_clear_48 : decode cX3_clear 48 = .ok (.putfield 68, 3) := by decide +kernel
theorem dX3_clear_51 : decode cX3_clear 51 = .ok (.aload_n 0, 1) := by decide +kernel
theorem dX3_clear_52 : decode cX3_clear 52 = .ok (.getfield 34, 3) := by decide +kernel
theorem dX3_clear_55 : decode cX3_clear 55 = .ok (.iconst 0, 1) := by decide +kernel
theorem dX3_clear_56 : decode cX3_clear 56 = .ok (.invokestatic 71, 3) := by decide +kernel
theorem dX3_clear_59 : decode cX3_clear 59 = .ok (.return_, 1) := by decide +kernel
theorem dX3_take_0 : decode cX3_take 0 = .ok (.aload_n 0, 1) := by decide +kernel
theorem dX3_take_1 : decode cX3_take 1 = .ok (.aload_n 1, 1) := by decide +kernel
theorem dX3_take_2 : decode cX3_take 2 = .ok (.getfield 9, 3) := by decide +kernel
theorem dX3_take_5 : decode cX3_take 5 = .ok (.putfield 9, 3) := by decide +kernel
theorem dX3_take_8 : decode cX3_take 8 = .ok (.aload_n 0, 1) := by decide +kernel
theorem dX3_take_9 : decode cX3_take 9 = .ok (.aload_n 1, 1) := by decide +kernel
theorem dX3_take_10 : decode cX3_take 10 = .ok (.getfield 15, 3) := by decide +kernel
theorem dX3_take_13 : decode cX3_take 13 = .ok (.putfield 15, 3) := by decide +kernel
theorem dX3_take_16 : decode cX3_take 16 = .ok (.aload_n 0, 1) := by decide +kernel
theorem dX3_take_17 : decode cX3_take 17 = .ok (.aload_n 1, 1) := by decide +kernel
theorem dX3_take_18 : decode cX3_take 18 = .ok (.getfield 18, 3) := by decide +kernel
theorem dX3_take_21 : decode cX3_take 21 = .ok (.putfield 18, 3) := by decide +kernel
theorem dX3_take_24 : decode cX3_take 24 = .ok (.aload_n 0, 1) := by decide +kernel
theorem dX3_take_25 : decode cX3_take 25 = .ok (.aload_n 1, 1) := by decide +kernel
theorem dX3_take_26 : decode cX3_take 26 = .ok (.getfield 44, 3) := by decide +kernel
theorem dX3_take_29 : decode cX3_take 29 = .ok (.putfield 44, 3) := by decide +kernel
theorem dX3_take_32 : decode cX3_take 32 = .ok (.aload_n 0, 1) := by decide +kernel
theorem dX3_take_33 : decode cX3_take 33 = .ok (.aload_n 1, 1) := by decide +kernel
theorem dX3_take_34 : decode cX3_take 34 = .ok (.getfield 47, 3) := by decide +kernel
theorem dX3_take_37 : decode cX3_take 37 = .ok (.putfield 47, 3) := by decide +kernel
theorem dX3_take_40 : decode cX3_take 40 = .ok (.aload_n 0, 1) := by decide +kernel
theorem dX3_take_41 : decode cX3_take 41 = .ok (.aload_n 1, 1) := by decide +kernel
theorem dX3_take_42 : decode cX3_take 42 = .ok (.getfield 50, 3) := by decide +kernel
theorem dX3_take_45 : decode cX3_take 45 = .ok (.putfield 50, 3) := by decide +kernel
theorem dX3_take_48 : decode cX3_take 48 = .ok (.aload_n 0, 1) := by decide +kernel
theorem dX3_take_49 : decode cX3_take 49 = .ok (.aload_n 1, 1) := by decide +kernel
theorem dX3_take_50 : decode cX3_take 50 = .ok (.getfield 53, 3) := by decide +kernel
theorem dX3_take_53 : decode cX3_take 53 = .ok (.putfield 53, 3) := by decide +kernel
theorem dX3_take_56 : decode cX3_take 56 = .ok (.aload_n 0, 1) := by decide +kernel
theorem dX3_take_57 : decode cX3_take 57 = .ok (.aload_n 1, 1) := by decide +kernel
theorem dX3_take_58 : decode cX3_take 58 = .ok (.getfield 56, 3) := by decide +kernel
theorem dX3_take_61 : decode cX3_take 61 = .ok (.putfield 56, 3) := by decide +kernel
theorem dX3_take_64 : decode cX3_take 64 = .ok (.aload_n 0, 1) := by decide +kernel
theorem dX3_take_65 : decode cX3_take 65 = .ok (.aload_n 1, 1) := by decide +kernel
theorem dX3_take_66 : decode cX3_take 66 = .ok (.getfield 59, 3) := by decide +kernel
theorem dX3_take_69 : decode cX3_take 69 = .ok (.putfield 59, 3) := by decide +kernel
theorem dX3_take_72 : decode cX3_take 72 = .ok (.aload_n 0, 1) := by decide +kernel
theorem dX3_take_73 : decode cX3_take 73 = .ok (.aload_n 1, 1) := by decide +kernel
theorem dX3_take_74 : decode cX3_take 74 = .ok (.getfield 62, 3) := by decide +kernel
theorem dX3_take_77 : decode cX3_take 77 = .ok (.putfield 62, 3) := by decide +kernel
theorem dX3_take_80 : decode cX3_take 80 = .ok (.aload_n 0, 1) := by decide +kernel
theorem dX3_take_81 : decode cX3_take 81 = .ok (.aload_n 1, 1) := by decide +kernel
theorem dX3_take_82 : decode cX3_take 82 = .ok (.getfield 65, 3) := by decide +kernel
theorem dX3_take_85 : decode cX3_take 85 = .ok (.putfield 65, 3) := by decide +kernel
theorem dX3_take_88 : decode cX3_take 88 = .ok (.aload_n 0, 1) := by decide +kernel
theorem dX3_take_89 : decode cX3_take 89 = .ok (.aload_n 1, 1) := by decide +kernel
theorem dX3_take_90 : decode cX3_take 90 = .ok (.getfield 68, 3) := by decide +kernel
theorem dX3_take_93 : decode cX3_take 93 = .ok (.putfield 68, 3) := by decide +kernel
theorem dX3_take_96 : decode cX3_take 96 = .ok (.aload_n 1, 1) := by decide +kernel
theorem dX3_take_97 : decode cX3_take 97 = .ok (.getfield 21, 3) := by decide +kernel
theorem dX3_take_100 : decode cX3_take 100 = .ok (.iconst 0, 1) := by decide +kernel
theorem dX3_take_101 : decode cX3_take 101 = .ok (.aload_n 0, 1) := by decide +kernel
theorem dX3_take_102 : decode cX3_take 102 = .ok (.getfield 21, 3) := by decide +kernel
theorem dX3_take_105 : decode cX3_take 105 = .ok (.iconst 0, 1) := by decide +kernel
theorem dX3_take_106 : decode cX3_take 106 = .ok (.bipush 6, 2) := by decide +kernel
theorem dX3_take_108 : decode cX3_take 108 = .ok (.invokestatic 77, 3) := by decide +kernel
theorem dX3_take_111 : decode cX3_take 111 = .ok (.aload_n 1, 1) := by decide +kernel
theorem dX3_take_112 : decode cX3_take 112 = .ok (.getfield 25, 3) := by decide +kernel
theorem dX3_take_115 : decode cX3_take 115 = .ok (.iconst 0, 1) := by decide +kernel
theorem dX3_take_116 : decode cX3_take 116 = .ok (.aload_n 0, 1) := by decide +kernel
theorem dX3_take_117 : decode cX3_take 117 = .ok (.getfield 25, 3) := by decide +kernel
theorem dX3_take_120 : decode cX3_take 120 = .ok (.iconst 0, 1) := by decide +kernel
theorem dX3_take_121 : decode cX3_take 121 = .ok (.bipush 6, 2) := by decide +kernel
theorem dX3_take_123 : decode cX3_take 123 = .ok (.invokestatic 77, 3) := by decide +kernel
theorem dX3_take_126 : decode cX3_take 126 = .ok (.aload_n 1, 1) := by decide +kernel
theorem dX3_take_127 : decode cX3_take 127 = .ok (.getfield 28, 3) := by decide +kernel
theorem dX3_take_130 : decode cX3_take 130 = .ok (.iconst 0, 1) := by decide +kernel
theorem dX3_take_131 : decode cX3_take 131 = .ok (.aload_n 0, 1) := by decide +kernel
theorem dX3_take_132 : decode cX3_take 132 = .ok (.getfield 28, 3) := by decide +kernel
theorem dX3_take_135 : decode cX3_take 135 = .ok (.iconst 0, 1) := by decide +kernel
theorem dX3_take_136 : decode cX3_take 136 = .ok (.bipush 6, 2) := by decide +kernel
theorem dX3_take_138 : decode cX3_take 138 = .ok (.invokestatic 77, 3) := by decide +kernel
theorem dX3_take_141 : decode cX3_take 141 = .ok (.aload_n 1, 1) := by decide +kernel
theorem dX3_take_142 : decode cX3_take 142 = .ok (.getfield 31, 3) := by decide +kernel
theorem dX3_take_145 : decode cX3_take 145 = .ok (.iconst 0, 1) := by decide +kernel
theorem dX3_take_146 : decode cX3_take 146 = .ok (.aload_n 0, 1) := by decide +kernel
theorem dX3_take_147 : decode cX3_take 147 = .ok (.getfield 31, 3) := by decide +kernel
theorem dX3_take_150 : decode cX3_take 150 = .ok (.iconst 0, 1) := by decide +kernel
theorem dX3_take_151 : decode cX3_take 151 = .ok (.bipush 6, 2) := by decide +kernel
theorem dX3_take_153 : decode cX3_take 153 = .ok (.invokestatic 77, 3) := by decide +kernel
theorem dX3_take_156 : decode cX3_take 156 = .ok (.aload_n 1, 1) := by decide +kernel
theorem dX3_take_157 : decode cX3_take 157 = .ok (.getfield 34, 3) := by decide +kernel
theorem dX3_take_160 : decode cX3_take 160 = .ok (.iconst 0, 1) := by decide +kernel
theorem dX3_take_161 : decode cX3_take 161 = .ok (.aload_n 0, 1) := by decide +kernel
theorem dX3_take_162 : decode cX3_take 162 = .ok (.getfield 34, 3) := by decide +kernel
theorem dX3_take_165 : decode cX3_take 165 = .ok (.iconst 0, 1) := by decide +kernel
theorem dX3_take_166 : decode cX3_take 166 = .ok (.iconst 5, 1) := by decide +kernel
theorem dX3_take_167 : decode cX3_take 167 = .ok (.invokestatic 77, 3) := by decide +kernel
theorem dX3_take_170 : decode cX3_take 170 = .ok (.aload_n 1, 1) := by decide +kernel
theorem dX3_take_171 : decode cX3_take 171 = .ok (.getfield 37, 3) := by decide +kernel
theorem dX3_take_174 : decode cX3_take 174 = .ok (.iconst 0, 1) := by decide +kernel
theorem dX3_take_175 : decode cX3_take 175 = .ok (.aload_n 0, 1) := by decide +kernel
theorem dX3_take_176 : decode cX3_take 176 = .ok (.getfield 37, 3) := by decide +kernel
theorem dX3_take_179 : decode cX3_take 179 = .ok (.iconst 0, 1) := by decide +kernel
theorem dX3_take_180 : decode cX3_take 180 = .ok (.aload_n 0, 1) := by decide +kernel
theorem dX3_take_181 : decode cX3_take 181 = .ok (.getfield 56, 3) := by decide +kernel
theorem dX3_take_184 : decode cX3_take 184 = .ok (.invokestatic 77, 3) := by decide +kernel
theorem dX3_take_187 : decode cX3_take 187 = .ok (.return_, 1) := by decide +kernel
theorem dX3_addPlot_0 : decode cX3_addPlot 0 = .ok (.aload_n 0, 1) := by decide +kernel
theorem dX3_addPlot_1 : decode cX3_addPlot 1 = .ok (.getfield 50, 3) := by decide +kernel
theorem dX3_addPlot_4 : decode cX3_addPlot 4 = .ok (.bipush 6, 2) := by decide +kernel
theorem dX3_addPlot_6 : decode cX3_addPlot 6 = .ok (.if_icmp .ge 43, 3) := by decide +kernel
theorem dX3_addPlot_9 : decode cX3_addPlot 9 = .ok (.aload_n 0, 1) := by decide +kernel
theorem dX3_addPlot_10 : decode cX3_addPlot 10 = .ok (.getfield 21, 3) := by decide +kernel
theorem dX3_addPlot_13 : decode cX3_addPlot 13 = .ok (.aload_n 0, 1) := by decide +kernel
theorem dX3_addPlot_14 : decode cX3_addPlot 14 = .ok (.getfield 50, 3) := by decide +kernel
theorem dX3_addPlot_17 : decode cX3_addPlot 17 = .ok (.iload_n 1, 1) := by decide +kernel
theorem dX3_addPlot_18 : decode cX3_addPlot 18 = .ok (.iastore, 1) := by decide +kernel
theorem dX3_addPlot_19 : decode cX3_addPlot 19 = .ok (.aload_n 0, 1) := by decide +kernel
theorem dX3_addPlot_20 : decode cX3_addPlot 20 = .ok (.getfield 25, 3) := by decide +kernel
theorem dX3_addPlot_23 : decode cX3_addPlot 23 = .ok (.aload_n 0, 1) := by decide +kernel
theorem dX3_addPlot_24 : decode cX3_addPlot 24 = .ok (.getfield 50, 3) := by decide +kernel
theorem dX3_addPlot_27 : decode cX3_addPlot 27 = .ok (.iload_n 2, 1) := by decide +kernel
theorem dX3_addPlot_28 : decode cX3_addPlot 28 = .ok (.iastore, 1) := by decide +kernel
theorem dX3_addPlot_29 : decode cX3_addPlot 29 = .ok (.aload_n 0, 1) := by decide +kernel
theorem dX3_addPlot_30 : decode cX3_addPlot 30 = .ok (.getfield 28, 3) := by decide +kernel
theorem dX3_addPlot_33 : decode cX3_addPlot 33 = .ok (.aload_n 0, 1) := by decide +kernel
theorem dX3_addPlot_34 : decode cX3_addPlot 34 = .ok (.getfield 50, 3) := by decide +kernel
theorem dX3_addPlot_37 : decode cX3_addPlot 37 = .ok (.iload_n 3, 1) := by decide +kernel
theorem dX3_addPlot_38 : decode cX3_addPlot 38 = .ok (.iastore, 1) := by decide +kernel
theorem dX3_addPlot_39 : decode cX3_addPlot 39 = .ok (.aload_n 0, 1) := by decide +kernel
theorem dX3_addPlot_40 : decode cX3_addPlot 40 = .ok (.dup, 1) := by decide +kernel
theorem dX3_addPlot_41 : decode cX3_addPlot 41 = .ok (.getfield 50, 3) := by decide +kernel
theorem dX3_addPlot_44 : decode cX3_addPlot 44 = .ok (.iconst 1, 1) := by decide +kernel
theorem dX3_addPlot_45 : decode cX3_addPlot 45 = .ok (.iadd, 1) := by decide +kernel
theorem dX3_addPlot_46 : decode cX3_addPlot 46 = .ok (.putfield 50, 3) := by decide +kernel
theorem dX3_addPlot_49 : decode cX3_addPlot 49 = .ok (.return_, 1) := by decide +kernel
theorem dX3_addPaper_0 : decode cX3_addPaper 0 = .ok (.aload_n 0, 1) := by decide +kernel
theorem dX3_addPaper_1 : decode cX3_addPaper 1 = .ok (.getfield 53, 3) := by decide +kernel
theorem dX3_addPaper_4 : decode cX3_addPaper 4 = .ok (.bipush 6, 2) := by decide +kernel
theorem dX3_addPaper_6 : decode cX3_addPaper 6 = .ok (.if_icmp .ge 35, 3) := by decide +kernel
theorem dX3_addPaper_9 : decode cX3_addPaper 9 = .ok (.aload_n 0, 1) := by decide +kernel
theorem dX3_addPaper_10 : decode cX3_addPaper 10 = .ok (.getfield 15, 3) := by decide +kernel
theorem dX3_addPaper_13 : decode cX3_addPaper 13 = .ok (.ifCond .le 28, 3) := by decide +kernel
theorem dX3_addPaper_16 : decode cX3_addPaper 16 = .ok (.aload_n 0, 1) := by decide +kernel
theorem dX3_addPaper_17 : decode cX3_addPaper 17 = .ok (.getfield 31, 3) := by decide +kernel
theorem dX3_addPaper_20 : decode cX3_addPaper 20 = .ok (.aload_n 0, 1) := by decide +kernel
theorem dX3_addPaper_21 : decode cX3_addPaper 21 = .ok (.getfield 53, 3) := by decide +kernel
theorem dX3_addPaper_24 : decode cX3_addPaper 24 = .ok (.aload_n 0, 1) := by decide +kernel
theorem dX3_addPaper_25 : decode cX3_addPaper 25 = .ok (.iload_n 1, 1) := by decide +kernel
theorem dX3_addPaper_26 : decode cX3_addPaper 26 = .ok (.iload_n 2, 1) := by decide +kernel
theorem dX3_addPaper_27 : decode cX3_addPaper 27 = .ok (.invokevirtual 83, 3) := by decide +kernel
theorem dX3_addPaper_30 : decode cX3_addPaper 30 = .ok (.iastore, 1) := by decide +kernel
theorem dX3_addPaper_31 : decode cX3_addPaper 31 = .ok (.aload_n 0, 1) := by decide +kernel
theorem dX3_addPaper_32 : decode cX3_addPaper 32 = .ok (.dup, 1) := by decide +kernel
theorem dX3_addPaper_33 : decode cX3_addPaper 33 = .ok (.getfield 53, 3) := by decide +kernel
theorem dX3_addPaper_36 : decode cX3_addPaper 36 = .ok (.iconst 1, 1) := by decide +kernel
theorem dX3_addPaper_37 : decode cX3_addPaper 37 = .ok (.iadd, 1) := by decide +kernel
theorem dX3_addPaper_38 : decode cX3_addPaper 38 = .ok (.putfield 53, 3) := by decide +kernel
theorem dX3_addPaper_41 : decode cX3_addPaper 41 = .ok (.return_, 1) := by decide +kernel
theorem dX3_cellsBetween_0 : decode cX3_cellsBetween 0 = .ok (.iload_n 1, 1) := by decide +kernel
theorem dX3_cellsBetween_1 : decode cX3_cellsBetween 1 = .ok (.aload_n 0, 1) := by decide +kernel
theorem dX3_cellsBetween_2 : decode cX3_cellsBetween 2 = .ok (.getfield 15, 3) := by decide +kernel
theorem dX3_cellsBetween_5 : decode cX3_cellsBetween 5 = .ok (.idiv, 1) := by decide +kernel
theorem dX3_cellsBetween_6 : decode cX3_cellsBetween 6 = .ok (.iload_n 2, 1) := by decide +kernel
theorem dX3_cellsBetween_7 : decode cX3_cellsBetween 7 = .ok (.aload_n 0, 1) := by decide +kernel
theorem dX3_cellsBetween_8 : decode cX3_cellsBetween 8 = .ok (.getfield 15, 3) := by decide +kernel
theorem dX3_cellsBetween_11 : decode cX3_cellsBetween 11 = .ok (.idiv, 1) := by decide +kernel
theorem dX3_cellsBetween_12 : decode cX3_cellsBetween 12 = .ok (.invokestatic 87, 3) := by decide +kernel
theorem dX3_cellsBetween_15 : decode cX3_cellsBetween 15 = .ok (.istore_n 3, 1) := by decide +kernel
theorem dX3_cellsBetween_16 : decode cX3_cellsBetween 16 = .ok (.iload_n 1, 1) := by decide +kernel
theorem dX3_cellsBetween_17 : decode cX3_cellsBetween 17 = .ok (.aload_n 0, 1) := by decide +kernel
theorem dX3_cellsBetween_18 : decode cX3_cellsBetween 18 = .ok (.getfield 15, 3) := by decide +kernel
theorem dX3_cellsBetween_21 : decode cX3_cellsBetween 21 = .ok (.idiv, 1) := by decide +kernel
theorem dX3_cellsBetween_22 : decode cX3_cellsBetween 22 = .ok (.iload_n 2, 1) := by decide +kernel
theorem dX3_cellsBetween_23 : decode cX3_cellsBetween 23 = .ok (.aload_n 0, 1) := by decide +kernel
theorem dX3_cellsBetween_24 : decode cX3_cellsBetween 24 = .ok (.getfield 15, 3) := by decide +kernel
theorem dX3_cellsBetween_27 : decode cX3_cellsBetween 27 = .ok (.idiv, 1) := by decide +kernel
theorem dX3_cellsBetween_28 : decode cX3_cellsBetween 28 = .ok (.invokestatic 92, 3) := by decide +kernel
theorem dX3_cellsBetween_31 : decode cX3_cellsBetween 31 = .ok (.istore 4, 2) := by decide +kernel
theorem dX3_cellsBetween_33 : decode cX3_cellsBetween 33 = .ok (.iload_n 1, 1) := by decide +kernel
theorem dX3_cellsBetween_34 : decode cX3_cellsBetween 34 = .ok (.aload_n 0, 1) := by decide +kernel
theorem dX3_cellsBetween_35 : decode cX3_cellsBetween 35 = .ok (.getfield 15, 3) := by decide +kernel
theorem dX3_cellsBetween_38 : decode cX3_cellsBetween 38 = .ok (.irem, 1) := by decide +kernel
theorem dX3_cellsBetween_39 : decode cX3_cellsBetween 39 = .ok (.iload_n 2, 1) := by decide +kernel
theorem dX3_cellsBetween_40 : decode cX3_cellsBetween 40 = .ok (.aload_n 0, 1) := by decide +kernel
theorem dX3_cellsBetween_41 : decode cX3_cellsBetween 41 = .ok (.getfield 15, 3) := by decide +kernel
theorem dX3_cellsBetween_44 : decode cX3_cellsBetween 44 = .ok (.irem, 1) := by decide +kernel
theorem dX3_cellsBetween_45 : decode cX3_cellsBetween 45 = .ok (.invokestatic 87, 3) := by decide +kernel
theorem dX3_cellsBetween_48 : decode cX3_cellsBetween 48 = .ok (.istore 5, 2) := by decide +kernel
theorem dX3_cellsBetween_50 : decode cX3_cellsBetween 50 = .ok (.iload_n 1, 1) := by decide +kernel
theorem dX3_cellsBetween_51 : decode cX3_cellsBetween 51 = .ok (.aload_n 0, 1) := by decide +kernel
theorem dX3_cellsBetween_52 : decode cX3_cellsBetween 52 = .ok (.getfield 15, 3) := by decide +kernel
theorem dX3_cellsBetween_55 : decode cX3_cellsBetween 55 = .ok (.irem, 1) := by decide +kernel
theorem dX3_cellsBetween_56 : decode cX3_cellsBetween 56 = .ok (.iload_n 2, 1) := by decide +kernel
theorem dX3_cellsBetween_57 : decode cX3_cellsBetween 57 = .ok (.aload_n 0, 1) := by decide +kernel
theorem dX3_cellsBetween_58 : decode cX3_cellsBetween 58 = .ok (.getfield 15, 3) := by decide +kernel
theorem dX3_cellsBetween_61 : decode cX3_cellsBetween 61 = .ok (.irem, 1) := by decide +kernel
theorem dX3_cellsBetween_62 : decode cX3_cellsBetween 62 = .ok (.invokestatic 92, 3) := by decide +kernel
theorem dX3_cellsBetween_65 : decode cX3_cellsBetween 65 = .ok (.istore 6, 2) := by decide +kernel
theorem dX3_cellsBetween_67 : decode cX3_cellsBetween 67 = .ok (.iconst 0, 1) := by decide +kernel
theorem dX3_cellsBetween_68 : decode cX3_cellsBetween 68 = .ok (.istore 7, 2) := by decide +kernel
theorem dX3_cellsBetween_70 : decode cX3_cellsBetween 70 = .ok (.iload_n 3, 1) := by decide +kernel
theorem dX3_cellsBetween_71 : decode cX3_cellsBetween 71 = .ok (.istore 8, 2) := by decide +kernel
theorem dX3_cellsBetween_73 : decode cX3_cellsBetween 73 = .ok (.iload 8, 2) := by decide +kernel
theorem dX3_cellsBetween_75 : decode cX3_cellsBetween 75 = .ok (.iload 4, 2) := by decide +kernel
theorem dX3_cellsBetween_77 : decode cX3_cellsBetween 77 = .ok (.if_icmp .gt 43, 3) := by decide +kernel
theorem dX3_cellsBetween_80 : decode cX3_cellsBetween 80 = .ok (.iload 5, 2) := by decide +kernel
theorem dX3_cellsBetween_82 : decode cX3_cellsBetween 82 = .ok (.istore 9, 2) := by decide +kernel
theorem dX3_cellsBetween_84 : decode cX3_cellsBetween 84 = .ok (.iload 9, 2) := by decide +kernel
theorem dX3_cellsBetween_86 : decode cX3_cellsBetween 86 = .ok (.iload 6, 2) := by decide +kernel
theorem dX3_cellsBetween_88 : decode cX3_cellsBetween 88 = .ok (.if_icmp .gt 26, 3) := by decide +kernel
theorem dX3_cellsBetween_91 : decode cX3_cellsBetween 91 = .ok (.iload 7, 2) := by decide +kernel
theorem dX3_cellsBetween_93 : decode cX3_cellsBetween 93 = .ok (.iconst 1, 1) := by decide +kernel
theorem dX3_cellsBetween_94 : decode cX3_cellsBetween 94 = .ok (.iload 8, 2) := by decide +kernel
theorem dX3_cellsBetween_96 : decode cX3_cellsBetween 96 = .ok (.aload_n 0, 1) := by decide +kernel
theorem dX3_cellsBetween_97 : decode cX3_cellsBetween 97 = .ok (.getfield 15, 3) := by decide +kernel
theorem dX3_cellsBetween_100 : decode cX3_cellsBetween 100 = .ok (.imul, 1) := by decide +kernel
theorem dX3_cellsBetween_101 : decode cX3_cellsBetween 101 = .ok (.iload 9, 2) := by decide +kernel
theorem dX3_cellsBetween_103 : decode cX3_cellsBetween 103 = .ok (.iadd, 1) := by decide +kernel
theorem dX3_cellsBetween_104 : decode cX3_cellsBetween 104 = .ok (.ishl, 1) := by decide +kernel
theorem dX3_cellsBetween_105 : decode cX3_cellsBetween 105 = .ok (.ior, 1) := by decide +kernel
theorem dX3_cellsBetween_106 : decode cX3_cellsBetween 106 = .ok (.istore 7, 2) := by decide +kernel
theorem dX3_cellsBetween_108 : decode cX3_cellsBetween 108 = .ok (.iinc 9 1, 3) := by decide +kernel
theorem dX3_cellsBetween_111 : decode cX3_cellsBetween 111 = .ok (.goto (-27), 3) := by decide +kernel
theorem dX3_cellsBetween_114 : decode cX3_cellsBetween 114 = .ok (.iinc 8 1, 3) := by decide +kernel
theorem dX3_cellsBetween_117 : decode cX3_cellsBetween 117 = .ok (.goto (-44), 3) := by decide +kernel
theorem dX3_cellsBetween_120 : decode cX3_cellsBetween 120 = .ok (.iload 7, 2) := by decide +kernel
theorem dX3_cellsBetween_122 : decode cX3_cellsBetween 122 = .ok (.ireturn, 1) := by decide +kernel
theorem dX3_emit_0 : decode cX3_emit 0 = .ok (.aload_n 0, 1) := by decide +kernel
theorem dX3_emit_1 : decode cX3_emit 1 = .ok (.getfield 56, 3) := by decide +kernel
theorem dX3_emit_4 : decode cX3_emit 4 = .ok (.sipush 900, 3) := by decide +kernel
theorem dX3_emit_7 : decode cX3_emit 7 = .ok (.if_icmp .ge 23, 3) := by decide +kernel
theorem dX3_emit_10 : decode cX3_emit 10 = .ok (.aload_n 0, 1) := by decide +kernel
theorem dX3_emit_11 : decode cX3_emit 11 = .ok (.getfield 37, 3) := by decide +kernel
theorem dX3_emit_14 : decode cX3_emit 14 = .ok (.aload_n 0, 1) := by decide +kernel
theorem dX3_emit_15 : decode cX3_emit 15 = .ok (.getfield 56, 3) := by decide +kernel
theorem dX3_emit_18 : decode cX3_emit 18 = .ok (.iload_n 1, 1) := by decide +kernel
theorem dX3_emit_19 : decode cX3_emit 19 = .ok (.iastore, 1) := by decide +kernel
theorem dX3_emit_20 : decode cX3_emit 20 = .ok (.aload_n 0, 1) := by decide +kernel
theorem dX3_emit_21 : decode cX3_emit 21 = .ok (.dup, 1) := by decide +kernel
theorem dX3_emit_22 : decode cX3_emit 22 = .ok (.getfield 56, 3) := by decide +kernel
theorem dX3_emit_25 : decode cX3_emit 25 = .ok (.iconst 1, 1) := by decide +kernel
theorem dX3_emit_26 : decode cX3_emit 26 = .ok (.iadd, 1) := by decide +kernel
theorem dX3_emit_27 : decode cX3_emit 27 = .ok (.putfield 56, 3) := by decide +kernel
theorem dX3_emit_30 : decode cX3_emit 30 = .ok (.return_, 1) := by decide +kernel
theorem dX3_fewestPayments_0 : decode cX3_fewestPayments 0 = .ok (.iconst 5, 1) := by decide +kernel
theorem dX3_fewestPayments_1 : decode cX3_fewestPayments 1 = .ok (.aload_n 0, 1) := by decide +kernel
theorem dX3_fewestPayments_2 : decode cX3_fewestPayments 2 = .ok (.bipush 31, 2) := by decide +kernel
theorem dX3_fewestPayments_4 : decode cX3_fewestPayments 4 = .ok (.invokevirtual 95, 3) := by decide +kernel
theorem dX3_fewestPayments_7 : decode cX3_fewestPayments 7 = .ok (.isub, 1) := by decide +kernel
theorem dX3_fewestPayments_8 : decode cX3_fewestPayments 8 = .ok (.ireturn, 1) := by decide +kernel
theorem dX3_mostGroups_0 : decode cX3_mostGroups 0 = .ok (.iconst 0, 1) := by decide +kernel
theorem dX3_mostGroups_1 : decode cX3_mostGroups 1 = .ok (.istore_n 2, 1) := by decide +kernel
theorem dX3_mostGroups_2 : decode cX3_mostGroups 2 = .ok (.iconst 1, 1) := by decide +kernel
theorem dX3_mostGroups_3 : decode cX3_mostGroups 3 = .ok (.istore_n 3, 1) := by decide +kernel
theorem dX3_mostGroups_4 : decode cX3_mostGroups 4 = .ok (.iload_n 3, 1) := by decide +kernel
theorem dX3_mostGroups_5 : decode cX3_mostGroups 5 = .ok (.iload_n 1, 1) := by decide +kernel
theorem dX3_mostGroups_6 : decode cX3_mostGroups 6 = .ok (.if_icmp .gt 62, 3) := by decide +kernel
theorem dX3_mostGroups_9 : decode cX3_mostGroups 9 = .ok (.iload_n 3, 1) := by decide +kernel
theorem dX3_mostGroups_10 : decode cX3_mostGroups 10 = .ok (.iload_n 1, 1) := by decide +kernel
theorem dX3_mostGroups_11 : decode cX3_mostGroups 11 = .ok (.iconst (-1), 1) := by decide +kernel
theorem dX3_mostGroups_12 : decode cX3_mostGroups 12 = .ok (.ixor, 1) := by decide +kernel
theorem dX3_mostGroups_13 : decode cX3_mostGroups 13 = .ok (.iand, 1) := by decide +kernel
theorem dX3_mostGroups_14 : decode cX3_mostGroups 14 = .ok (.ifCond .ne 16, 3) := by decide +kernel
theorem dX3_mostGroups_17 : decode cX3_mostGroups 17 = .ok (.iload_n 3, 1) := by decide +kernel
theorem dX3_mostGroups_18 : decode cX3_mostGroups 18 = .ok (.iload_n 1, 1) := by decide +kernel
theorem dX3_mostGroups_19 : decode cX3_mostGroups 19 = .ok (.iand, 1) := by decide +kernel
theorem dX3_mostGroups_20 : decode cX3_mostGroups 20 = .ok (.iload_n 1, 1) := by decide +kernel
theorem dX3_mostGroups_21 : decode cX3_mostGroups 21 = .ok (.ineg, 1) := by decide +kernel
theorem dX3_mostGroups_22 : decode cX3_mostGroups 22 = .ok (.iand, 1) := by decide +kernel
theorem dX3_mostGroups_23 : decode cX3_mostGroups 23 = .ok (.ifCond .eq 7, 3) := by decide +kernel
theorem dX3_mostGroups_26 : decode cX3_mostGroups 26 = .ok (.iconst 1, 1) := by decide +kernel
theorem dX3_mostGroups_27 : decode cX3_mostGroups 27 = .ok (.goto 4, 3) := by decide +kernel
theorem dX3_mostGroups_30 : decode cX3_mostGroups 30 = .ok (.iconst 0, 1) := by decide +kernel
theorem dX3_mostGroups_31 : decode cX3_mostGroups 31 = .ok (.istore 4, 2) := by decide +kernel
theorem dX3_mostGroups_33 : decode cX3_mostGroups 33 = .ok (.iload 4, 2) := by decide +kernel
theorem dX3_mostGroups_35 : decode cX3_mostGroups 35 = .ok (.ifCond .eq 27, 3) := by decide +kernel
theorem dX3_mostGroups_38 : decode cX3_mostGroups 38 = .ok (.aload_n 0, 1) := by decide +kernel
theorem dX3_mostGroups_39 : decode cX3_mostGroups 39 = .ok (.iload_n 3, 1) := by decide +kernel
theorem dX3_mostGroups_40 : decode cX3_mostGroups 40 = .ok (.invokevirtual 99, 3) := by decide +kernel
theorem dX3_mostGroups_43 : decode cX3_mostGroups 43 = .ok (.ifCond .ne 19, 3) := by decide +kernel
theorem dX3_mostGroups_46 : decode cX3_mostGroups 46 = .ok (.iload_n 2, 1) := by decide +kernel
theorem dX3_mostGroups_47 : decode cX3_mostGroups 47 = .ok (.iconst 1, 1) := by decide +kernel
theorem dX3_mostGroups_48 : decode cX3_mostGroups 48 = .ok (.aload_n 0, 1) := by decide +kernel
theorem dX3_mostGroups_49 : decode cX3_mostGroups 49 = .ok (.iload_n 1, 1) := by decide +kernel
theorem dX3_mostGroups_50 : decode cX3_mostGroups 50 = .ok (.iload_n 3, 1) := by decide +kernel
theorem dX3_mostGroups_51 : decode cX3_mostGroups 51 = .ok (.iconst (-1), 1) := by decide +kernel
theorem dX3_mostGroups_52 : decode cX3_mostGroups 52 = .ok (.ixor, 1) := by decide +kernel
theorem dX3_mostGroups_53 : decode cX3_mostGroups 53 = .ok (.iand, 1) := by decide +kernel
theorem dX3_mostGroups_54 : decode cX3_mostGroups 54 = .ok (.invokevirtual 95, 3) := by decide +kernel
theorem dX3_mostGroups_57 : decode cX3_mostGroups 57 = .ok (.iadd, 1) := by decide +kernel
theorem dX3_mostGroups_58 : decode cX3_mostGroups 58 = .ok (.invokestatic 92, 3) := by decide +kernel
theorem dX3_mostGroups_61 : decode cX3_mostGroups 61 = .ok (.istore_n 2, 1) := by decide +kernel
theorem dX3_mostGroups_62 : decode cX3_mostGroups 62 = .ok (.iinc 3 1, 3) := by decide +kernel
theorem dX3_mostGroups_65 : decode cX3_mostGroups 65 = .ok (.goto (-61), 3) := by decide +kernel
theorem dX3_mostGroups_68 : decode cX3_mostGroups 68 = .ok (.iload_n 2, 1) := by decide +kernel
theorem dX3_mostGroups_69 : decode cX3_mostGroups 69 = .ok (.ireturn, 1) := by decide +kernel
theorem dX3_balanceOf_0 : decode cX3_balanceOf 0 = .ok (.iconst 0, 1) := by decide +kernel
theorem dX3_balanceOf_1 : decode cX3_balanceOf 1 = .ok (.istore_n 2, 1) := by decide +kernel
theorem dX3_balanceOf_2 : decode cX3_balanceOf 2 = .ok (.iconst 0, 1) := by decide +kernel
theorem dX3_balanceOf_3 : decode cX3_balanceOf 3 = .ok (.istore_n 3, 1) := by decide +kernel
theorem dX3_balanceOf_4 : decode cX3_balanceOf 4 = .ok (.iload_n 3, 1) := by decide +kernel
theorem dX3_balanceOf_5 : decode cX3_balanceOf 5 = .ok (.iconst 5, 1) := by decide +kernel
theorem dX3_balanceOf_6 : decode cX3_balanceOf 6 = .ok (.if_icmp .ge 26, 3) := by decide +kernel
theorem dX3_balanceOf_9 : decode cX3_balanceOf 9 = .ok (.iload_n 1, 1) := by decide +kernel
theorem dX3_balanceOf_10 : decode cX3_balanceOf 10 = .ok (.iload_n 3, 1) := by decide +kernel
theorem dX3_balanceOf_11 : decode cX3_balanceOf 11 = .ok (.ishr, 1) := by decide +kernel
theorem dX3_balanceOf_12 : decode cX3_balanceOf 12 = .ok (.iconst 1, 1) := by decide +kernel
theorem dX3_balanceOf_13 : decode cX3_balanceOf 13 = .ok (.iand, 1) := by decide +kernel
theorem dX3_balanceOf_14 : decode cX3_balanceOf 14 = .ok (.ifCond .eq 12, 3) := by decide +kernel
theorem dX3_balanceOf_17 : decode cX3_balanceOf 17 = .ok (.iload_n 2, 1) := by decide +kernel
theorem dX3_balanceOf_18 : decode cX3_balanceOf 18 = .ok (.aload_n 0, 1) := by decide +kernel
theorem dX3_balanceOf_19 : decode cX3_balanceOf 19 = .ok (.getfield 34, 3) := by decide +kernel
theorem dX3_balanceOf_22 : decode cX3_balanceOf 22 = .ok (.iload_n 3, 1) := by decide +kernel
theorem dX3_balanceOf_23 : decode cX3_balanceOf 23 = .ok (.iaload, 1) := by decide +kernel
theorem dX3_balanceOf_24 : decode cX3_balanceOf 24 = .ok (.iadd, 1) := by decide +kernel
theorem dX3_balanceOf_25 : decode cX3_balanceOf 25 = .ok (.istore_n 2, 1) := by decide +kernel
theorem dX3_balanceOf_26 : decode cX3_balanceOf 26 = .ok (.iinc 3 1, 3) := by decide +kernel
theorem dX3_balanceOf_29 : decode cX3_balanceOf 29 = .ok (.goto (-25), 3) := by decide +kernel
theorem dX3_balanceOf_32 : decode cX3_balanceOf 32 = .ok (.iload_n 2, 1) := by decide +kernel
theorem dX3_balanceOf_33 : decode cX3_balanceOf 33 = .ok (.ireturn, 1) := by decide +kernel
theorem dX4_init_0 : decode cX4_init 0 = .ok (.aload_n 0, 1) := by decide +kernel
theorem dX4_init_1 : decode cX4_init 1 = .ok (.invokespecial 1, 3) := by decide +kernel
theorem dX4_init_4 : decode cX4_init 4 = .ok (.aload_n 0, 1) := by decide +kernel
theorem dX4_init_5 : decode cX4_init 5 = .ok (.bipush 6, 2) := by decide +kernel
theorem dX4_init_7 : decode cX4_init 7 = .ok (.newarray .int, 2) := by decide +kernel
theorem dX4_init_9 : decode cX4_init 9 = .ok (.putfield 9, 3) := by decide +kernel
theorem dX4_init_12 : decode cX4_init 12 = .ok (.aload_n 0, 1) := by decide +kernel
theorem dX4_init_13 : decode cX4_init 13 = .ok (.bipush 100, 2) := by decide +kernel
theorem dX4_init_15 : decode cX4_init 15 = .ok (.newarray .int, 2) := by decide +kernel
theorem dX4_init_17 : decode cX4_init 17 = .ok (.putfield 13, 3) := by decide +kernel
theorem dX4_init_20 : decode cX4_init 20 = .ok (.return_, 1) := by decide +kernel
theorem dX4_tell_0 : decode cX4_tell 0 = .ok (.iconst 0, 1) := by decide +kernel
theorem dX4_tell_1 : decode cX4_tell 1 = .ok (.istore 4, 2) := by decide +kernel
theorem dX4_tell_3 : decode cX4_tell 3 = .ok (.iload_n 2, 1) := by decide +kernel
theorem dX4_tell_4 : decode cX4_tell 4 = .ok (.istore 5, 2) := by decide +kernel
theorem dX4_tell_6 : decode cX4_tell 6 = .ok (.iload 5, 2) := by decide +kernel
theorem dX4_tell_8 : decode cX4_tell 8 = .ok (.iload_n 3, 1) := by decide +kernel
theorem dX4_tell_9 : decode cX4_tell 9 = .ok (.if_icmp .ge 253, 3) := by decide +kernel
theorem dX4_tell_12 : decode cX4_tell 12 = .ok (.iload 5, 2) := by decide +kernel
theorem dX4_tell_14 : decode cX4_tell 14 = .ok (.aload_n 1, 1) := by decide +kernel
theorem dX4_tell_15 : decode cX4_tell 15 = .ok (.arraylength, 1) := by decide +kernel
theorem dX4_tell_16 : decode cX4_tell 16 = .ok (.if_icmp .ge 246, 3) := by decide +kernel
theorem dX4_tell_19 : decode cX4_tell 19 = .ok (.iload 4, 2) := by decide +kernel
theorem dX4_tell_21 : decode cX4_tell 21 = .ok (.bipush 100, 2) := by decide +kernel
theorem dX4_tell_23 : decode cX4_tell 23 = .ok (.if_icmp .ge 239, 3) := by decide +kernel
theorem dX4_tell_26 : decode cX4_tell 26 = .ok (.aload_n 1, 1) := by decide +kernel
theorem dX4_tell_27 : decode cX4_tell 27 = .ok (.iload 5, 2) := by decide +kernel
theorem dX4_tell_29 : decode cX4_tell 29 = .ok (.iaload, 1) := by decide +kernel
theorem dX4_tell_30 : decode cX4_tell 30 = .ok (.istore 6, 2) := by decide +kernel
theorem dX4_tell_32 : decode cX4_tell 32 = .ok (.iload 6, 2) := by decide +kernel
theorem dX4_tell_34 : decode cX4_tell 34 = .ok (.sipush 1000, 3) := by decide +kernel
theorem dX4_tell_37 : decode cX4_tell 37 = .ok (.if_icmp .ge 18, 3) := by decide +kernel
theorem dX4_tell_40 : decode cX4_tell 40 = .ok (.aload_n 0, 1) := by decide +kernel
theorem dX4_tell_41 : decode cX4_tell 41 = .ok (.getfield 13, 3) := by decide +kernel
theorem dX4_tell_44 : decode cX4_tell 44 = .ok (.iload 4, 2) := by decide +kernel
theorem dX4_tell_46 : decode cX4_tell 46 = .ok (.iinc 4 1, 3) := by decide +kernel
theorem dX4_tell_49 : decode cX4_tell 49 = .ok (.iload 6, 2) := by decide +kernel
theorem dX4_tell_51 : decode cX4_tell 51 = .ok (.iastore, 1) := by decide +kernel
theorem dX4_tell_52 : decode cX4_tell 52 = .ok (.goto 204, 3) := by decide +kernel
theorem dX4_tell_55 : decode cX4_tell 55 = .ok (.iload 6, 2) := by decide +kernel
theorem dX4_tell_57 : decode cX4_tell 57 = .ok (.sipush 1010, 3) := by decide +kernel
theorem dX4_tell_60 : decode cX4_tell 60 = .ok (.if_icmp .lt 42, 3) := by decide +kernel
theorem dX4_tell_63 : decode cX4_tell 63 = .ok (.aload_n 0, 1) := by decide +kernel
theorem dX4_tell_64 : decode cX4_tell 64 = .ok (.getfield 13, 3) := by decide +kernel
theorem dX4_tell_67 : decode cX4_tell 67 = .ok (.iload 4, 2) := by decide +kernel
theorem dX4_tell_69 : decode cX4_tell 69 = .ok (.iinc 4 1, 3) := by decide +kernel
theorem dX4_tell_72 : decode cX4_tell 72 = .ok (.iload 6, 2) := by decide +kernel
theorem dX4_tell_74 : decode cX4_tell 74 = .ok (.sipush 1010, 3) := by decide +kernel
theorem dX4_tell_77 : decode cX4_tell 77 = .ok (.isub, 1) := by decide +kernel
theorem dX4_tell_78 : decode cX4_tell 78 = .ok (.bipush 6, 2) := by decide +kernel
theorem dX4_tell_80 : decode cX4_tell 80 = .ok (.if_icmp .ge 17, 3) := by decide +kernel
theorem dX4_tell_83 : decode cX4_tell 83 = .ok (.aload_n 0, 1) := by decide +kernel
theorem dX4_tell_84 : decode cX4_tell 84 = .ok (.getfield 9, 3) := by decide +kernel
theorem dX4_tell_87 : decode cX4_tell 87 = .ok (.iload 6, 2) := by decide +kernel
theorem dX4_tell_89 : decode cX4_tell 89 = .ok (.sipush 1010, 3) := by decide +kernel
theorem dX4_tell_92 : decode cX4_tell 92 = .ok (.isub, 1) := by decide +kernel
theorem dX4_tell_93 : decode cX4_tell 93 = .ok (.iaload, 1) := by decide +kernel
theorem dX4_tell_94 : decode cX4_tell 94 = .ok (.goto 4, 3) := by decide +kernel
theorem dX4_tell_97 : decode cX4_tell 97 = .ok (.iconst 0, 1) := by decide +kernel
theorem dX4_tell_98 : decode cX4_tell 98 = .ok (.iastore, 1) := by decide +kernel
theorem dX4_tell_99 : decode cX4_tell 99 = .ok (.goto 157, 3) := by decide +kernel
theorem dX4_tell_102 : decode cX4_tell 102 = .ok (.iload 6, 2) := by decide +kernel
theorem dX4_tell_104 : decode cX4_tell 104 = .ok (.sipush 1008, 3) := by decide +kernel
theorem dX4_tell_107 : decode cX4_tell 107 = .ok (.if_icmp .ne 31, 3) := by decide +kernel
theorem dX4_tell_110 : decode cX4_tell 110 = .ok (.iload 4, 2) := by decide +kernel
theorem dX4_tell_112 : decode cX4_tell 112 = .ok (.ifCond .le 26, 3) := by decide +kernel
theorem dX4_tell_115 : decode cX4_tell 115 = .ok (.aload_n 0, 1) := by decide +kernel
theorem dX4_tell_116 : decode cX4_tell 116 = .ok (.getfield 13, 3) := by decide +kernel
theorem dX4_tell_119 : decode cX4_tell 119 = .ok (.iload 4, 2) := by decide +kernel
theorem dX4_tell_121 : decode cX4_tell 121 = .ok (.iconst 1, 1) := by decide +kernel
theorem dX4_tell_122 : decode cX4_tell 122 = .ok (.isub, 1) := by decide +kernel
theorem dX4_tell_123 : decode cX4_tell 123 = .ok (.iconst 1, 1) := by decide +kernel
theorem dX4_tell_124 : decode cX4_tell 124 = .ok (.aload_n 0, 1) := by decide +kernel
theorem dX4_tell_125 : decode cX4_tell 125 = .ok (.getfield 13, 3) := by decide +kernel
theorem dX4_tell_128 : decode cX4_tell 128 = .ok (.iload 4, 2) := by decide +kernel
theorem dX4_tell_130 : decode cX4_tell 130 = .ok (.iconst 1, 1) := by decide +kernel
theorem dX4_tell_131 : decode cX4_tell 131 = .ok (.isub, 1) := by decide +kernel
theorem dX4_tell_132 : decode cX4_tell 132 = .ok (.iaload, 1) := by decide +kernel
theorem dX4_tell_133 : decode cX4_tell 133 = .ok (.isub, 1) := by decide +kernel
theorem dX4_tell_134 : decode cX4_tell 134 = .ok (.iastore, 1) := by decide +kernel
theorem dX4_tell_135 : decode cX4_tell 135 = .ok (.goto 121, 3) := by decide +kernel
theorem dX4_tell_138 : decode cX4_tell 138 = .ok (.iload 6, 2) := by decide +kernel
theorem dX4_tell_140 : decode cX4_tell 140 = .ok (.sipush 1009, 3) := by decide +kernel
theorem dX4_tell_143 : decode cX4_tell 143 = .ok (.if_icmp .ne 55, 3) := by decide +kernel
theorem dX4_tell_146 : decode cX4_tell 146 = .ok (.iload 4, 2) := by decide +kernel
theorem dX4_tell_148 : decode cX4_tell 148 = .ok (.iconst 2, 1) := by decide +kernel
theorem dX4_tell_149 : decode cX4_tell 149 = .ok (.if_icmp .le 49, 3) := by decide +kernel
theorem dX4_tell_152 : decode cX4_tell 152 = .ok (.iinc 4 (-2), 3) := by decide +kernel
theorem dX4_tell_155 : decode cX4_tell 155 = .ok (.aload_n 0, 1) := by decide +kernel
theorem dX4_tell_156 : decode cX4_tell 156 = .ok (.getfield 13, 3) := by decide +kernel
theorem dX4_tell_159 : decode cX4_tell 159 = .ok (.iload 4, 2) := by decide +kernel
theorem dX4_tell_161 : decode cX4_tell 161 = .ok (.iconst 1, 1) := by decide +kernel
theorem dX4_tell_162 : decode cX4_tell 162 = .ok (.isub, 1) := by decide +kernel
theorem dX4_tell_163 : decode cX4_tell 163 = .ok (.aload_n 0, 1) := by decide +kernel
theorem dX4_tell_164 : decode cX4_tell 164 = .ok (.getfield 13, 3) := by decide +kernel
theorem dX4_tell_167 : decode cX4_tell 167 = .ok (.iload 4, 2) := by decide +kernel
theorem dX4_tell_169 : decode cX4_tell 169 = .ok (.iconst 1, 1) := by decide +kernel
theorem dX4_tell_170 : decode cX4_tell 170 = .ok (.isub, 1) := by decide +kernel
theorem dX4_tell_171 : decode cX4_tell 171 = .ok (.iaload, 1) := by decide +kernel
theorem dX4_tell_172 : decode cX4_tell 172 = .ok (.ifCond .eq 13, 3) := by decide +kernel
theorem dX4_tell_175 : decode cX4_tell 175 = .ok (.aload_n 0, 1) := by decide +kernel
theorem dX4_tell_176 : decode cX4_tell 176 = .ok (.getfield 13, 3) := by decide +kernel
theorem dX4_tell_179 : decode cX4_tell 179 = .ok (.iload 4, 2) := by decide +kernel
theorem dX4_tell_181 : decode cX4_tell 181 = .ok (.iaload, 1) := by decide +kernel
theorem dX4_tell_182 : decode cX4_tell 182 = .ok (.goto 12, 3) := by decide +kernel
theorem dX4_tell_185 : decode cX4_tell 185 = .ok (.aload_n 0, 1) := by decide +kernel
theorem dX4_tell_186 : decode cX4_tell 186 = .ok (.getfield 13, 3) := by decide +kernel
theorem dX4_tell_189 : decode cX4_tell 189 = .ok (.iload 4, 2) := by decide +kernel
theorem dX4_tell_191 : decode cX4_tell 191 = .ok (.iconst 1, 1) := by decide +kernel
theorem dX4_tell_192 : decode cX4_tell 192 = .ok (.iadd, 1) := by decide +kernel
theorem dX4_tell_193 : decode cX4_tell 193 = .ok (.iaload, 1) := by decide +kernel
theorem dX4_tell_194 : decode cX4_tell 194 = .ok (.iastore, 1) := by decide +kernel
theorem dX4_tell_195 : decode cX4_tell 195 = .ok (.goto 61, 3) := by decide +kernel
theorem dX4_tell_198 : decode cX4_tell 198 = .ok (.iload 4, 2) := by decide +kernel
theorem dX4_tell_200 : decode cX4_tell 200 = .ok (.iconst 1, 1) := by decide +kernel
theorem dX4_tell_201 : decode cX4_tell 201 = .ok (.if_icmp .le 55, 3) := by decide +kernel
theorem dX4_tell_204 : decode cX4_tell 204 = .ok (.iinc 4 (-1), 3) := by decide +kernel
theorem dX4_tell_207 : decode cX4_tell 207 = .ok (.ldc2_w 16, 3) := by decide +kernel
theorem dX4_tell_210 : decode cX4_tell 210 = .ok (.ldc2_w 18, 3) := by decide +kernel
theorem dX4_tell_213 : decode cX4_tell 213 = .ok (.iload 6, 2) := by decide +kernel
theorem dX4_tell_215 : decode cX4_tell 215 = .ok (.aload_n 0, 1) := by decide +kernel
theorem dX4_tell_216 : decode cX4_tell 216 = .ok (.getfield 13, 3) := by decide +kernel
theorem dX4_tell_219 : decode cX4_tell 219 = .ok (.iload 4, 2) := by decide +kernel
theorem dX4_tell_221 : decode cX4_tell 221 = .ok (.iconst 1, 1) := by decide +kernel
theorem dX4_tell_222 : decode cX4_tell 222 = .ok (.isub, 1) := by decide +kernel
theorem dX4_tell_223 : decode cX4_tell 223 = .ok (.iaload, 1) := by decide +kernel
theorem dX4_tell_224 : decode cX4_tell 224 = .ok (.i2l, 1) := by decide +kernel
theorem dX4_tell_225 : decode cX4_tell 225 = .ok (.aload_n 0, 1) := by decide +kernel
theorem dX4_tell_226 : decode cX4_tell 226 = .ok (.getfield 13, 3) := by decide +kernel
theorem dX4_tell_229 : decode cX4_tell 229 = .ok (.iload 4, 2) := by decide +kernel
theorem dX4_tell_231 : decode cX4_tell 231 = .ok (.iaload, 1) := by decide +kernel
theorem dX4_tell_232 : decode cX4_tell 232 = .ok (.i2l, 1) := by decide +kernel
theorem dX4_tell_233 : decode cX4_tell 233 = .ok (.invokestatic 20, 3) := by decide +kernel
theorem dX4_tell_236 : decode cX4_tell 236 = .ok (.invokestatic 24, 3) := by decide +kernel
theorem dX4_tell_239 : decode cX4_tell 239 = .ok (.invokestatic 30, 3) := by decide +kernel
theorem dX4_tell_242 : decode cX4_tell 242 = .ok (.lstore 7, 2) := by decide +kernel
theorem dX4_tell_244 : decode cX4_tell 244 = .ok (.aload_n 0, 1) := by decide +kernel
theorem dX4_tell_245 : decode cX4_tell 245 = .ok (.getfield 13, 3) := by decide +kernel
theorem dX4_tell_248 : decode cX4_tell 248 = .ok (.iload 4, 2) := by decide +kernel
theorem dX4_tell_250 : decode cX4_tell 250 = .ok (.iconst 1, 1) := by decide +kernel
theorem dX4_tell_251 : decode cX4_tell 251 = .ok (.isub, 1) := by decide +kernel
theorem dX4_tell_252 : decode cX4_tell 252 = .ok (.lload 7, 2) := by decide +kernel
theorem dX4_tell_254 : decode cX4_tell 254 = .ok (.l2i, 1) := by decide +kernel
theorem dX4_tell_255 : decode cX4_tell 255 = .ok (.iastore, 1) := by decide +kernel
theorem dX4_tell_256 : decode cX4_tell 256 = .ok (.iinc 5 1, 3) := by decide +kernel
theorem dX4_tell_259 : decode cX4_tell 259 = .ok (.goto (-253), 3) := by decide +kernel
theorem dX4_tell_262 : decode cX4_tell 262 = .ok (.iload 4, 2) := by decide +kernel
theorem dX4_tell_264 : decode cX4_tell 264 = .ok (.ifCond .le 15, 3) := by decide +kernel
theorem dX4_tell_267 : decode cX4_tell 267 = .ok (.aload_n 0, 1) := by decide +kernel
theorem dX4_tell_268 : decode cX4_tell 268 = .ok (.getfield 13, 3) := by decide +kernel
theorem dX4_tell_271 : decode cX4_tell 271 = .ok (.iload 4, 2) := by decide +kernel
theorem dX4_tell_273 : decode cX4_tell 273 = .ok (.iconst 1, 1) := by decide +kernel
theorem dX4_tell_274 : decode cX4_tell 274 = .ok (.isub, 1) := by decide +kernel
theorem dX4_tell_275 : decode cX4_tell 275 = .ok (.iaload, 1) := by decide +kernel
theorem dX4_tell_276 : decode cX4_tell 276 = .ok (.goto 4, 3) := by decide +kernel
theorem dX4_tell_279 : decode cX4_tell 279 = .ok (.iconst 0, 1) := by decide +kernel
theorem dX4_tell_280 : decode cX4_tell 280 = .ok (.ireturn, 1) := by decide +kernel
theorem dX4_joined_0 : decode cX4_joined 0 = .ok (.iload_n 0, 1) := by decide +kernel
theorem dX4_joined_1 : decode cX4_joined 1 = .ok (.tableswitch 95 1000 1006 #[43, 47, 51, 55, 67, 79, 91], 43) := by decide +kernel
theorem dX4_joined_44 : decode cX4_joined 44 = .ok (.lload_n 1, 1) := by decide +kernel
theorem dX4_joined_45 : decode cX4_joined 45 = .ok (.lload_n 3, 1) := by decide +kernel
theorem dX4_joined_46 : decode cX4_joined 46 = .ok (.ladd, 1) := by decide +kernel
theorem dX4_joined_47 : decode cX4_joined 47 = .ok (.lreturn, 1) := by decide +kernel
theorem dX4_joined_48 : decode cX4_joined 48 = .ok (.lload_n 1, 1) := by decide +kernel
theorem dX4_joined_49 : decode cX4_joined 49 = .ok (.lload_n 3, 1) := by decide +kernel
theorem dX4_joined_50 : decode cX4_joined 50 = .ok (.lsub, 1) := by decide +kernel
theorem dX4_joined_51 : decode cX4_joined 51 = .ok (.lreturn, 1) := by decide +kernel
theorem dX4_joined_52 : decode cX4_joined 52 = .ok (.lload_n 1, 1) := by decide +kernel
theorem dX4_joined_53 : decode cX4_joined 53 = .ok (.lload_n 3, 1) := by decide +kernel
theorem dX4_joined_54 : decode cX4_joined 54 = .ok (.lmul, 1) := by decide +kernel
theorem dX4_joined_55 : decode cX4_joined 55 = .ok (.lreturn, 1) := by decide +kernel
theorem dX4_joined_56 : decode cX4_joined 56 = .ok (.lload_n 1, 1) := by decide +kernel
theorem dX4_joined_57 : decode cX4_joined 57 = .ok (.lload_n 3, 1) := by decide +kernel
theorem dX4_joined_58 : decode cX4_joined 58 = .ok (.lcmp, 1) := by decide +kernel
theorem dX4_joined_59 : decode cX4_joined 59 = .ok (.ifCond .ne 7, 3) := by decide +kernel
theorem dX4_joined_62 : decode cX4_joined 62 = .ok (.lconst 1, 1) := by decide +kernel
theorem dX4_joined_63 : decode cX4_joined 63 = .ok (.goto 4, 3) := by decide +kernel
theorem dX4_joined_66 : decode cX4_joined 66 = .ok (.lconst 0, 1) := by decide +kernel
theorem dX4_joined_67 : decode cX4_joined 67 = .ok (.lreturn, 1) := by decide +kernel
theorem dX4_joined_68 : decode cX4_joined 68 = .ok (.lload_n 1, 1) := by decide +kernel
theorem dX4_joined_69 : decode cX4_joined 69 = .ok (.lload_n 3, 1) := by decide +kernel
theorem dX4_joined_70 : decode cX4_joined 70 = .ok (.lcmp, 1) := by decide +kernel
theorem dX4_joined_71 : decode cX4_joined 71 = .ok (.ifCond .ge 7, 3) := by decide +kernel
theorem dX4_joined_74 : decode cX4_joined 74 = .ok (.lconst 1, 1) := by decide +kernel
theorem dX4_joined_75 : decode cX4_joined 75 = .ok (.goto 4, 3) := by decide +kernel
theorem dX4_joined_78 : decode cX4_joined 78 = .ok (.lconst 0, 1) := by decide +kernel
theorem dX4_joined_79 : decode cX4_joined 79 = .ok (.lreturn, 1) := by decide +kernel
theorem dX4_joined_80 : decode cX4_joined 80 = .ok (.lload_n 1, 1) := by decide +kernel
theorem dX4_joined_81 : decode cX4_joined 81 = .ok (.lload_n 3, 1) := by decide +kernel
theorem dX4_joined_82 : decode cX4_joined 82 = .ok (.lcmp, 1) := by decide +kernel
theorem dX4_joined_83 : decode cX4_joined 83 = .ok (.ifCond .le 7, 3) := by decide +kernel
theorem dX4_joined_86 : decode cX4_joined 86 = .ok (.lconst 1, 1) := by decide +kernel
theorem dX4_joined_87 : decode cX4_joined 87 = .ok (.goto 4, 3) := by decide +kernel
theorem dX4_joined_90 : decode cX4_joined 90 = .ok (.lconst 0, 1) := by decide +kernel
theorem dX4_joined_91 : decode cX4_joined 91 = .ok (.lreturn, 1) := by decide +kernel
theorem dX4_joined_92 : decode cX4_joined 92 = .ok (.lload_n 1, 1) := by decide +kernel
theorem dX4_joined_93 : decode cX4_joined 93 = .ok (.lload_n 3, 1) := by decide +kernel
theorem dX4_joined_94 : decode cX4_joined 94 = .ok (.land, 1) := by decide +kernel
theorem dX4_joined_95 : decode cX4_joined 95 = .ok (.lreturn, 1) := by decide +kernel
theorem dX4_joined_96 : decode cX4_joined 96 = .ok (.lload_n 1, 1) := by decide +kernel
theorem dX4_joined_97 : decode cX4_joined 97 = .ok (.lload_n 3, 1) := by decide +kernel
theorem dX4_joined_98 : decode cX4_joined 98 = .ok (.lor, 1) := by decide +kernel
theorem dX4_joined_99 : decode cX4_joined 99 = .ok (.lreturn, 1) := by decide +kernel
theorem dX5_init_0 : decode cX5_init 0 = .ok (.aload_n 0, 1) := by decide +kernel
theorem dX5_init_1 : decode cX5_init 1 = .ok (.invokespecial 3, 3) := by decide +kernel
theorem dX5_init_4 : decode cX5_init 4 = .ok (.aload_n 0, 1) := by decide +kernel
theorem dX5_init_5 : decode cX5_init 5 = .ok (.bipush 11, 2) := by decide +kernel
theorem dX5_init_7 : decode cX5_init 7 = .ok (.anewarray 11, 3) := by decide +kernel
theorem dX5_init_10 : decode cX5_init 10 = .ok (.putfield 13, 3) := by decide +kernel
theorem dX5_init_13 : decode cX5_init 13 = .ok (.iconst 0, 1) := by decide +kernel
theorem dX5_init_14 : decode cX5_init 14 = .ok (.istore_n 1, 1) := by decide +kernel
theorem dX5_init_15 : decode cX5_init 15 = .ok (.iload_n 1, 1) := by decide +kernel
theorem dX5_init_16 : decode cX5_init 16 = .ok (.bipush 11, 2) := by decide +kernel
theorem dX5_init_18 : decode cX5_init 18 = .ok (.if_icmp .ge 22, 3) := by decide +kernel
theorem dX5_init_21 : decode cX5_init 21 = .ok (.aload_n 0, 1) := by decide +kernel
theorem dX5_init_22 : decode cX5_init 22 = .ok (.getfield 13, 3) := by decide +kernel
theorem dX5_init_25 : decode cX5_init 25 = .ok (.iload_n 1, 1) := by decide +kernel
theorem dX5_init_26 : decode cX5_init 26 = .ok (.new 11, 3) := by decide +kernel
theorem dX5_init_29 : decode cX5_init 29 = .ok (.dup, 1) := by decide +kernel
theorem dX5_init_30 : decode cX5_init 30 = .ok (.invokespecial 17, 3) := by decide +kernel
theorem dX5_init_33 : decode cX5_init 33 = .ok (.aastore, 1) := by decide +kernel
theorem dX5_init_34 : decode cX5_init 34 = .ok (.iinc 1 1, 3) := by decide +kernel
theorem dX5_init_37 : decode cX5_init 37 = .ok (.goto (-22), 3) := by decide +kernel
theorem dX5_init_40 : decode cX5_init 40 = .ok (.return_, 1) := by decide +kernel
theorem dX5_keep_0 : decode cX5_keep 0 = .ok (.aload_n 0, 1) := by decide +kernel
theorem dX5_keep_1 : decode cX5_keep 1 = .ok (.getfield 13, 3) := by decide +kernel
theorem dX5_keep_4 : decode cX5_keep 4 = .ok (.aload_n 0, 1) := by decide +kernel
theorem dX5_keep_5 : decode cX5_keep 5 = .ok (.getfield 18, 3) := by decide +kernel
theorem dX5_keep_8 : decode cX5_keep 8 = .ok (.aaload, 1) := by decide +kernel
theorem dX5_keep_9 : decode cX5_keep 9 = .ok (.aload_n 1, 1) := by decide +kernel
theorem dX5_keep_10 : decode cX5_keep 10 = .ok (.invokevirtual 22, 3) := by decide +kernel
theorem dX5_keep_13 : decode cX5_keep 13 = .ok (.return_, 1) := by decide +kernel
theorem dX5_confirm_0 : decode cX5_confirm 0 = .ok (.aload_n 0, 1) := by decide +kernel
theorem dX5_confirm_1 : decode cX5_confirm 1 = .ok (.aload_n 0, 1) := by decide +kernel
theorem dX5_confirm_2 : decode cX5_confirm 2 = .ok (.getfield 18, 3) := by decide +kernel
theorem dX5_confirm_5 : decode cX5_confirm 5 = .ok (.iconst 1, 1) := by decide +kernel
theorem dX5_confirm_6 : decode cX5_confirm 6 = .ok (.iadd, 1) := by decide +kernel
theorem dX5_confirm_7 : decode cX5_confirm 7 = .ok (.bipush 11, 2) := by decide +kernel
theorem dX5_confirm_9 : decode cX5_confirm 9 = .ok (.irem, 1) := by decide +kernel
theorem dX5_confirm_10 : decode cX5_confirm 10 = .ok (.putfield 18, 3) := by decide +kernel
theorem dX5_confirm_13 : decode cX5_confirm 13 = .ok (.aload_n 0, 1) := by decide +kernel
theorem dX5_confirm_14 : decode cX5_confirm 14 = .ok (.aload_n 0, 1) := by decide +kernel
theorem dX5_confirm_15 : decode cX5_confirm 15 = .ok (.getfield 26, 3) := by decide +kernel
theorem dX5_confirm_18 : decode cX5_confirm 18 = .ok (.iconst 1, 1) := by decide +kernel
theorem dX5_confirm_19 : decode cX5_confirm 19 = .ok (.iadd, 1) := by decide +kernel
theorem dX5_confirm_20 : decode cX5_confirm 20 = .ok (.bipush 10, 2) := by decide +kernel
theorem dX5_confirm_22 : decode cX5_confirm 22 = .ok (.invokestatic 29, 3) := by decide +kernel
theorem dX5_confirm_25 : decode cX5_confirm 25 = .ok (.putfield 26, 3) := by decide +kernel
theorem dX5_confirm_28 : decode cX5_confirm 28 = .ok (.return_, 1) := by decide +kernel
theorem dX5_bringBack_0 : decode cX5_bringBack 0 = .ok (.aload_n 0, 1) := by decide +kernel
theorem dX5_bringBack_1 : decode cX5_bringBack 1 = .ok (.aload_n 0, 1) := by decide +kernel
theorem dX5_bringBack_2 : decode cX5_bringBack 2 = .ok (.getfield 18, 3) := by decide +kernel
theorem dX5_bringBack_5 : decode cX5_bringBack 5 = .ok (.iload_n 1, 1) := by decide +kernel
theorem dX5_bringBack_6 : decode cX5_bringBack 6 = .ok (.isub, 1) := by decide +kernel
theorem dX5_bringBack_7 : decode cX5_bringBack 7 = .ok (.bipush 11, 2) := by decide +kernel
theorem dX5_bringBack_9 : decode cX5_bringBack 9 = .ok (.invokestatic 35, 3) := by decide +kernel
theorem dX5_bringBack_12 : decode cX5_bringBack 12 = .ok (.putfield 18, 3) := by decide +kernel
theorem dX5_bringBack_15 : decode cX5_bringBack 15 = .ok (.aload_n 0, 1) := by decide +kernel
theorem dX5_bringBack_16 : decode cX5_bringBack 16 = .ok (.dup, 1) := by decide +kernel
theorem dX5_bringBack_17 : decode cX5_bringBack 17 = .ok (.getfield 26, 3) := by decide +kernel
theorem dX5_bringBack_20 : decode cX5_bringBack 20 = .ok (.iload_n 1, 1) := by decide +kernel
theorem dX5_bringBack_21 : decode cX5_bringBack 21 = .ok (.isub, 1) := by decide +kernel
theorem dX5_bringBack_22 : decode cX5_bringBack 22 = .ok (.putfield 26, 3) := by decide +kernel
theorem dX5_bringBack_25 : decode cX5_bringBack 25 = .ok (.aload_n 2, 1) := by decide +kernel
theorem dX5_bringBack_26 : decode cX5_bringBack 26 = .ok (.aload_n 0, 1) := by decide +kernel
theorem dX5_bringBack_27 : decode cX5_bringBack 27 = .ok (.getfield 13, 3) := by decide +kernel
theorem dX5_bringBack_30 : decode cX5_bringBack 30 = .ok (.aload_n 0, 1) := by decide +kernel
theorem dX5_bringBack_31 : decode cX5_bringBack 31 = .ok (.getfield 18, 3) := by decide +kernel
theorem dX5_bringBack_34 : decode cX5_bringBack 34 = .ok (.aaload, 1) := by decide +kernel
theorem dX5_bringBack_35 : decode cX5_bringBack 35 = .ok (.invokevirtual 22, 3) := by decide +kernel
theorem dX5_bringBack_38 : decode cX5_bringBack 38 = .ok (.return_, 1) := by decide +kernel
theorem dX5_forget_0 : decode cX5_forget 0 = .ok (.aload_n 0, 1) := by decide +kernel
theorem dX5_forget_1 : decode cX5_forget 1 = .ok (.iconst 0, 1) := by decide +kernel
theorem dX5_forget_2 : decode cX5_forget 2 = .ok (.putfield 26, 3) := by decide +kernel
theorem dX5_forget_5 : decode cX5_forget 5 = .ok (.return_, 1) := by decide +kernel
theorem dX6_init_0 : decode cX6_init 0 = .ok (.aload_n 0, 1) := by decide +kernel
theorem dX6_init_1 : decode cX6_init 1 = .ok (.invokespecial 3, 3) := by decide +kernel
theorem dX6_init_4 : decode cX6_init 4 = .ok (.aload_n 0, 1) := by decide +kernel
theorem dX6_init_5 : decode cX6_init 5 = .ok (.bipush 6, 2) := by decide +kernel
theorem dX6_init_7 : decode cX6_init 7 = .ok (.newarray .int, 2) := by decide +kernel
theorem dX6_init_9 : decode cX6_init 9 = .ok (.putfield 9, 3) := by decide +kernel
theorem dX6_init_12 : decode cX6_init 12 = .ok (.return_, 1) := by decide +kernel
theorem dX6_bestSet_0 : decode cX6_bestSet 0 = .ok (.iconst 0, 1) := by decide +kernel
theorem dX6_bestSet_1 : decode cX6_bestSet 1 = .ok (.istore_n 2, 1) := by decide +kernel
theorem dX6_bestSet_2 : decode cX6_bestSet 2 = .ok (.iconst 0, 1) := by decide +kernel
theorem dX6_bestSet_3 : decode cX6_bestSet 3 = .ok (.istore_n 3, 1) := by decide +kernel
theorem dX6_bestSet_4 : decode cX6_bestSet 4 = .ok (.iconst 1, 1) := by decide +kernel
theorem dX6_bestSet_5 : decode cX6_bestSet 5 = .ok (.istore 4, 2) := by decide +kernel
theorem dX6_bestSet_7 : decode cX6_bestSet 7 = .ok (.iload 4, 2) := by decide +kernel
theorem dX6_bestSet_9 : decode cX6_bestSet 9 = .ok (.iconst 1, 1) := by decide +kernel
theorem dX6_bestSet_10 : decode cX6_bestSet 10 = .ok (.aload_n 1, 1) := by decide +kernel
theorem dX6_bestSet_11 : decode cX6_bestSet 11 = .ok (.getfield 15, 3) := by decide +kernel
theorem dX6_bestSet_14 : decode cX6_bestSet 14 = .ok (.ishl, 1) := by decide +kernel
theorem dX6_bestSet_15 : decode cX6_bestSet 15 = .ok (.if_icmp .ge 40, 3) := by decide +kernel
theorem dX6_bestSet_18 : decode cX6_bestSet 18 = .ok (.aload_n 1, 1) := by decide +kernel
theorem dX6_bestSet_19 : decode cX6_bestSet 19 = .ok (.iload 4, 2) := by decide +kernel
theorem dX6_bestSet_21 : decode cX6_bestSet 21 = .ok (.invokestatic 21, 3) := by decide +kernel
theorem dX6_bestSet_24 : decode cX6_bestSet 24 = .ok (.istore 5, 2) := by decide +kernel
theorem dX6_bestSet_26 : decode cX6_bestSet 26 = .ok (.iload 5, 2) := by decide +kernel
theorem dX6_bestSet_28 : decode cX6_bestSet 28 = .ok (.iload_n 3, 1) := by decide +kernel
theorem dX6_bestSet_29 : decode cX6_bestSet 29 = .ok (.if_icmp .le 20, 3) := by decide +kernel
theorem dX6_bestSet_32 : decode cX6_bestSet 32 = .ok (.aload_n 0, 1) := by decide +kernel
theorem dX6_bestSet_33 : decode cX6_bestSet 33 = .ok (.aload_n 1, 1) := by decide +kernel
theorem dX6_bestSet_34 : decode cX6_bestSet 34 = .ok (.iload 4, 2) := by decide +kernel
theorem dX6_bestSet_36 : decode cX6_bestSet 36 = .ok (.iconst 0, 1) := by decide +kernel
theorem dX6_bestSet_37 : decode cX6_bestSet 37 = .ok (.invokevirtual 25, 3) := by decide +kernel
theorem dX6_bestSet_40 : decode cX6_bestSet 40 = .ok (.ifCond .eq 9, 3) := by decide +kernel
theorem dX6_bestSet_43 : decode cX6_bestSet 43 = .ok (.iload 4, 2) := by decide +kernel
theorem dX6_bestSet_45 : decode cX6_bestSet 45 = .ok (.istore_n 2, 1) := by decide +kernel
theorem dX6_bestSet_46 : decode cX6_bestSet 46 = .ok (.iload 5, 2) := by decide +kernel
theorem dX6_bestSet_48 : decode cX6_bestSet 48 = .ok (.istore_n 3, 1) := by decide +kernel
theorem dX6_bestSet_49 : decode cX6_bestSet 49 = .ok (.iinc 4 1, 3) := by decide +kernel
theorem dX6_bestSet_52 : decode cX6_bestSet 52 = .ok (.goto (-45), 3) := by decide +kernel
theorem dX6_bestSet_55 : decode cX6_bestSet 55 = .ok (.iload_n 2, 1) := by decide +kernel
theorem dX6_bestSet_56 : decode cX6_bestSet 56 = .ok (.ireturn, 1) := by decide +kernel
theorem dX6_worthOf_0 : decode cX6_worthOf 0 = .ok (.iconst 0, 1) := by decide +kernel
theorem dX6_worthOf_1 : decode cX6_worthOf 1 = .ok (.istore_n 2, 1) := by decide +kernel
theorem dX6_worthOf_2 : decode cX6_worthOf 2 = .ok (.iconst 0, 1) := by decide +kernel
theorem dX6_worthOf_3 : decode cX6_worthOf 3 = .ok (.istore_n 3, 1) := by decide +kernel
theorem dX6_worthOf_4 : decode cX6_worthOf 4 = .ok (.iload_n 3, 1) := by decide +kernel
theorem dX6_worthOf_5 : decode cX6_worthOf 5 = .ok (.aload_n 0, 1) := by decide +kernel
theorem dX6_worthOf_6 : decode cX6_worthOf 6 = .ok (.getfield 15, 3) := by decide +kernel
theorem dX6_worthOf_9 : decode cX6_worthOf 9 = .ok (.if_icmp .ge 26, 3) := by decide +kernel
theorem dX6_worthOf_12 : decode cX6_worthOf 12 = .ok (.iload_n 1, 1) := by decide +kernel
theorem dX6_worthOf_13 : decode cX6_worthOf 13 = .ok (.iload_n 3, 1) := by decide +kernel
theorem dX6_worthOf_14 : decode cX6_worthOf 14 = .ok (.ishr, 1) := by decide +kernel
theorem dX6_worthOf_15 : decode cX6_worthOf 15 = .ok (.iconst 1, 1) := by decide +kernel
theorem dX6_worthOf_16 : decode cX6_worthOf 16 = .ok (.iand, 1) := by decide +kernel
theorem dX6_worthOf_17 : decode cX6_worthOf 17 = .ok (.ifCond .eq 12, 3) := by decide +kernel
theorem dX6_worthOf_20 : decode cX6_worthOf 20 = .ok (.iload_n 2, 1) := by decide +kernel
theorem dX6_worthOf_21 : decode cX6_worthOf 21 = .ok (.aload_n 0, 1) := by decide +kernel
theorem dX6_worthOf_22 : decode cX6_worthOf 22 = .ok (.getfield 29, 3) := by decide +kernel
theorem dX6_worthOf_25 : decode cX6_worthOf 25 = .ok (.iload_n 3, 1) := by decide +kernel
theorem dX6_worthOf_26 : decode cX6_worthOf 26 = .ok (.iaload, 1) := by decide +kernel
theorem dX6_worthOf_27 : decode cX6_worthOf 27 = .ok (.iadd, 1) := by decide +kernel
theorem dX6_worthOf_28 : decode cX6_worthOf 28 = .ok (.istore_n 2, 1) := by decide +kernel
theorem dX6_worthOf_29 : decode cX6_worthOf 29 = .ok (.iinc 3 1, 3) := by decide +kernel
theorem dX6_worthOf_32 : decode cX6_worthOf 32 = .ok (.goto (-28), 3) := by decide +kernel
theorem dX6_worthOf_35 : decode cX6_worthOf 35 = .ok (.iload_n 2, 1) := by decide +kernel
theorem dX6_worthOf_36 : decode cX6_worthOf 36 = .ok (.ireturn, 1) := by decide +kernel
theorem dX6_canBeBuilt_0 : decode cX6_canBeBuilt 0 = .ok (.iconst 0, 1) := by decide +kernel
theorem dX6_canBeBuilt_1 : decode cX6_canBeBuilt 1 = .ok (.istore 4, 2) := by decide +kernel
theorem dX6_canBeBuilt_3 : decode cX6_canBeBuilt 3 = .ok (.iload 4, 2) := by decide +kernel
theorem dX6_canBeBuilt_5 : decode cX6_canBeBuilt 5 = .ok (.aload_n 1, 1) := by decide +kernel
theorem dX6_canBeBuilt_6 : decode cX6_canBeBuilt 6 = .ok (.getfield 15, 3) := by decide +kernel
theorem dX6_canBeBuilt_9 : decode cX6_canBeBuilt 9 = .ok (.if_icmp .ge 45, 3) := by decide +kernel
theorem dX6_canBeBuilt_12 : decode cX6_canBeBuilt 12 = .ok (.iload_n 2, 1) := by decide +kernel
theorem dX6_canBeBuilt_13 : decode cX6_canBeBuilt 13 = .ok (.iload 4, 2) := by decide +kernel
theorem dX6_canBeBuilt_15 : decode cX6_canBeBuilt 15 = .ok (.ishr, 1) := by decide +kernel
theorem dX6_canBeBuilt_16 : decode cX6_canBeBuilt 16 = .ok (.iconst 1, 1) := by decide +kernel
theorem dX6_canBeBuilt_17 : decode cX6_canBeBuilt 17 = .ok (.iand, 1) := by decide +kernel
theorem dX6_canBeBuilt_18 : decode cX6_canBeBuilt 18 = .ok (.ifCond .eq 30, 3) := by decide +kernel
theorem dX6_canBeBuilt_21 : decode cX6_canBeBuilt 21 = .ok (.iload_n 3, 1) := by decide +kernel
theorem dX6_canBeBuilt_22 : decode cX6_canBeBuilt 22 = .ok (.aload_n 0, 1) := by decide +kernel
theorem dX6_canBeBuilt_23 : decode cX6_canBeBuilt 23 = .ok (.aload_n 1, 1) := by decide +kernel
theorem dX6_canBeBuilt_24 : decode cX6_canBeBuilt 24 = .ok (.iload_n 2, 1) := by decide +kernel
theorem dX6_canBeBuilt_25 : decode cX6_canBeBuilt 25 = .ok (.aload_n 0, 1) := by decide +kernel
theorem dX6_canBeBuilt_26 : decode cX6_canBeBuilt 26 = .ok (.getfield 9, 3) := by decide +kernel
theorem dX6_canBeBuilt_29 : decode cX6_canBeBuilt 29 = .ok (.iload 4, 2) := by decide +kernel
theorem dX6_canBeBuilt_31 : decode cX6_canBeBuilt 31 = .ok (.iaload, 1) := by decide +kernel
theorem dX6_canBeBuilt_32 : decode cX6_canBeBuilt 32 = .ok (.invokevirtual 32, 3) := by decide +kernel
theorem dX6_canBeBuilt_35 : decode cX6_canBeBuilt 35 = .ok (.iadd, 1) := by decide +kernel
theorem dX6_canBeBuilt_36 : decode cX6_canBeBuilt 36 = .ok (.aload_n 0, 1) := by decide +kernel
theorem dX6_canBeBuilt_37 : decode cX6_canBeBuilt 37 = .ok (.getfield 9, 3) := by decide +kernel
theorem dX6_canBeBuilt_40 : decode cX6_canBeBuilt 40 = .ok (.iload 4, 2) := by decide +kernel
theorem dX6_canBeBuilt_42 : decode cX6_canBeBuilt 42 = .ok (.iaload, 1) := by decide +kernel
theorem dX6_canBeBuilt_43 : decode cX6_canBeBuilt 43 = .ok (.if_icmp .le 5, 3) := by decide +kernel
theorem dX6_canBeBuilt_46 : decode cX6_canBeBuilt 46 = .ok (.iconst 0, 1) := by decide +kernel
theorem dX6_canBeBuilt_47 : decode cX6_canBeBuilt 47 = .ok (.ireturn, 1) := by decide +kernel
theorem dX6_canBeBuilt_48 : decode cX6_canBeBuilt 48 = .ok (.iinc 4 1, 3) := by decide +kernel
theorem dX6_canBeBuilt_51 : decode cX6_canBeBuilt 51 = .ok (.goto (-48), 3) := by decide +kernel
theorem dX6_canBeBuilt_54 : decode cX6_canBeBuilt 54 = .ok (.iconst 1, 1) := by decide +kernel
theorem dX6_canBeBuilt_55 : decode cX6_canBeBuilt 55 = .ok (.ireturn, 1) := by decide +kernel
theorem dX6_dueBy_0 : decode cX6_dueBy 0 = .ok (.iconst 0, 1) := by decide +kernel
theorem dX6_dueBy_1 : decode cX6_dueBy 1 = .ok (.istore 4, 2) := by decide +kernel
theorem dX6_dueBy_3 : decode cX6_dueBy 3 = .ok (.iconst 0, 1) := by decide +kernel
theorem dX6_dueBy_4 : decode cX6_dueBy 4 = .ok (.istore 5, 2) := by decide +kernel
theorem dX6_dueBy_6 : decode cX6_dueBy 6 = .ok (.iload 5, 2) := by decide +kernel
theorem dX6_dueBy_8 : decode cX6_dueBy 8 = .ok (.aload_n 1, 1) := by decide +kernel
theorem dX6_dueBy_9 : decode cX6_dueBy 9 = .ok (.getfield 15, 3) := by decide +kernel
theorem dX6_dueBy_12 : decode cX6_dueBy 12 = .ok (.if_icmp .ge 41, 3) := by decide +kernel
theorem dX6_dueBy_15 : decode cX6_dueBy 15 = .ok (.iload_n 2, 1) := by decide +kernel
theorem dX6_dueBy_16 : decode cX6_dueBy 16 = .ok (.iload 5, 2) := by decide +kernel
theorem dX6_dueBy_18 : decode cX6_dueBy 18 = .ok (.ishr, 1) := by decide +kernel
theorem dX6_dueBy_19 : decode cX6_dueBy 19 = .ok (.iconst 1, 1) := by decide +kernel
theorem dX6_dueBy_20 : decode cX6_dueBy 20 = .ok (.iand, 1) := by decide +kernel
theorem dX6_dueBy_21 : decode cX6_dueBy 21 = .ok (.ifCond .eq 26, 3) := by decide +kernel
theorem dX6_dueBy_24 : decode cX6_dueBy 24 = .ok (.aload_n 0, 1) := by decide +kernel
theorem dX6_dueBy_25 : decode cX6_dueBy 25 = .ok (.getfield 9, 3) := by decide +kernel
theorem dX6_dueBy_28 : decode cX6_dueBy 28 = .ok (.iload 5, 2) := by decide +kernel
theorem dX6_dueBy_30 : decode cX6_dueBy 30 = .ok (.iaload, 1) := by decide +kernel
theorem dX6_dueBy_31 : decode cX6_dueBy 31 = .ok (.iload_n 3, 1) := by decide +kernel
theorem dX6_dueBy_32 : decode cX6_dueBy 32 = .ok (.if_icmp .gt 15, 3) := by decide +kernel
theorem dX6_dueBy_35 : decode cX6_dueBy 35 = .ok (.iload 4, 2) := by decide +kernel
theorem dX6_dueBy_37 : decode cX6_dueBy 37 = .ok (.aload_n 1, 1) := by decide +kernel
theorem dX6_dueBy_38 : decode cX6_dueBy 38 = .ok (.getfield 36, 3) := by decide +kernel
theorem dX6_dueBy_41 : decode cX6_dueBy 41 = .ok (.iload 5, 2) := by decide +kernel
theorem dX6_dueBy_43 : decode cX6_dueBy 43 = .ok (.iaload, 1) := by decide +kernel
theorem dX6_dueBy_44 : decode cX6_dueBy 44 = .ok (.iadd, 1) := by decide +kernel
theorem dX6_dueBy_45 : decode cX6_dueBy 45 = .ok (.istore 4, 2) := by decide +kernel
theorem dX6_dueBy_47 : decode cX6_dueBy 47 = .ok (.iinc 5 1, 3) := by decide +kernel
theorem dX6_dueBy_50 : decode cX6_dueBy 50 = .ok (.goto (-44), 3) := by decide +kernel
theorem dX6_dueBy_53 : decode cX6_dueBy 53 = .ok (.iload 4, 2) := by decide +kernel
theorem dX6_dueBy_55 : decode cX6_dueBy 55 = .ok (.ireturn, 1) := by decide +kernel
theorem dX6_inOrder_0 : decode cX6_inOrder 0 = .ok (.iload_n 2, 1) := by decide +kernel
theorem dX6_inOrder_1 : decode cX6_inOrder 1 = .ok (.istore 4, 2) := by decide +kernel
theorem dX6_inOrder_3 : decode cX6_inOrder 3 = .ok (.iconst 0, 1) := by decide +kernel
theorem dX6_inOrder_4 : decode cX6_inOrder 4 = .ok (.istore 5, 2) := by decide +kernel
theorem dX6_inOrder_6 : decode cX6_inOrder 6 = .ok (.iconst 0, 1) := by decide +kernel
theorem dX6_inOrder_7 : decode cX6_inOrder 7 = .ok (.istore 6, 2) := by decide +kernel
theorem dX6_inOrder_9 : decode cX6_inOrder 9 = .ok (.iload 6, 2) := by decide +kernel
theorem dX6_inOrder_11 : decode cX6_inOrder 11 = .ok (.bipush 6, 2) := by decide +kernel
theorem dX6_inOrder_13 : decode cX6_inOrder 13 = .ok (.if_icmp .ge 63, 3) := by decide +kernel
theorem dX6_inOrder_16 : decode cX6_inOrder 16 = .ok (.iload 4, 2) := by decide +kernel
theorem dX6_inOrder_18 : decode cX6_inOrder 18 = .ok (.ifCond .eq 58, 3) := by decide +kernel
theorem dX6_inOrder_21 : decode cX6_inOrder 21 = .ok (.aload_n 0, 1) := by decide +kernel
theorem dX6_inOrder_22 : decode cX6_inOrder 22 = .ok (.aload_n 1, 1) := by decide +kernel
theorem dX6_inOrder_23 : decode cX6_inOrder 23 = .ok (.iload 4, 2) := by decide +kernel
theorem dX6_inOrder_25 : decode cX6_inOrder 25 = .ok (.iload 5, 2) := by decide +kernel
theorem dX6_inOrder_27 : decode cX6_inOrder 27 = .ok (.invokevirtual 39, 3) := by decide +kernel
theorem dX6_inOrder_30 : decode cX6_inOrder 30 = .ok (.istore 7, 2) := by decide +kernel
theorem dX6_inOrder_32 : decode cX6_inOrder 32 = .ok (.iload 7, 2) := by decide +kernel
theorem dX6_inOrder_34 : decode cX6_inOrder 34 = .ok (.iconst (-1), 1) := by decide +kernel
theorem dX6_inOrder_35 : decode cX6_inOrder 35 = .ok (.if_icmp .eq 9, 3) := by decide +kernel
theorem dX6_inOrder_38 : decode cX6_inOrder 38 = .ok (.iload 6, 2) := by decide +kernel
theorem dX6_inOrder_40 : decode cX6_inOrder 40 = .ok (.iload_n 3, 1) := by decide +kernel
theorem dX6_inOrder_41 : decode cX6_inOrder 41 = .ok (.if_icmp .ne 6, 3) := by decide +kernel
theorem dX6_inOrder_44 : decode cX6_inOrder 44 = .ok (.iload 7, 2) := by decide +kernel
theorem dX6_inOrder_46 : decode cX6_inOrder 46 = .ok (.ireturn, 1) := by decide +kernel
theorem dX6_inOrder_47 : decode cX6_inOrder 47 = .ok (.iload 5, 2) := by decide +kernel
theorem dX6_inOrder_49 : decode cX6_inOrder 49 = .ok (.aload_n 1, 1) := by decide +kernel
theorem dX6_inOrder_50 : decode cX6_inOrder 50 = .ok (.getfield 36, 3) := by decide +kernel
theorem dX6_inOrder_53 : decode cX6_inOrder 53 = .ok (.iload 7, 2) := by decide +kernel
theorem dX6_inOrder_55 : decode cX6_inOrder 55 = .ok (.iaload, 1) := by decide +kernel
theorem dX6_inOrder_56 : decode cX6_inOrder 56 = .ok (.iadd, 1) := by decide +kernel
theorem dX6_inOrder_57 : decode cX6_inOrder 57 = .ok (.istore 5, 2) := by decide +kernel
theorem dX6_inOrder_59 : decode cX6_inOrder 59 = .ok (.iload 4, 2) := by decide +kernel
theorem dX6_inOrder_61 : decode cX6_inOrder 61 = .ok (.iconst 1, 1) := by decide +kernel
theorem dX6_inOrder_62 : decode cX6_inOrder 62 = .ok (.iload 7, 2) := by decide +kernel
theorem dX6_inOrder_64 : decode cX6_inOrder 64 = .ok (.ishl, 1) := by decide +kernel
theorem dX6_inOrder_65 : decode cX6_inOrder 65 = .ok (.iconst (-1), 1) := by decide +kernel
theorem dX6_inOrder_66 : decode cX6_inOrder 66 = .ok (.ixor, 1) := by decide +kernel
theorem dX6_inOrder_67 : decode cX6_inOrder 67 = .ok (.iand, 1) := by decide +kernel
theorem dX6_inOrder_68 : decode cX6_inOrder 68 = .ok (.istore 4, 2) := by decide +kernel
theorem dX6_inOrder_70 : decode cX6_inOrder 70 = .ok (.iinc 6 1, 3) := by decide +kernel
theorem dX6_inOrder_73 : decode cX6_inOrder 73 = .ok (.goto (-64), 3) := by decide +kernel
theorem dX6_inOrder_76 : decode cX6_inOrder 76 = .ok (.iconst (-1), 1) := by decide +kernel
theorem dX6_inOrder_77 : decode cX6_inOrder 77 = .ok (.ireturn, 1) := by decide +kernel
theorem dX6_nextOf_0 : decode cX6_nextOf 0 = .ok (.iconst 0, 1) := by decide +kernel
theorem dX6_nextOf_1 : decode cX6_nextOf 1 = .ok (.istore 4, 2) := by decide +kernel
theorem dX6_nextOf_3 : decode cX6_nextOf 3 = .ok (.iload 4, 2) := by decide +kernel
theorem dX6_nextOf_5 : decode cX6_nextOf 5 = .ok (.aload_n 1, 1) := by decide +kernel
theorem dX6_nextOf_6 : decode cX6_nextOf 6 = .ok (.getfield 15, 3) := by decide +kernel
theorem dX6_nextOf_9 : decode cX6_nextOf 9 = .ok (.if_icmp .ge 62, 3) := by decide +kernel
theorem dX6_nextOf_12 : decode cX6_nextOf 12 = .ok (.iload_n 3, 1) := by decide +kernel
theorem dX6_nextOf_13 : decode cX6_nextOf 13 = .ok (.aload_n 1, 1) := by decide +kernel
theorem dX6_nextOf_14 : decode cX6_nextOf 14 = .ok (.getfield 36, 3) := by decide +kernel
theorem dX6_nextOf_17 : decode cX6_nextOf 17 = .ok (.iload 4, 2) := by decide +kernel
theorem dX6_nextOf_19 : decode cX6_nextOf 19 = .ok (.iaload, 1) := by decide +kernel
theorem dX6_nextOf_20 : decode cX6_nextOf 20 = .ok (.iadd, 1) := by decide +kernel
theorem dX6_nextOf_21 : decode cX6_nextOf 21 = .ok (.istore 5, 2) := by decide +kernel
theorem dX6_nextOf_23 : decode cX6_nextOf 23 = .ok (.iload_n 2, 1) := by decide +kernel
theorem dX6_nextOf_24 : decode cX6_nextOf 24 = .ok (.iload 4, 2) := by decide +kernel
theorem dX6_nextOf_26 : decode cX6_nextOf 26 = .ok (.ishr, 1) := by decide +kernel
theorem dX6_nextOf_27 : decode cX6_nextOf 27 = .ok (.iconst 1, 1) := by decide +kernel
theorem dX6_nextOf_28 : decode cX6_nextOf 28 = .ok (.iand, 1) := by decide +kernel
theorem dX6_nextOf_29 : decode cX6_nextOf 29 = .ok (.ifCond .eq 36, 3) := by decide +kernel
theorem dX6_nextOf_32 : decode cX6_nextOf 32 = .ok (.iload 5, 2) := by decide +kernel
theorem dX6_nextOf_34 : decode cX6_nextOf 34 = .ok (.aload_n 0, 1) := by decide +kernel
theorem dX6_nextOf_35 : decode cX6_nextOf 35 = .ok (.getfield 9, 3) := by decide +kernel
theorem dX6_nextOf_38 : decode cX6_nextOf 38 = .ok (.iload 4, 2) := by decide +kernel
theorem dX6_nextOf_40 : decode cX6_nextOf 40 = .ok (.iaload, 1) := by decide +kernel
theorem dX6_nextOf_41 : decode cX6_nextOf 41 = .ok (.if_icmp .gt 24, 3) := by decide +kernel
theorem dX6_nextOf_44 : decode cX6_nextOf 44 = .ok (.aload_n 0, 1) := by decide +kernel
theorem dX6_nextOf_45 : decode cX6_nextOf 45 = .ok (.aload_n 1, 1) := by decide +kernel
theorem dX6_nextOf_46 : decode cX6_nextOf 46 = .ok (.iload_n 2, 1) := by decide +kernel
theorem dX6_nextOf_47 : decode cX6_nextOf 47 = .ok (.iconst 1, 1) := by decide +kernel
theorem dX6_nextOf_48 : decode cX6_nextOf 48 = .ok (.iload 4, 2) := by decide +kernel
theorem dX6_nextOf_50 : decode cX6_nextOf 50 = .ok (.ishl, 1) := by decide +kernel
theorem dX6_nextOf_51 : decode cX6_nextOf 51 = .ok (.iconst (-1), 1) := by decide +kernel
theorem dX6_nextOf_52 : decode cX6_nextOf 52 = .ok (.ixor, 1) := by decide +kernel
theorem dX6_nextOf_53 : decode cX6_nextOf 53 = .ok (.iand, 1) := by decide +kernel
theorem dX6_nextOf_54 : decode cX6_nextOf 54 = .ok (.iload 5, 2) := by decide +kernel
theorem dX6_nextOf_56 : decode cX6_nextOf 56 = .ok (.invokevirtual 25, 3) := by decide +kernel
theorem dX6_nextOf_59 : decode cX6_nextOf 59 = .ok (.ifCond .eq 6, 3) := by decide +kernel
theorem dX6_nextOf_62 : decode cX6_nextOf 62 = .ok (.iload 4, 2) := by decide +kernel
theorem dX6_nextOf_64 : decode cX6_nextOf 64 = .ok (.ireturn, 1) := by decide +kernel
theorem dX6_nextOf_65 : decode cX6_nextOf 65 = .ok (.iinc 4 1, 3) := by decide +kernel
theorem dX6_nextOf_68 : decode cX6_nextOf 68 = .ok (.goto (-65), 3) := by decide +kernel
theorem dX6_nextOf_71 : decode cX6_nextOf 71 = .ok (.iconst (-1), 1) := by decide +kernel
theorem dX6_nextOf_72 : decode cX6_nextOf 72 = .ok (.ireturn, 1) := by decide +kernel
theorem dX7_init_0 : decode cX7_init 0 = .ok (.aload_n 0, 1) := by decide +kernel
theorem dX7_init_1 : decode cX7_init 1 = .ok (.invokespecial 3, 3) := by decide +kernel
theorem dX7_init_4 : decode cX7_init 4 = .ok (.aload_n 0, 1) := by decide +kernel
theorem dX7_init_5 : decode cX7_init 5 = .ok (.sipush 900, 3) := by decide +kernel
theorem dX7_init_8 : decode cX7_init 8 = .ok (.newarray .byte, 2) := by decide +kernel
theorem dX7_init_10 : decode cX7_init 10 = .ok (.putfield 9, 3) := by decide +kernel
theorem dX7_init_13 : decode cX7_init 13 = .ok (.aload_n 0, 1) := by decide +kernel
theorem dX7_init_14 : decode cX7_init 14 = .ok (.iconst (-1), 1) := by decide +kernel
theorem dX7_init_15 : decode cX7_init 15 = .ok (.putfield 15, 3) := by decide +kernel
theorem dX7_init_18 : decode cX7_init 18 = .ok (.aload_n 0, 1) := by decide +kernel
theorem dX7_init_19 : decode cX7_init 19 = .ok (.new 19, 3) := by decide +kernel
theorem dX7_init_22 : decode cX7_init 22 = .ok (.dup, 1) := by decide +kernel
theorem dX7_init_23 : decode cX7_init 23 = .ok (.invokespecial 21, 3) := by decide +kernel
theorem dX7_init_26 : decode cX7_init 26 = .ok (.putfield 22, 3) := by decide +kernel
theorem dX7_init_29 : decode cX7_init 29 = .ok (.aload_n 0, 1) := by decide +kernel
theorem dX7_init_30 : decode cX7_init 30 = .ok (.new 26, 3) := by decide +kernel
theorem dX7_init_33 : decode cX7_init 33 = .ok (.dup, 1) := by decide +kernel
theorem dX7_init_34 : decode cX7_init 34 = .ok (.invokespecial 28, 3) := by decide +kernel
theorem dX7_init_37 : decode cX7_init 37 = .ok (.putfield 29, 3) := by decide +kernel
theorem dX7_init_40 : decode cX7_init 40 = .ok (.return_, 1) := by decide +kernel
theorem dX7_reads_0 : decode cX7_reads 0 = .ok (.aload_n 0, 1) := by decide +kernel
theorem dX7_reads_1 : decode cX7_reads 1 = .ok (.iconst 0, 1) := by decide +kernel
theorem dX7_reads_2 : decode cX7_reads 2 = .ok (.iload_n 1, 1) := by decide +kernel
theorem dX7_reads_3 : decode cX7_reads 3 = .ok (.aload_n 0, 1) := by decide +kernel
theorem dX7_reads_4 : decode cX7_reads 4 = .ok (.getfield 9, 3) := by decide +kernel
theorem dX7_reads_7 : decode cX7_reads 7 = .ok (.arraylength, 1) := by decide +kernel
theorem dX7_reads_8 : decode cX7_reads 8 = .ok (.invokestatic 33, 3) := by decide +kernel
theorem dX7_reads_11 : decode cX7_reads 11 = .ok (.invokestatic 39, 3) := by decide +kernel
theorem dX7_reads_14 : decode cX7_reads 14 = .ok (.putfield 42, 3) := by decide +kernel
theorem dX7_reads_17 : decode cX7_reads 17 = .ok (.aload_n 0, 1) := by decide +kernel
theorem dX7_reads_18 : decode cX7_reads 18 = .ok (.iconst 0, 1) := by decide +kernel
theorem dX7_reads_19 : decode cX7_reads 19 = .ok (.putfield 45, 3) := by decide +kernel
theorem dX7_reads_22 : decode cX7_reads 22 = .ok (.aload_n 0, 1) := by decide +kernel
theorem dX7_reads_23 : decode cX7_reads 23 = .ok (.iconst 0, 1) := by decide +kernel
theorem dX7_reads_24 : decode cX7_reads 24 = .ok (.putfield 48, 3) := by decide +kernel
theorem dX7_reads_27 : decode cX7_reads 27 = .ok (.aload_n 0, 1) := by decide +kernel
theorem dX7_reads_28 : decode cX7_reads 28 = .ok (.iconst (-1), 1) := by decide +kernel
theorem dX7_reads_29 : decode cX7_reads 29 = .ok (.putfield 15, 3) := by decide +kernel
theorem dX7_reads_32 : decode cX7_reads 32 = .ok (.aload_n 0, 1) := by decide +kernel
theorem dX7_reads_33 : decode cX7_reads 33 = .ok (.iconst 0, 1) := by decide +kernel
theorem dX7_reads_34 : decode cX7_reads 34 = .ok (.putfield 51, 3) := by decide +kernel
theorem dX7_reads_37 : decode cX7_reads 37 = .ok (.aload_n 0, 1) := by decide +kernel
theorem dX7_reads_38 : decode cX7_reads 38 = .ok (.getfield 22, 3) := by decide +kernel
theorem dX7_reads_41 : decode cX7_reads 41 = .ok (.invokevirtual 54, 3) := by decide +kernel
theorem dX7_reads_44 : decode cX7_reads 44 = .ok (.aload_n 0, 1) := by decide +kernel
theorem dX7_reads_45 : decode cX7_reads 45 = .ok (.getfield 29, 3) := by decide +kernel
theorem dX7_reads_48 : decode cX7_reads 48 = .ok (.invokevirtual 57, 3) := by decide +kernel
theorem dX7_reads_51 : decode cX7_reads 51 = .ok (.aload_n 0, 1) := by decide +kernel
theorem dX7_reads_52 : decode cX7_reads 52 = .ok (.invokevirtual 58, 3) := by decide +kernel
theorem dX7_reads_55 : decode cX7_reads 55 = .ok (.aload_n 0, 1) := by decide +kernel
theorem dX7_reads_56 : decode cX7_reads 56 = .ok (.invokevirtual 61, 3) := by decide +kernel
theorem dX7_reads_59 : decode cX7_reads 59 = .ok (.iconst 0, 1) := by decide +kernel
theorem dX7_reads_60 : decode cX7_reads 60 = .ok (.istore_n 2, 1) := by decide +kernel
theorem dX7_reads_61 : decode cX7_reads 61 = .ok (.iload_n 2, 1) := by decide +kernel
theorem dX7_reads_62 : decode cX7_reads 62 = .ok (.sipush 900, 3) := by decide +kernel
theorem dX7_reads_65 : decode cX7_reads 65 = .ok (.if_icmp .ge 46, 3) := by decide +kernel
theorem dX7_reads_68 : decode cX7_reads 68 = .ok (.aload_n 0, 1) := by decide +kernel
theorem dX7_reads_69 : decode cX7_reads 69 = .ok (.getfield 48, 3) := by decide +kernel
theorem dX7_reads_72 : decode cX7_reads 72 = .ok (.ifCond .ne 39, 3) := by decide +kernel
theorem dX7_reads_75 : decode cX7_reads 75 = .ok (.aload_n 0, 1) := by decide +kernel
theorem dX7_reads_76 : decode cX7_reads 76 = .ok (.getfield 64, 3) := by decide +kernel
theorem dX7_reads_79 : decode cX7_reads 79 = .ok (.ifCond .eq 32, 3) := by decide +kernel
theorem dX7_reads_82 : decode cX7_reads 82 = .ok (.aload_n 0, 1) := by decide +kernel
theorem dX7_reads_83 : decode cX7_reads 83 = .ok (.invokevirtual 67, 3) := by decide +kernel
theorem dX7_reads_86 : decode cX7_reads 86 = .ok (.aload_n 0, 1) := by decide +kernel
theorem dX7_reads_87 : decode cX7_reads 87 = .ok (.bipush 59, 2) := by decide +kernel
theorem dX7_reads_89 : decode cX7_reads 89 = .ok (.invokevirtual 70, 3) := by decide +kernel
theorem dX7_reads_92 : decode cX7_reads 92 = .ok (.aload_n 0, 1) := by decide +kernel
theorem dX7_reads_93 : decode cX7_reads 93 = .ok (.getfield 22, 3) := by decide +kernel
theorem dX7_reads_96 : decode cX7_reads 96 = .ok (.dup, 1) := by decide +kernel
theorem dX7_reads_97 : decode cX7_reads 97 = .ok (.getfield 74, 3) := by decide +kernel
theorem dX7_reads_100 : decode cX7_reads 100 = .ok (.iconst 1, 1) := by decide +kernel
theorem dX7_reads_101 : decode cX7_reads 101 = .ok (.iadd, 1) := by decide +kernel
theorem dX7_reads_102 : decode cX7_reads 102 = .ok (.putfield 74, 3) := by decide +kernel
theorem dX7_reads_105 : decode cX7_reads 105 = .ok (.iinc 2 1, 3) := by decide +kernel
theorem dX7_reads_108 : decode cX7_reads 108 = .ok (.goto (-47), 3) := by decide +kernel
theorem dX7_reads_111 : decode cX7_reads 111 = .ok (.aload_n 0, 1) := by decide +kernel
theorem dX7_reads_112 : decode cX7_reads 112 = .ok (.getfield 48, 3) := by decide +kernel
theorem dX7_reads_115 : decode cX7_reads 115 = .ok (.ifCond .ne 7, 3) := by decide +kernel
theorem dX7_reads_118 : decode cX7_reads 118 = .ok (.iconst 1, 1) := by decide +kernel
theorem dX7_reads_119 : decode cX7_reads 119 = .ok (.goto 4, 3) := by decide +kernel
theorem dX7_reads_122 : decode cX7_reads 122 = .ok (.iconst 0, 1) := by decide +kernel
theorem dX7_reads_123 : decode cX7_reads 123 = .ok (.ireturn, 1) := by decide +kernel
theorem dX7_step_0 : decode cX7_step 0 = .ok (.aload_n 0, 1) := by decide +kernel
theorem dX7_step_1 : decode cX7_step 1 = .ok (.aload_n 0, 1) := by decide +kernel
theorem dX7_step_2 : decode cX7_step 2 = .ok (.getfield 45, 3) := by decide +kernel
theorem dX7_step_5 : decode cX7_step 5 = .ok (.putfield 77, 3) := by decide +kernel
theorem dX7_step_8 : decode cX7_step 8 = .ok (.aload_n 0, 1) := by decide +kernel
theorem dX7_step_9 : decode cX7_step 9 = .ok (.getfield 77, 3) := by decide +kernel
theorem dX7_step_12 : decode cX7_step 12 = .ok (.aload_n 0, 1) := by decide +kernel
theorem dX7_step_13 : decode cX7_step 13 = .ok (.getfield 42, 3) := by decide +kernel
theorem dX7_step_16 : decode cX7_step 16 = .ok (.if_icmp .ge 44, 3) := by decide +kernel
theorem dX7_step_19 : decode cX7_step 19 = .ok (.aload_n 0, 1) := by decide +kernel
theorem dX7_step_20 : decode cX7_step 20 = .ok (.getfield 9, 3) := by decide +kernel
theorem dX7_step_23 : decode cX7_step 23 = .ok (.aload_n 0, 1) := by decide +kernel
theorem dX7_step_24 : decode cX7_step 24 = .ok (.getfield 77, 3) := by decide +kernel
theorem dX7_step_27 : decode cX7_step 27 = .ok (.baload, 1) := by decide +kernel
theorem dX7_step_28 : decode cX7_step 28 = .ok (.bipush 10, 2) := by decide +kernel
theorem dX7_step_30 : decode cX7_step 30 = .ok (.if_icmp .eq 17, 3) := by decide +kernel
theorem dX7_step_33 : decode cX7_step 33 = .ok (.aload_n 0, 1) := by decide +kernel
theorem dX7_step_34 : decode cX7_step 34 = .ok (.getfield 9, 3) := by decide +kernel
theorem dX7_step_37 : decode cX7_step 37 = .ok (.aload_n 0, 1) := by decide +kernel
theorem dX7_step_38 : decode cX7_step 38 = .ok (.getfield 77, 3) := by decide +kernel
theorem dX7_step_41 : decode cX7_step 41 = .ok (.baload, 1) := by decide +kernel
theorem dX7_step_42 : decode cX7_step 42 = .ok (.bipush 32, 2) := by decide +kernel
theorem dX7_step_44 : decode cX7_step 44 = .ok (.if_icmp .ne 16, 3) := by decide +kernel
theorem dX7_step_47 : decode cX7_step 47 = .ok (.aload_n 0, 1) := by decide +kernel
theorem dX7_step_48 : decode cX7_step 48 = .ok (.dup, 1) := by decide +kernel
theorem dX7_step_49 : decode cX7_step 49 = .ok (.getfield 77, 3) := by decide +kernel
theorem dX7_step_52 : decode cX7_step 52 = .ok (.iconst 1, 1) := by decide +kernel
theorem dX7_step_53 : decode cX7_step 53 = .ok (.iadd, 1) := by decide +kernel
theorem dX7_step_54 : decode cX7_step 54 = .ok (.putfield 77, 3) := by decide +kernel
theorem dX7_step_57 : decode cX7_step 57 = .ok (.goto (-49), 3) := by decide +kernel
theorem dX7_step_60 : decode cX7_step 60 = .ok (.aload_n 0, 1) := by decide +kernel
theorem dX7_step_61 : decode cX7_step 61 = .ok (.aload_n 0, 1) := by decide +kernel
theorem dX7_step_62 : decode cX7_step 62 = .ok (.getfield 77, 3) := by decide +kernel
theorem dX7_step_65 : decode cX7_step 65 = .ok (.putfield 45, 3) := by decide +kernel
theorem dX7_step_68 : decode cX7_step 68 = .ok (.aload_n 0, 1) := by decide +kernel
theorem dX7_step_69 : decode cX7_step 69 = .ok (.getfield 77, 3) := by decide +kernel
theorem dX7_step_72 : decode cX7_step 72 = .ok (.aload_n 0, 1) := by decide +kernel
theorem dX7_step_73 : decode cX7_step 73 = .ok (.getfield 42, 3) := by decide +kernel
theorem dX7_step_76 : decode cX7_step 76 = .ok (.if_icmp .lt 11, 3) := by decide +kernel
theorem dX7_step_79 : decode cX7_step 79 = .ok (.aload_n 0, 1) := by decide +kernel
theorem dX7_step_80 : decode cX7_step 80 = .ok (.iconst 0, 1) := by decide +kernel
theorem dX7_step_81 : decode cX7_step 81 = .ok (.putfield 64, 3) := by decide +kernel
theorem dX7_step_84 : decode cX7_step 84 = .ok (.goto 149, 3) := by decide +kernel
theorem dX7_step_87 : decode cX7_step 87 = .ok (.aload_n 0, 1) := by decide +kernel
theorem dX7_step_88 : decode cX7_step 88 = .ok (.getfield 9, 3) := by decide +kernel
theorem dX7_step_91 : decode cX7_step 91 = .ok (.aload_n 0, 1) := by decide +kernel
theorem dX7_step_92 : decode cX7_step 92 = .ok (.getfield 77, 3) := by decide +kernel
theorem dX7_step_95 : decode cX7_step 95 = .ok (.baload, 1) := by decide +kernel
theorem dX7_step_96 : decode cX7_step 96 = .ok (.bipush 97, 2) := by decide +kernel
theorem dX7_step_98 : decode cX7_step 98 = .ok (.if_icmp .lt 33, 3) := by decide +kernel
theorem dX7_step_101 : decode cX7_step 101 = .ok (.aload_n 0, 1) := by decide +kernel
theorem dX7_step_102 : decode cX7_step 102 = .ok (.getfield 9, 3) := by decide +kernel
theorem dX7_step_105 : decode cX7_step 105 = .ok (.aload_n 0, 1) := by decide +kernel
theorem dX7_step_106 : decode cX7_step 106 = .ok (.getfield 77, 3) := by decide +kernel
theorem dX7_step_109 : decode cX7_step 109 = .ok (.baload, 1) := by decide +kernel
theorem dX7_step_110 : decode cX7_step 110 = .ok (.bipush 122, 2) := by decide +kernel
theorem dX7_step_112 : decode cX7_step 112 = .ok (.if_icmp .gt 19, 3) := by decide +kernel
theorem dX7_step_115 : decode cX7_step 115 = .ok (.aload_n 0, 1) := by decide +kernel
theorem dX7_step_116 : decode cX7_step 116 = .ok (.bipush 97, 2) := by decide +kernel
theorem dX7_step_118 : decode cX7_step 118 = .ok (.bipush 122, 2) := by decide +kernel
theorem dX7_step_120 : decode cX7_step 120 = .ok (.invokevirtual 80, 3) := by decide +kernel
theorem dX7_step_123 : decode cX7_step 123 = .ok (.aload_n 0, 1) := by decide +kernel
theorem dX7_step_124 : decode cX7_step 124 = .ok (.iconst 2, 1) := by decide +kernel
theorem dX7_step_125 : decode cX7_step 125 = .ok (.putfield 64, 3) := by decide +kernel
theorem dX7_step_128 : decode cX7_step 128 = .ok (.goto 105, 3) := by decide +kernel
theorem dX7_step_131 : decode cX7_step 131 = .ok (.aload_n 0, 1) := by decide +kernel
theorem dX7_step_132 : decode cX7_step 132 = .ok (.getfield 9, 3) := by decide +kernel
theorem dX7_step_135 : decode cX7_step 135 = .ok (.aload_n 0, 1) := by decide +kernel
theorem dX7_step_136 : decode cX7_step 136 = .ok (.getfield 77, 3) := by decide +kernel
theorem dX7_step_139 : decode cX7_step 139 = .ok (.baload, 1) := by decide +kernel
theorem dX7_step_140 : decode cX7_step 140 = .ok (.bipush 48, 2) := by decide +kernel
theorem dX7_step_142 : decode cX7_step 142 = .ok (.if_icmp .lt 50, 3) := by decide +kernel
theorem dX7_step_145 : decode cX7_step 145 = .ok (.aload_n 0, 1) := by decide +kernel
theorem dX7_step_146 : decode cX7_step 146 = .ok (.getfield 9, 3) := by decide +kernel
theorem dX7_step_149 : decode cX7_step 149 = .ok (.aload_n 0, 1) := by decide +kernel
theorem dX7_step_150 : decode cX7_step 150 = .ok (.getfield 77, 3) := by decide +kernel
theorem dX7_step_153 : decode cX7_step 153 = .ok (.baload, 1) := by decide +kernel
theorem dX7_step_154 : decode cX7_step 154 = .ok (.bipush 57, 2) := by decide +kernel
theorem dX7_step_156 : decode cX7_step 156 = .ok (.if_icmp .gt 36, 3) := by decide +kernel
theorem dX7_step_159 : decode cX7_step 159 = .ok (.aload_n 0, 1) := by decide +kernel
theorem dX7_step_160 : decode cX7_step 160 = .ok (.bipush 48, 2) := by decide +kernel
theorem dX7_step_162 : decode cX7_step 162 = .ok (.bipush 57, 2) := by decide +kernel
theorem dX7_step_164 : decode cX7_step 164 = .ok (.invokevirtual 80, 3) := by decide +kernel
theorem dX7_step_167 : decode cX7_step 167 = .ok (.aload_n 0, 1) := by decide +kernel
theorem dX7_step_168 : decode cX7_step 168 = .ok (.aload_n 0, 1) := by decide +kernel
theorem dX7_step_169 : decode cX7_step 169 = .ok (.getfield 45, 3) := by decide +kernel
theorem dX7_step_172 : decode cX7_step 172 = .ok (.aload_n 0, 1) := by decide +kernel
theorem dX7_step_173 : decode cX7_step 173 = .ok (.getfield 77, 3) := by decide +kernel
theorem dX7_step_176 : decode cX7_step 176 = .ok (.isub, 1) := by decide +kernel
theorem dX7_step_177 : decode cX7_step 177 = .ok (.iconst 3, 1) := by decide +kernel
theorem dX7_step_178 : decode cX7_step 178 = .ok (.if_icmp .gt 7, 3) := by decide +kernel
theorem dX7_step_181 : decode cX7_step 181 = .ok (.iconst 3, 1) := by decide +kernel
theorem dX7_step_182 : decode cX7_step 182 = .ok (.goto 4, 3) := by decide +kernel
theorem dX7_step_185 : decode cX7_step 185 = .ok (.iconst 1, 1) := by decide +kernel
theorem dX7_step_186 : decode cX7_step 186 = .ok (.putfield 64, 3) := by decide +kernel
theorem dX7_step_189 : decode cX7_step 189 = .ok (.goto 44, 3) := by decide +kernel
theorem dX7_step_192 : decode cX7_step 192 = .ok (.aload_n 0, 1) := by decide +kernel
theorem dX7_step_193 : decode cX7_step 193 = .ok (.dup, 1) := by decide +kernel
theorem dX7_step_194 : decode cX7_step 194 = .ok (.getfield 45, 3) := by decide +kernel
theorem dX7_step_197 : decode cX7_step 197 = .ok (.iconst 1, 1) := by decide +kernel
theorem dX7_step_198 : decode cX7_step 198 = .ok (.iadd, 1) := by decide +kernel
theorem dX7_step_199 : decode cX7_step 199 = .ok (.putfield 45, 3) := by decide +kernel
theorem dX7_step_202 : decode cX7_step 202 = .ok (.aload_n 0, 1) := by decide +kernel
theorem dX7_step_203 : decode cX7_step 203 = .ok (.ldc 84, 2) := by decide +kernel
theorem dX7_step_205 : decode cX7_step 205 = .ok (.aload_n 0, 1) := by decide +kernel
theorem dX7_step_206 : decode cX7_step 206 = .ok (.getfield 9, 3) := by decide +kernel
theorem dX7_step_209 : decode cX7_step 209 = .ok (.aload_n 0, 1) := by decide +kernel
theorem dX7_step_210 : decode cX7_step 210 = .ok (.getfield 77, 3) := by decide +kernel
theorem dX7_step_213 : decode cX7_step 213 = .ok (.baload, 1) := by decide +kernel
theorem dX7_step_214 : decode cX7_step 214 = .ok (.sipush 255, 3) := by decide +kernel
theorem dX7_step_217 : decode cX7_step 217 = .ok (.iand, 1) := by decide +kernel
theorem dX7_step_218 : decode cX7_step 218 = .ok (.i2c, 1) := by decide +kernel
theorem dX7_step_219 : decode cX7_step 219 = .ok (.invokevirtual 86, 3) := by decide +kernel
theorem dX7_step_222 : decode cX7_step 222 = .ok (.ifCond .lt 7, 3) := by decide +kernel
theorem dX7_step_225 : decode cX7_step 225 = .ok (.iconst 4, 1) := by decide +kernel
theorem dX7_step_226 : decode cX7_step 226 = .ok (.goto 4, 3) := by decide +kernel
theorem dX7_step_229 : decode cX7_step 229 = .ok (.iconst 1, 1) := by decide +kernel
theorem dX7_step_230 : decode cX7_step 230 = .ok (.putfield 64, 3) := by decide +kernel
theorem dX7_step_233 : decode cX7_step 233 = .ok (.return_, 1) := by decide +kernel
theorem dX7_pass_0 : decode cX7_pass 0 = .ok (.aload_n 0, 1) := by decide +kernel
theorem dX7_pass_1 : decode cX7_pass 1 = .ok (.getfield 45, 3) := by decide +kernel
theorem dX7_pass_4 : decode cX7_pass 4 = .ok (.aload_n 0, 1) := by decide +kernel
theorem dX7_pass_5 : decode cX7_pass 5 = .ok (.getfield 42, 3) := by decide +kernel
theorem dX7_pass_8 : decode cX7_pass 8 = .ok (.if_icmp .ge 42, 3) := by decide +kernel
theorem dX7_pass_11 : decode cX7_pass 11 = .ok (.aload_n 0, 1) := by decide +kernel
theorem dX7_pass_12 : decode cX7_pass 12 = .ok (.getfield 9, 3) := by decide +kernel
theorem dX7_pass_15 : decode cX7_pass 15 = .ok (.aload_n 0, 1) := by decide +kernel
theorem dX7_pass_16 : decode cX7_pass 16 = .ok (.getfield 45, 3) := by decide +kernel
theorem dX7_pass_19 : decode cX7_pass 19 = .ok (.baload, 1) := by decide +kernel
theorem dX7_pass_20 : decode cX7_pass 20 = .ok (.iload_n 1, 1) := by decide +kernel
theorem dX7_pass_21 : decode cX7_pass 21 = .ok (.if_icmp .lt 29, 3) := by decide +kernel
theorem dX7_pass_24 : decode cX7_pass 24 = .ok (.aload_n 0, 1) := by decide +kernel
theorem dX7_pass_25 : decode cX7_pass 25 = .ok (.getfield 9, 3) := by decide +kernel
theorem dX7_pass_28 : decode cX7_pass 28 = .ok (.aload_n 0, 1) := by decide +kernel
theorem dX7_pass_29 : decode cX7_pass 29 = .ok (.getfield 45, 3) := by decide +kernel
theorem dX7_pass_32 : decode cX7_pass 32 = .ok (.baload, 1) := by decide +kernel
theorem dX7_pass_33 : decode cX7_pass 33 = .ok (.iload_n 2, 1) := by decide +kernel
theorem dX7_pass_34 : decode cX7_pass 34 = .ok (.if_icmp .gt 16, 3) := by decide +kernel
theorem dX7_pass_37 : decode cX7_pass 37 = .ok (.aload_n 0, 1) := by decide +kernel
theorem dX7_pass_38 : decode cX7_pass 38 = .ok (.dup, 1) := by decide +kernel
theorem dX7_pass_39 : decode cX7_pass 39 = .ok (.getfield 45, 3) := by decide +kernel
theorem dX7_pass_42 : decode cX7_pass 42 = .ok (.iconst 1, 1) := by decide +kernel
theorem dX7_pass_43 : decode cX7_pass 43 = .ok (.iadd, 1) := by decide +kernel
theorem dX7_pass_44 : decode cX7_pass 44 = .ok (.putfield 45, 3) := by decide +kernel
theorem dX7_pass_47 : decode cX7_pass 47 = .ok (.goto (-47), 3) := by decide +kernel
theorem dX7_pass_50 : decode cX7_pass 50 = .ok (.return_, 1) := by decide +kernel
theorem dX7_numberHere_0 : decode cX7_numberHere 0 = .ok (.iconst 0, 1) := by decide +kernel
theorem dX7_numberHere_1 : decode cX7_numberHere 1 = .ok (.istore_n 1, 1) := by decide +kernel
theorem dX7_numberHere_2 : decode cX7_numberHere 2 = .ok (.aload_n 0, 1) := by decide +kernel
theorem dX7_numberHere_3 : decode cX7_numberHere 3 = .ok (.getfield 77, 3) := by decide +kernel
theorem dX7_numberHere_6 : decode cX7_numberHere 6 = .ok (.istore_n 2, 1) := by decide +kernel
theorem dX7_numberHere_7 : decode cX7_numberHere 7 = .ok (.iload_n 2, 1) := by decide +kernel
theorem dX7_numberHere_8 : decode cX7_numberHere 8 = .ok (.aload_n 0, 1) := by decide +kernel
theorem dX7_numberHere_9 : decode cX7_numberHere 9 = .ok (.getfield 45, 3) := by decide +kernel
theorem dX7_numberHere_12 : decode cX7_numberHere 12 = .ok (.if_icmp .ge 32, 3) := by decide +kernel
theorem dX7_numberHere_15 : decode cX7_numberHere 15 = .ok (.iload_n 2, 1) := by decide +kernel
theorem dX7_numberHere_16 : decode cX7_numberHere 16 = .ok (.aload_n 0, 1) := by decide +kernel
theorem dX7_numberHere_17 : decode cX7_numberHere 17 = .ok (.getfield 42, 3) := by decide +kernel
theorem dX7_numberHere_20 : decode cX7_numberHere 20 = .ok (.if_icmp .ge 24, 3) := by decide +kernel
theorem dX7_numberHere_23 : decode cX7_numberHere 23 = .ok (.iload_n 1, 1) := by decide +kernel
theorem dX7_numberHere_24 : decode cX7_numberHere 24 = .ok (.bipush 10, 2) := by decide +kernel
theorem dX7_numberHere_26 : decode cX7_numberHere 26 = .ok (.imul, 1) := by decide +kernel
theorem dX7_numberHere_27 : decode cX7_numberHere 27 = .ok (.aload_n 0, 1) := by decide +kernel
theorem dX7_numberHere_28 : decode cX7_numberHere 28 = .ok (.getfield 9, 3) := by decide +kernel
theorem dX7_numberHere_31 : decode cX7_numberHere 31 = .ok (.iload_n 2, 1) := by decide +kernel
theorem dX7_numberHere_32 : decode cX7_numberHere 32 = .ok (.baload, 1) := by decide +kernel
theorem dX7_numberHere_33 : decode cX7_numberHere 33 = .ok (.iadd, 1) := by decide +kernel
theorem dX7_numberHere_34 : decode cX7_numberHere 34 = .ok (.bipush 48, 2) := by decide +kernel
theorem dX7_numberHere_36 : decode cX7_numberHere 36 = .ok (.isub, 1) := by decide +kernel
theorem dX7_numberHere_37 : decode cX7_numberHere 37 = .ok (.istore_n 1, 1) := by decide +kernel
theorem dX7_numberHere_38 : decode cX7_numberHere 38 = .ok (.iinc 2 1, 3) := by decide +kernel
theorem dX7_numberHere_41 : decode cX7_numberHere 41 = .ok (.goto (-34), 3) := by decide +kernel
theorem dX7_numberHere_44 : decode cX7_numberHere 44 = .ok (.iload_n 1, 1) := by decide +kernel
theorem dX7_numberHere_45 : decode cX7_numberHere 45 = .ok (.ireturn, 1) := by decide +kernel
theorem dX7_fail_0 : decode cX7_fail 0 = .ok (.aload_n 0, 1) := by decide +kernel
theorem dX7_fail_1 : decode cX7_fail 1 = .ok (.getfield 48, 3) := by decide +kernel
theorem dX7_fail_4 : decode cX7_fail 4 = .ok (.ifCond .ne 28, 3) := by decide +kernel
theorem dX7_fail_7 : decode cX7_fail 7 = .ok (.aload_n 0, 1) := by decide +kernel
theorem dX7_fail_8 : decode cX7_fail 8 = .ok (.aload_n 0, 1) := by decide +kernel
theorem dX7_fail_9 : decode cX7_fail 9 = .ok (.getfield 64, 3) := by decide +kernel
theorem dX7_fail_12 : decode cX7_fail 12 = .ok (.iconst 1, 1) := by decide +kernel
theorem dX7_fail_13 : decode cX7_fail 13 = .ok (.if_icmp .ne 7, 3) := by decide +kernel
theorem dX7_fail_16 : decode cX7_fail 16 = .ok (.iconst 1, 1) := by decide +kernel
theorem dX7_fail_17 : decode cX7_fail 17 = .ok (.goto 4, 3) := by decide +kernel
theorem dX7_fail_20 : decode cX7_fail 20 = .ok (.iload_n 1, 1) := by decide +kernel
theorem dX7_fail_21 : decode cX7_fail 21 = .ok (.putfield 48, 3) := by decide +kernel
theorem dX7_fail_24 : decode cX7_fail 24 = .ok (.aload_n 0, 1) := by decide +kernel
theorem dX7_fail_25 : decode cX7_fail 25 = .ok (.aload_n 0, 1) := by decide +kernel
theorem dX7_fail_26 : decode cX7_fail 26 = .ok (.getfield 77, 3) := by decide +kernel
theorem dX7_fail_29 : decode cX7_fail 29 = .ok (.putfield 15, 3) := by decide +kernel
theorem dX7_fail_32 : decode cX7_fail 32 = .ok (.return_, 1) := by decide +kernel
theorem dX7_atWord_0 : decode cX7_atWord 0 = .ok (.aload_n 0, 1) := by decide +kernel
theorem dX7_atWord_1 : decode cX7_atWord 1 = .ok (.getfield 64, 3) := by decide +kernel
theorem dX7_atWord_4 : decode cX7_atWord 4 = .ok (.iconst 2, 1) := by decide +kernel
theorem dX7_atWord_5 : decode cX7_atWord 5 = .ok (.if_icmp .ne 19, 3) := by decide +kernel
theorem dX7_atWord_8 : decode cX7_atWord 8 = .ok (.aload_n 0, 1) := by decide +kernel
theorem dX7_atWord_9 : decode cX7_atWord 9 = .ok (.getfield 45, 3) := by decide +kernel
theorem dX7_atWord_12 : decode cX7_atWord 12 = .ok (.aload_n 0, 1) := by decide +kernel
theorem dX7_atWord_13 : decode cX7_atWord 13 = .ok (.getfield 77, 3) := by decide +kernel
theorem dX7_atWord_16 : decode cX7_atWord 16 = .ok (.isub, 1) := by decide +kernel
theorem dX7_atWord_17 : decode cX7_atWord 17 = .ok (.aload_n 1, 1) := by decide +kernel
theorem dX7_atWord_18 : decode cX7_atWord 18 = .ok (.invokevirtual 92, 3) := by decide +kernel
theorem dX7_atWord_21 : decode cX7_atWord 21 = .ok (.if_icmp .eq 5, 3) := by decide +kernel
theorem dX7_atWord_24 : decode cX7_atWord 24 = .ok (.iconst 0, 1) := by decide +kernel
theorem dX7_atWord_25 : decode cX7_atWord 25 = .ok (.ireturn, 1) := by decide +kernel
theorem dX7_atWord_26 : decode cX7_atWord 26 = .ok (.iconst 0, 1) := by decide +kernel
theorem dX7_atWord_27 : decode cX7_atWord 27 = .ok (.istore_n 2, 1) := by decide +kernel
theorem dX7_atWord_28 : decode cX7_atWord 28 = .ok (.iload_n 2, 1) := by decide +kernel
theorem dX7_atWord_29 : decode cX7_atWord 29 = .ok (.aload_n 1, 1) := by decide +kernel
theorem dX7_atWord_30 : decode cX7_atWord 30 = .ok (.invokevirtual 92, 3) := by decide +kernel
theorem dX7_atWord_33 : decode cX7_atWord 33 = .ok (.if_icmp .ge 43, 3) := by decide +kernel
theorem dX7_atWord_36 : decode cX7_atWord 36 = .ok (.aload_n 0, 1) := by decide +kernel
theorem dX7_atWord_37 : decode cX7_atWord 37 = .ok (.getfield 77, 3) := by decide +kernel
theorem dX7_atWord_40 : decode cX7_atWord 40 = .ok (.iload_n 2, 1) := by decide +kernel
theorem dX7_atWord_41 : decode cX7_atWord 41 = .ok (.iadd, 1) := by decide +kernel
theorem dX7_atWord_42 : decode cX7_atWord 42 = .ok (.aload_n 0, 1) := by decide +kernel
theorem dX7_atWord_43 : decode cX7_atWord 43 = .ok (.getfield 42, 3) := by decide +kernel
theorem dX7_atWord_46 : decode cX7_atWord 46 = .ok (.if_icmp .ge 30, 3) := by decide +kernel
theorem dX7_atWord_49 : decode cX7_atWord 49 = .ok (.aload_n 0, 1) := by decide +kernel
theorem dX7_atWord_50 : decode cX7_atWord 50 = .ok (.getfield 9, 3) := by decide +kernel
theorem dX7_atWord_53 : decode cX7_atWord 53 = .ok (.aload_n 0, 1) := by decide +kernel
theorem dX7_atWord_54 : decode cX7_atWord 54 = .ok (.getfield 77, 3) := by decide +kernel
theorem dX7_atWord_57 : decode cX7_atWord 57 = .ok (.iload_n 2, 1) := by decide +kernel
theorem dX7_atWord_58 : decode cX7_atWord 58 = .ok (.iadd, 1) := by decide +kernel
theorem dX7_atWord_59 : decode cX7_atWord 59 = .ok (.baload, 1) := by decide +kernel
theorem dX7_atWord_60 : decode cX7_atWord 60 = .ok (.aload_n 1, 1) := by decide +kernel
theorem dX7_atWord_61 : decode cX7_atWord 61 = .ok (.iload_n 2, 1) := by decide +kernel
theorem dX7_atWord_62 : decode cX7_atWord 62 = .ok (.invokevirtual 95, 3) := by decide +kernel
theorem dX7_atWord_65 : decode cX7_atWord 65 = .ok (.if_icmp .eq 5, 3) := by decide +kernel
theorem dX7_atWord_68 : decode cX7_atWord 68 = .ok (.iconst 0, 1) := by decide +kernel
theorem dX7_atWord_69 : decode cX7_atWord 69 = .ok (.ireturn, 1) := by decide +kernel
theorem dX7_atWord_70 : decode cX7_atWord 70 = .ok (.iinc 2 1, 3) := by decide +kernel
theorem dX7_atWord_73 : decode cX7_atWord 73 = .ok (.goto (-45), 3) := by decide +kernel
theorem dX7_atWord_76 : decode cX7_atWord 76 = .ok (.iconst 1, 1) := by decide +kernel
theorem dX7_atWord_77 : decode cX7_atWord 77 = .ok (.ireturn, 1) := by decide +kernel
theorem dX7_atSign_0 : decode cX7_atSign 0 = .ok (.aload_n 0, 1) := by decide +kernel
theorem dX7_atSign_1 : decode cX7_atSign 1 = .ok (.getfield 64, 3) := by decide +kernel
theorem dX7_atSign_4 : decode cX7_atSign 4 = .ok (.iconst 4, 1) := by decide +kernel
theorem dX7_atSign_5 : decode cX7_atSign 5 = .ok (.if_icmp .ne 31, 3) := by decide +kernel
theorem dX7_atSign_8 : decode cX7_atSign 8 = .ok (.aload_n 0, 1) := by decide +kernel
theorem dX7_atSign_9 : decode cX7_atSign 9 = .ok (.getfield 77, 3) := by decide +kernel
theorem dX7_atSign_12 : decode cX7_atSign 12 = .ok (.aload_n 0, 1) := by decide +kernel
theorem dX7_atSign_13 : decode cX7_atSign 13 = .ok (.getfield 42, 3) := by decide +kernel
theorem dX7_atSign_16 : decode cX7_atSign 16 = .ok (.if_icmp .ge 20, 3) := by decide +kernel
theorem dX7_atSign_19 : decode cX7_atSign 19 = .ok (.aload_n 0, 1) := by decide +kernel
theorem dX7_atSign_20 : decode cX7_atSign 20 = .ok (.getfield 9, 3) := by decide +kernel
theorem dX7_atSign_23 : decode cX7_atSign 23 = .ok (.aload_n 0, 1) := by decide +kernel
theorem dX7_atSign_24 : decode cX7_atSign 24 = .ok (.getfield 77, 3) := by decide +kernel
theorem dX7_atSign_27 : decode cX7_atSign 27 = .ok (.baload, 1) := by decide +kernel
theorem dX7_atSign_28 : decode cX7_atSign 28 = .ok (.iload_n 1, 1) := by decide +kernel
theorem dX7_atSign_29 : decode cX7_atSign 29 = .ok (.if_icmp .ne 7, 3) := by decide +kernel
theorem dX7_atSign_32 : decode cX7_atSign 32 = .ok (.iconst 1, 1) := by decide +kernel
theorem dX7_atSign_33 : decode cX7_atSign 33 = .ok (.goto 4, 3) := by decide +kernel
theorem dX7_atSign_36 : decode cX7_atSign 36 = .ok (.iconst 0, 1) := by decide +kernel
theorem dX7_atSign_37 : decode cX7_atSign 37 = .ok (.ireturn, 1) := by decide +kernel
theorem dX7_expectWord_0 : decode cX7_expectWord 0 = .ok (.aload_n 0, 1) := by decide +kernel
theorem dX7_expectWord_1 : decode cX7_expectWord 1 = .ok (.getfield 48, 3) := by decide +kernel
theorem dX7_expectWord_4 : decode cX7_expectWord 4 = .ok (.ifCond .ne 18, 3) := by decide +kernel
theorem dX7_expectWord_7 : decode cX7_expectWord 7 = .ok (.aload_n 0, 1) := by decide +kernel
theorem dX7_expectWord_8 : decode cX7_expectWord 8 = .ok (.aload_n 1, 1) := by decide +kernel
theorem dX7_expectWord_9 : decode cX7_expectWord 9 = .ok (.invokevirtual 99, 3) := by decide +kernel
theorem dX7_expectWord_12 : decode cX7_expectWord 12 = .ok (.ifCond .eq 10, 3) := by decide +kernel
theorem dX7_expectWord_15 : decode cX7_expectWord 15 = .ok (.aload_n 0, 1) := by decide +kernel
theorem dX7_expectWord_16 : decode cX7_expectWord 16 = .ok (.invokevirtual 58, 3) := by decide +kernel
theorem dX7_expectWord_19 : decode cX7_expectWord 19 = .ok (.goto 8, 3) := by decide +kernel
theorem dX7_expectWord_22 : decode cX7_expectWord 22 = .ok (.aload_n 0, 1) := by decide +kernel
theorem dX7_expectWord_23 : decode cX7_expectWord 23 = .ok (.iconst 2, 1) := by decide +kernel
theorem dX7_expectWord_24 : decode cX7_expectWord 24 = .ok (.invokevirtual 103, 3) := by decide +kernel
theorem dX7_expectWord_27 : decode cX7_expectWord 27 = .ok (.return_, 1) := by decide +kernel
theorem dX7_expectSign_0 : decode cX7_expectSign 0 = .ok (.aload_n 0, 1) := by decide +kernel
theorem dX7_expectSign_1 : decode cX7_expectSign 1 = .ok (.getfield 48, 3) := by decide +kernel
theorem dX7_expectSign_4 : decode cX7_expectSign 4 = .ok (.ifCond .ne 18, 3) := by decide +kernel
theorem dX7_expectSign_7 : decode cX7_expectSign 7 = .ok (.aload_n 0, 1) := by decide +kernel
theorem dX7_expectSign_8 : decode cX7_expectSign 8 = .ok (.iload_n 1, 1) := by decide +kernel
theorem dX7_expectSign_9 : decode cX7_expectSign 9 = .ok (.invokevirtual 107, 3) := by decide +kernel
theorem dX7_expectSign_12 : decode cX7_expectSign 12 = .ok (.ifCond .eq 10, 3) := by decide +kernel
theorem dX7_expectSign_15 : decode cX7_expectSign 15 = .ok (.aload_n 0, 1) := by decide +kernel
theorem dX7_expectSign_16 : decode cX7_expectSign 16 = .ok (.invokevirtual 58, 3) := by decide +kernel
theorem dX7_expectSign_19 : decode cX7_expectSign 19 = .ok (.goto 8, 3) := by decide +kernel
theorem dX7_expectSign_22 : decode cX7_expectSign 22 = .ok (.aload_n 0, 1) := by decide +kernel
theorem dX7_expectSign_23 : decode cX7_expectSign 23 = .ok (.iconst 2, 1) := by decide +kernel
theorem dX7_expectSign_24 : decode cX7_expectSign 24 = .ok (.invokevirtual 103, 3) := by decide +kernel
theorem dX7_expectSign_27 : decode cX7_expectSign 27 = .ok (.return_, 1) := by decide +kernel
theorem dX7_expectNumber_0 : decode cX7_expectNumber 0 = .ok (.aload_n 0, 1) := by decide +kernel
theorem dX7_expectNumber_1 : decode cX7_expectNumber 1 = .ok (.getfield 48, 3) := by decide +kernel
theorem dX7_expectNumber_4 : decode cX7_expectNumber 4 = .ok (.ifCond .eq 5, 3) := by decide +kernel
theorem dX7_expectNumber_7 : decode cX7_expectNumber 7 = .ok (.iload_n 1, 1) := by decide +kernel
theorem dX7_expectNumber_8 : decode cX7_expectNumber 8 = .ok (.ireturn, 1) := by decide +kernel
theorem dX7_expectNumber_9 : decode cX7_expectNumber 9 = .ok (.aload_n 0, 1) := by decide +kernel
theorem dX7_expectNumber_10 : decode cX7_expectNumber 10 = .ok (.getfield 64, 3) := by decide +kernel
theorem dX7_expectNumber_13 : decode cX7_expectNumber 13 = .ok (.iconst 3, 1) := by decide +kernel
theorem dX7_expectNumber_14 : decode cX7_expectNumber 14 = .ok (.if_icmp .eq 10, 3) := by decide +kernel
theorem dX7_expectNumber_17 : decode cX7_expectNumber 17 = .ok (.aload_n 0, 1) := by decide +kernel
theorem dX7_expectNumber_18 : decode cX7_expectNumber 18 = .ok (.iconst 2, 1) := by decide +kernel
theorem dX7_expectNumber_19 : decode cX7_expectNumber 19 = .ok (.invokevirtual 103, 3) := by decide +kernel
theorem dX7_expectNumber_22 : decode cX7_expectNumber 22 = .ok (.iload_n 1, 1) := by decide +kernel
theorem dX7_expectNumber_23 : decode cX7_expectNumber 23 = .ok (.ireturn, 1) := by decide +kernel
theorem dX7_expectNumber_24 : decode cX7_expectNumber 24 = .ok (.aload_n 0, 1) := by decide +kernel
theorem dX7_expectNumber_25 : decode cX7_expectNumber 25 = .ok (.invokevirtual 111, 3) := by decide +kernel
theorem dX7_expectNumber_28 : decode cX7_expectNumber 28 = .ok (.istore 4, 2) := by decide +kernel
theorem dX7_expectNumber_30 : decode cX7_expectNumber 30 = .ok (.iload 4, 2) := by decide +kernel
theorem dX7_expectNumber_32 : decode cX7_expectNumber 32 = .ok (.iload_n 1, 1) := by decide +kernel
theorem dX7_expectNumber_33 : decode cX7_expectNumber 33 = .ok (.if_icmp .lt 18, 3) := by decide +kernel
theorem dX7_expectNumber_36 : decode cX7_expectNumber 36 = .ok (.iload 4, 2) := by decide +kernel
theorem dX7_expectNumber_38 : decode cX7_expectNumber 38 = .ok (.iload_n 2, 1) := by decide +kernel
theorem dX7_expectNumber_39 : decode cX7_expectNumber 39 = .ok (.if_icmp .gt 12, 3) := by decide +kernel
theorem dX7_expectNumber_42 : decode cX7_expectNumber 42 = .ok (.iload_n 3, 1) := by decide +kernel
theorem dX7_expectNumber_43 : decode cX7_expectNumber 43 = .ok (.iload 4, 2) := by decide +kernel
theorem dX7_expectNumber_45 : decode cX7_expectNumber 45 = .ok (.ishr, 1) := by decide +kernel
theorem dX7_expectNumber_46 : decode cX7_expectNumber 46 = .ok (.iconst 1, 1) := by decide +kernel
theorem dX7_expectNumber_47 : decode cX7_expectNumber 47 = .ok (.iand, 1) := by decide +kernel
theorem dX7_expectNumber_48 : decode cX7_expectNumber 48 = .ok (.ifCond .eq 10, 3) := by decide +kernel
theorem dX7_expectNumber_51 : decode cX7_expectNumber 51 = .ok (.aload_n 0, 1) := by decide +kernel
theorem dX7_expectNumber_52 : decode cX7_expectNumber 52 = .ok (.iconst 3, 1) := by decide +kernel
theorem dX7_expectNumber_53 : decode cX7_expectNumber 53 = .ok (.invokevirtual 103, 3) := by decide +kernel
theorem dX7_expectNumber_56 : decode cX7_expectNumber 56 = .ok (.iload_n 1, 1) := by decide +kernel
theorem dX7_expectNumber_57 : decode cX7_expectNumber 57 = .ok (.ireturn, 1) := by decide +kernel
theorem dX7_expectNumber_58 : decode cX7_expectNumber 58 = .ok (.aload_n 0, 1) := by decide +kernel
theorem dX7_expectNumber_59 : decode cX7_expectNumber 59 = .ok (.invokevirtual 58, 3) := by decide +kernel
theorem dX7_expectNumber_62 : decode cX7_expectNumber 62 = .ok (.iload 4, 2) := by decide +kernel
theorem dX7_expectNumber_64 : decode cX7_expectNumber 64 = .ok (.ireturn, 1) := by decide +kernel
theorem dX7_expectCell_0 : decode cX7_expectCell 0 = .ok (.aload_n 0, 1) := by decide +kernel
theorem dX7_expectCell_1 : decode cX7_expectCell 1 = .ok (.iconst 0, 1) := by decide +kernel
theorem dX7_expectCell_2 : decode cX7_expectCell 2 = .ok (.aload_n 0, 1) := by decide +kernel
theorem dX7_expectCell_3 : decode cX7_expectCell 3 = .ok (.getfield 22, 3) := by decide +kernel
theorem dX7_expectCell_6 : decode cX7_expectCell 6 = .ok (.invokevirtual 114, 3) := by decide +kernel
theorem dX7_expectCell_9 : decode cX7_expectCell 9 = .ok (.iconst 1, 1) := by decide +kernel
theorem dX7_expectCell_10 : decode cX7_expectCell 10 = .ok (.isub, 1) := by decide +kernel
theorem dX7_expectCell_11 : decode cX7_expectCell 11 = .ok (.iload_n 1, 1) := by decide +kernel
theorem dX7_expectCell_12 : decode cX7_expectCell 12 = .ok (.invokevirtual 117, 3) := by decide +kernel
theorem dX7_expectCell_15 : decode cX7_expectCell 15 = .ok (.ireturn, 1) := by decide +kernel
theorem dX7_expectOwner_0 : decode cX7_expectOwner 0 = .ok (.aload_n 0, 1) := by decide +kernel
theorem dX7_expectOwner_1 : decode cX7_expectOwner 1 = .ok (.iconst 0, 1) := by decide +kernel
theorem dX7_expectOwner_2 : decode cX7_expectOwner 2 = .ok (.iconst 4, 1) := by decide +kernel
theorem dX7_expectOwner_3 : decode cX7_expectOwner 3 = .ok (.iload_n 1, 1) := by decide +kernel
theorem dX7_expectOwner_4 : decode cX7_expectOwner 4 = .ok (.invokevirtual 117, 3) := by decide +kernel
theorem dX7_expectOwner_7 : decode cX7_expectOwner 7 = .ok (.ireturn, 1) := by decide +kernel
theorem dX7_readHead_0 : decode cX7_readHead 0 = .ok (.aload_n 0, 1) := by decide +kernel
theorem dX7_readHead_1 : decode cX7_readHead 1 = .ok (.ldc 121, 2) := by decide +kernel
theorem dX7_readHead_3 : decode cX7_readHead 3 = .ok (.invokevirtual 123, 3) := by decide +kernel
theorem dX7_readHead_6 : decode cX7_readHead 6 = .ok (.aload_n 0, 1) := by decide +kernel
theorem dX7_readHead_7 : decode cX7_readHead 7 = .ok (.ldc 127, 2) := by decide +kernel
theorem dX7_readHead_9 : decode cX7_readHead 9 = .ok (.invokevirtual 123, 3) := by decide +kernel
theorem dX7_readHead_12 : decode cX7_readHead 12 = .ok (.aload_n 0, 1) := by decide +kernel
theorem dX7_readHead_13 : decode cX7_readHead 13 = .ok (.iconst 1, 1) := by decide +kernel
theorem dX7_readHead_14 : decode cX7_readHead 14 = .ok (.iconst 5, 1) := by decide +kernel
theorem dX7_readHead_15 : decode cX7_readHead 15 = .ok (.iconst 0, 1) := by decide +kernel
theorem dX7_readHead_16 : decode cX7_readHead 16 = .ok (.invokevirtual 117, 3) := by decide +kernel
theorem dX7_readHead_19 : decode cX7_readHead 19 = .ok (.istore_n 1, 1) := by decide +kernel
theorem dX7_readHead_20 : decode cX7_readHead 20 = .ok (.aload_n 0, 1) := by decide +kernel
theorem dX7_readHead_21 : decode cX7_readHead 21 = .ok (.ldc 129, 2) := by decide +kernel
theorem dX7_readHead_23 : decode cX7_readHead 23 = .ok (.invokevirtual 123, 3) := by decide +kernel
theorem dX7_readHead_26 : decode cX7_readHead 26 = .ok (.aload_n 0, 1) := by decide +kernel
theorem dX7_readHead_27 : decode cX7_readHead 27 = .ok (.iconst 1, 1) := by decide +kernel
theorem dX7_readHead_28 : decode cX7_readHead 28 = .ok (.iconst 5, 1) := by decide +kernel
theorem dX7_readHead_29 : decode cX7_readHead 29 = .ok (.iconst 0, 1) := by decide +kernel
theorem dX7_readHead_30 : decode cX7_readHead 30 = .ok (.invokevirtual 117, 3) := by decide +kernel
theorem dX7_readHead_33 : decode cX7_readHead 33 = .ok (.istore_n 2, 1) := by decide +kernel
theorem dX7_readHead_34 : decode cX7_readHead 34 = .ok (.aload_n 0, 1) := by decide +kernel
theorem dX7_readHead_35 : decode cX7_readHead 35 = .ok (.bipush 59, 2) := by decide +kernel
theorem dX7_readHead_37 : decode cX7_readHead 37 = .ok (.invokevirtual 70, 3) := by decide +kernel
theorem dX7_readHead_40 : decode cX7_readHead 40 = .ok (.aload_n 0, 1) := by decide +kernel
theorem dX7_readHead_41 : decode cX7_readHead 41 = .ok (.getfield 22, 3) := by decide +kernel
theorem dX7_readHead_44 : decode cX7_readHead 44 = .ok (.iload_n 1, 1) := by decide +kernel
theorem dX7_readHead_45 : decode cX7_readHead 45 = .ok (.iload_n 2, 1) := by decide +kernel
theorem dX7_readHead_46 : decode cX7_readHead 46 = .ok (.invokevirtual 131, 3) := by decide +kernel
theorem dX7_readHead_49 : decode cX7_readHead 49 = .ok (.aload_n 0, 1) := by decide +kernel
theorem dX7_readHead_50 : decode cX7_readHead 50 = .ok (.getfield 22, 3) := by decide +kernel
theorem dX7_readHead_53 : decode cX7_readHead 53 = .ok (.iconst 1, 1) := by decide +kernel
theorem dX7_readHead_54 : decode cX7_readHead 54 = .ok (.putfield 74, 3) := by decide +kernel
theorem dX7_readHead_57 : decode cX7_readHead 57 = .ok (.iconst 0, 1) := by decide +kernel
theorem dX7_readHead_58 : decode cX7_readHead 58 = .ok (.istore_n 3, 1) := by decide +kernel
theorem dX7_readHead_59 : decode cX7_readHead 59 = .ok (.iload_n 3, 1) := by decide +kernel
theorem dX7_readHead_60 : decode cX7_readHead 60 = .ok (.aload_n 0, 1) := by decide +kernel
theorem dX7_readHead_61 : decode cX7_readHead 61 = .ok (.getfield 22, 3) := by decide +kernel
theorem dX7_readHead_64 : decode cX7_readHead 64 = .ok (.invokevirtual 114, 3) := by decide +kernel
theorem dX7_readHead_67 : decode cX7_readHead 67 = .ok (.if_icmp .ge 27, 3) := by decide +kernel
theorem dX7_readHead_70 : decode cX7_readHead 70 = .ok (.iload_n 3, 1) := by decide +kernel
theorem dX7_readHead_71 : decode cX7_readHead 71 = .ok (.bipush 25, 2) := by decide +kernel
theorem dX7_readHead_73 : decode cX7_readHead 73 = .ok (.if_icmp .ge 21, 3) := by decide +kernel
theorem dX7_readHead_76 : decode cX7_readHead 76 = .ok (.aload_n 0, 1) := by decide +kernel
theorem dX7_readHead_77 : decode cX7_readHead 77 = .ok (.getfield 29, 3) := by decide +kernel
theorem dX7_readHead_80 : decode cX7_readHead 80 = .ok (.getfield 135, 3) := by decide +kernel
theorem dX7_readHead_83 : decode cX7_readHead 83 = .ok (.iload_n 3, 1) := by decide +kernel
theorem dX7_readHead_84 : decode cX7_readHead 84 = .ok (.iload_n 3, 1) := by decide +kernel
theorem dX7_readHead_85 : decode cX7_readHead 85 = .ok (.iload_n 2, 1) := by decide +kernel
theorem dX7_readHead_86 : decode cX7_readHead 86 = .ok (.idiv, 1) := by decide +kernel
theorem dX7_readHead_87 : decode cX7_readHead 87 = .ok (.iastore, 1) := by decide +kernel
theorem dX7_readHead_88 : decode cX7_readHead 88 = .ok (.iinc 3 1, 3) := by decide +kernel
theorem dX7_readHead_91 : decode cX7_readHead 91 = .ok (.goto (-32), 3) := by decide +kernel
theorem dX7_readHead_94 : decode cX7_readHead 94 = .ok (.return_, 1) := by decide +kernel
theorem dX7_readLine_0 : decode cX7_readLine 0 = .ok (.aload_n 0, 1) := by decide +kernel
theorem dX7_readLine_1 : decode cX7_readLine 1 = .ok (.ldc 139, 2) := by decide +kernel
theorem dX7_readLine_3 : decode cX7_readLine 3 = .ok (.invokevirtual 99, 3) := by decide +kernel
theorem dX7_readLine_6 : decode cX7_readLine 6 = .ok (.ifCond .eq 10, 3) := by decide +kernel
theorem dX7_readLine_9 : decode cX7_readLine 9 = .ok (.aload_n 0, 1) := by decide +kernel
theorem dX7_readLine_10 : decode cX7_readLine 10 = .ok (.invokevirtual 140, 3) := by decide +kernel
theorem dX7_readLine_13 : decode cX7_readLine 13 = .ok (.goto 168, 3) := by decide +kernel
theorem dX7_readLine_16 : decode cX7_readLine 16 = .ok (.aload_n 0, 1) := by decide +kernel
theorem dX7_readLine_17 : decode cX7_readLine 17 = .ok (.ldc 143, 2) := by decide +kernel
theorem dX7_readLine_19 : decode cX7_readLine 19 = .ok (.invokevirtual 99, 3) := by decide +kernel
theorem dX7_readLine_22 : decode cX7_readLine 22 = .ok (.ifCond .eq 10, 3) := by decide +kernel
theorem dX7_readLine_25 : decode cX7_readLine 25 = .ok (.aload_n 0, 1) := by decide +kernel
theorem dX7_readLine_26 : decode cX7_readLine 26 = .ok (.invokevirtual 145, 3) := by decide +kernel
theorem dX7_readLine_29 : decode cX7_readLine 29 = .ok (.goto 152, 3) := by decide +kernel
theorem dX7_readLine_32 : decode cX7_readLine 32 = .ok (.aload_n 0, 1) := by decide +kernel
theorem dX7_readLine_33 : decode cX7_readLine 33 = .ok (.ldc 148, 2) := by decide +kernel
theorem dX7_readLine_35 : decode cX7_readLine 35 = .ok (.invokevirtual 99, 3) := by decide +kernel
theorem dX7_readLine_38 : decode cX7_readLine 38 = .ok (.ifCond .eq 10, 3) := by decide +kernel
theorem dX7_readLine_41 : decode cX7_readLine 41 = .ok (.aload_n 0, 1) := by decide +kernel
theorem dX7_readLine_42 : decode cX7_readLine 42 = .ok (.invokevirtual 150, 3) := by decide +kernel
theorem dX7_readLine_45 : decode cX7_readLine 45 = .ok (.goto 136, 3) := by decide +kernel
theorem dX7_readLine_48 : decode cX7_readLine 48 = .ok (.aload_n 0, 1) := by decide +kernel
theorem dX7_readLine_49 : decode cX7_readLine 49 = .ok (.ldc 153, 2) := by decide +kernel
theorem dX7_readLine_51 : decode cX7_readLine 51 = .ok (.invokevirtual 99, 3) := by decide +kernel
theorem dX7_readLine_54 : decode cX7_readLine 54 = .ok (.ifCond .eq 10, 3) := by decide +kernel
theorem dX7_readLine_57 : decode cX7_readLine 57 = .ok (.aload_n 0, 1) := by decide +kernel
theorem dX7_readLine_58 : decode cX7_readLine 58 = .ok (.invokevirtual 155, 3) := by decide +kernel
theorem dX7_readLine_61 : decode cX7_readLine 61 = .ok (.goto 120, 3) := by decide +kernel
theorem dX7_readLine_64 : decode cX7_readLine 64 = .ok (.aload_n 0, 1) := by decide +kernel
theorem dX7_readLine_65 : decode cX7_readLine 65 = .ok (.ldc 158, 2) := by decide +kernel
theorem dX7_readLine_67 : decode cX7_readLine 67 = .ok (.invokevirtual 99, 3) := by decide +kernel
theorem dX7_readLine_70 : decode cX7_readLine 70 = .ok (.ifCond .eq 10, 3) := by decide +kernel
theorem dX7_readLine_73 : decode cX7_readLine 73 = .ok (.aload_n 0, 1) := by decide +kernel
theorem dX7_readLine_74 : decode cX7_readLine 74 = .ok (.invokevirtual 160, 3) := by decide +kernel
theorem dX7_readLine_77 : decode cX7_readLine 77 = .ok (.goto 104, 3) := by decide +kernel
theorem dX7_readLine_80 : decode cX7_readLine 80 = .ok (.aload_n 0, 1) := by decide +kernel
theorem dX7_readLine_81 : decode cX7_readLine 81 = .ok (.ldc 163, 2) := by decide +kernel
theorem dX7_readLine_83 : decode cX7_readLine 83 = .ok (.invokevirtual 99, 3) := by decide +kernel
theorem dX7_readLine_86 : decode cX7_readLine 86 = .ok (.ifCond .eq 25, 3) := by decide +kernel
theorem dX7_readLine_89 : decode cX7_readLine 89 = .ok (.aload_n 0, 1) := by decide +kernel
theorem dX7_readLine_90 : decode cX7_readLine 90 = .ok (.invokevirtual 58, 3) := by decide +kernel
theorem dX7_readLine_93 : decode cX7_readLine 93 = .ok (.aload_n 0, 1) := by decide +kernel
theorem dX7_readLine_94 : decode cX7_readLine 94 = .ok (.getfield 29, 3) := by decide +kernel
theorem dX7_readLine_97 : decode cX7_readLine 97 = .ok (.aload_n 0, 1) := by decide +kernel
theorem dX7_readLine_98 : decode cX7_readLine 98 = .ok (.iconst 0, 1) := by decide +kernel
theorem dX7_readLine_99 : decode cX7_readLine 99 = .ok (.bipush 9, 2) := by decide +kernel
theorem dX7_readLine_101 : decode cX7_readLine 101 = .ok (.iconst 0, 1) := by decide +kernel
theorem dX7_readLine_102 : decode cX7_readLine 102 = .ok (.invokevirtual 117, 3) := by decide +kernel
theorem dX7_readLine_105 : decode cX7_readLine 105 = .ok (.putfield 165, 3) := by decide +kernel
theorem dX7_readLine_108 : decode cX7_readLine 108 = .ok (.goto 73, 3) := by decide +kernel
theorem dX7_readLine_111 : decode cX7_readLine 111 = .ok (.aload_n 0, 1) := by decide +kernel
theorem dX7_readLine_112 : decode cX7_readLine 112 = .ok (.ldc 167, 2) := by decide +kernel
theorem dX7_readLine_114 : decode cX7_readLine 114 = .ok (.invokevirtual 99, 3) := by decide +kernel
theorem dX7_readLine_117 : decode cX7_readLine 117 = .ok (.ifCond .eq 25, 3) := by decide +kernel
theorem dX7_readLine_120 : decode cX7_readLine 120 = .ok (.aload_n 0, 1) := by decide +kernel
theorem dX7_readLine_121 : decode cX7_readLine 121 = .ok (.invokevirtual 58, 3) := by decide +kernel
theorem dX7_readLine_124 : decode cX7_readLine 124 = .ok (.aload_n 0, 1) := by decide +kernel
theorem dX7_readLine_125 : decode cX7_readLine 125 = .ok (.getfield 22, 3) := by decide +kernel
theorem dX7_readLine_128 : decode cX7_readLine 128 = .ok (.aload_n 0, 1) := by decide +kernel
theorem dX7_readLine_129 : decode cX7_readLine 129 = .ok (.iconst 0, 1) := by decide +kernel
theorem dX7_readLine_130 : decode cX7_readLine 130 = .ok (.bipush 10, 2) := by decide +kernel
theorem dX7_readLine_132 : decode cX7_readLine 132 = .ok (.iconst 0, 1) := by decide +kernel
theorem dX7_readLine_133 : decode cX7_readLine 133 = .ok (.invokevirtual 117, 3) := by decide +kernel
theorem dX7_readLine_136 : decode cX7_readLine 136 = .ok (.putfield 169, 3) := by decide +kernel
theorem dX7_readLine_139 : decode cX7_readLine 139 = .ok (.goto 42, 3) := by decide +kernel
theorem dX7_readLine_142 : decode cX7_readLine 142 = .ok (.aload_n 0, 1) := by decide +kernel
theorem dX7_readLine_143 : decode cX7_readLine 143 = .ok (.ldc 171, 2) := by decide +kernel
theorem dX7_readLine_145 : decode cX7_readLine 145 = .ok (.invokevirtual 99, 3) := by decide +kernel
theorem dX7_readLine_148 : decode cX7_readLine 148 = .ok (.ifCond .eq 11, 3) := by decide +kernel
theorem dX7_readLine_151 : decode cX7_readLine 151 = .ok (.aload_n 0, 1) := by decide +kernel
theorem dX7_readLine_152 : decode cX7_readLine 152 = .ok (.iconst 0, 1) := by decide +kernel
theorem dX7_readLine_153 : decode cX7_readLine 153 = .ok (.invokevirtual 173, 3) := by decide +kernel
theorem dX7_readLine_156 : decode cX7_readLine 156 = .ok (.goto 25, 3) := by decide +kernel
theorem dX7_readLine_159 : decode cX7_readLine 159 = .ok (.aload_n 0, 1) := by decide +kernel
theorem dX7_readLine_160 : decode cX7_readLine 160 = .ok (.ldc 177, 2) := by decide +kernel
theorem dX7_readLine_162 : decode cX7_readLine 162 = .ok (.invokevirtual 99, 3) := by decide +kernel
theorem dX7_readLine_165 : decode cX7_readLine 165 = .ok (.ifCond .eq 11, 3) := by decide +kernel
theorem dX7_readLine_168 : decode cX7_readLine 168 = .ok (.aload_n 0, 1) := by decide +kernel
theorem dX7_readLine_169 : decode cX7_readLine 169 = .ok (.iconst 1, 1) := by decide +kernel
theorem dX7_readLine_170 : decode cX7_readLine 170 = .ok (.invokevirtual 173, 3) := by decide +kernel
theorem dX7_readLine_173 : decode cX7_readLine 173 = .ok (.goto 8, 3) := by decide +kernel
theorem dX7_readLine_176 : decode cX7_readLine 176 = .ok (.aload_n 0, 1) := by decide +kernel
theorem dX7_readLine_177 : decode cX7_readLine 177 = .ok (.iconst 2, 1) := by decide +kernel
theorem dX7_readLine_178 : decode cX7_readLine 178 = .ok (.invokevirtual 103, 3) := by decide +kernel
theorem dX7_readLine_181 : decode cX7_readLine 181 = .ok (.return_, 1) := by decide +kernel
theorem dX7_readSand_0 : decode cX7_readSand 0 = .ok (.aload_n 0, 1) := by decide +kernel
theorem dX7_readSand_1 : decode cX7_readSand 1 = .ok (.invokevirtual 58, 3) := by decide +kernel
theorem dX7_readSand_4 : decode cX7_readSand 4 = .ok (.aload_n 0, 1) := by decide +kernel
theorem dX7_readSand_5 : decode cX7_readSand 5 = .ok (.iconst 0, 1) := by decide +kernel
theorem dX7_readSand_6 : decode cX7_readSand 6 = .ok (.invokevirtual 179, 3) := by decide +kernel
theorem dX7_readSand_9 : decode cX7_readSand 9 = .ok (.istore_n 1, 1) := by decide +kernel
theorem dX7_readSand_10 : decode cX7_readSand 10 = .ok (.aload_n 0, 1) := by decide +kernel
theorem dX7_readSand_11 : decode cX7_readSand 11 = .ok (.iconst 0, 1) := by decide +kernel
theorem dX7_readSand_12 : decode cX7_readSand 12 = .ok (.bipush 9, 2) := by decide +kernel
theorem dX7_readSand_14 : decode cX7_readSand 14 = .ok (.iconst 0, 1) := by decide +kernel
theorem dX7_readSand_15 : decode cX7_readSand 15 = .ok (.invokevirtual 117, 3) := by decide +kernel
theorem dX7_readSand_18 : decode cX7_readSand 18 = .ok (.istore_n 2, 1) := by decide +kernel
theorem dX7_readSand_19 : decode cX7_readSand 19 = .ok (.aload_n 0, 1) := by decide +kernel
theorem dX7_readSand_20 : decode cX7_readSand 20 = .ok (.getfield 48, 3) := by decide +kernel
theorem dX7_readSand_23 : decode cX7_readSand 23 = .ok (.ifCond .ne 19, 3) := by decide +kernel
theorem dX7_readSand_26 : decode cX7_readSand 26 = .ok (.iload_n 1, 1) := by decide +kernel
theorem dX7_readSand_27 : decode cX7_readSand 27 = .ok (.bipush 25, 2) := by decide +kernel
theorem dX7_readSand_29 : decode cX7_readSand 29 = .ok (.if_icmp .ge 13, 3) := by decide +kernel
theorem dX7_readSand_32 : decode cX7_readSand 32 = .ok (.aload_n 0, 1) := by decide +kernel
theorem dX7_readSand_33 : decode cX7_readSand 33 = .ok (.getfield 29, 3) := by decide +kernel
theorem dX7_readSand_36 : decode cX7_readSand 36 = .ok (.getfield 135, 3) := by decide +kernel
theorem dX7_readSand_39 : decode cX7_readSand 39 = .ok (.iload_n 1, 1) := by decide +kernel
theorem dX7_readSand_40 : decode cX7_readSand 40 = .ok (.iload_n 2, 1) := by decide +kernel
theorem dX7_readSand_41 : decode cX7_readSand 41 = .ok (.iastore, 1) := by decide +kernel
theorem dX7_readSand_42 : decode cX7_readSand 42 = .ok (.return_, 1) := by decide +kernel
theorem dX7_readHouse_0 : decode cX7_readHouse 0 = .ok (.aload_n 0, 1) := by decide +kernel
theorem dX7_readHouse_1 : decode cX7_readHouse 1 = .ok (.getfield 29, 3) := by decide +kernel
theorem dX7_readHouse_4 : decode cX7_readHouse 4 = .ok (.getfield 182, 3) := by decide +kernel
theorem dX7_readHouse_7 : decode cX7_readHouse 7 = .ok (.bipush 6, 2) := by decide +kernel
theorem dX7_readHouse_9 : decode cX7_readHouse 9 = .ok (.if_icmp .lt 9, 3) := by decide +kernel
theorem dX7_readHouse_12 : decode cX7_readHouse 12 = .ok (.aload_n 0, 1) := by decide +kernel
theorem dX7_readHouse_13 : decode cX7_readHouse 13 = .ok (.iconst 4, 1) := by decide +kernel
theorem dX7_readHouse_14 : decode cX7_readHouse 14 = .ok (.invokevirtual 103, 3) := by decide +kernel
theorem dX7_readHouse_17 : decode cX7_readHouse 17 = .ok (.return_, 1) := by decide +kernel
theorem dX7_readHouse_18 : decode cX7_readHouse 18 = .ok (.aload_n 0, 1) := by decide +kernel
theorem dX7_readHouse_19 : decode cX7_readHouse 19 = .ok (.invokevirtual 58, 3) := by decide +kernel
theorem dX7_readHouse_22 : decode cX7_readHouse 22 = .ok (.aload_n 0, 1) := by decide +kernel
theorem dX7_readHouse_23 : decode cX7_readHouse 23 = .ok (.aload_n 0, 1) := by decide +kernel
theorem dX7_readHouse_24 : decode cX7_readHouse 24 = .ok (.getfield 29, 3) := by decide +kernel
theorem dX7_readHouse_27 : decode cX7_readHouse 27 = .ok (.invokevirtual 185, 3) := by decide +kernel
theorem dX7_readHouse_30 : decode cX7_readHouse 30 = .ok (.invokevirtual 179, 3) := by decide +kernel
theorem dX7_readHouse_33 : decode cX7_readHouse 33 = .ok (.istore_n 1, 1) := by decide +kernel
theorem dX7_readHouse_34 : decode cX7_readHouse 34 = .ok (.aload_n 0, 1) := by decide +kernel
theorem dX7_readHouse_35 : decode cX7_readHouse 35 = .ok (.ldc 188, 2) := by decide +kernel
theorem dX7_readHouse_37 : decode cX7_readHouse 37 = .ok (.invokevirtual 123, 3) := by decide +kernel
theorem dX7_readHouse_40 : decode cX7_readHouse 40 = .ok (.aload_n 0, 1) := by decide +kernel
theorem dX7_readHouse_41 : decode cX7_readHouse 41 = .ok (.iconst 0, 1) := by decide +kernel
theorem dX7_readHouse_42 : decode cX7_readHouse 42 = .ok (.invokevirtual 190, 3) := by decide +kernel
theorem dX7_readHouse_45 : decode cX7_readHouse 45 = .ok (.istore_n 2, 1) := by decide +kernel
theorem dX7_readHouse_46 : decode cX7_readHouse 46 = .ok (.aload_n 0, 1) := by decide +kernel
theorem dX7_readHouse_47 : decode cX7_readHouse 47 = .ok (.getfield 48, 3) := by decide +kernel
theorem dX7_readHouse_50 : decode cX7_readHouse 50 = .ok (.ifCond .ne 20, 3) := by decide +kernel
theorem dX7_readHouse_53 : decode cX7_readHouse 53 = .ok (.aload_n 0, 1) := by decide +kernel
theorem dX7_readHouse_54 : decode cX7_readHouse 54 = .ok (.getfield 29, 3) := by decide +kernel
theorem dX7_readHouse_57 : decode cX7_readHouse 57 = .ok (.iload_n 1, 1) := by decide +kernel
theorem dX7_readHouse_58 : decode cX7_readHouse 58 = .ok (.iload_n 2, 1) := by decide +kernel
theorem dX7_readHouse_59 : decode cX7_readHouse 59 = .ok (.aload_n 0, 1) := by decide +kernel
theorem dX7_readHouse_60 : decode cX7_readHouse 60 = .ok (.getfield 22, 3) := by decide +kernel
theorem dX7_readHouse_63 : decode cX7_readHouse 63 = .ok (.invokevirtual 114, 3) := by decide +kernel
theorem dX7_readHouse_66 : decode cX7_readHouse 66 = .ok (.invokevirtual 193, 3) := by decide +kernel
theorem dX7_readHouse_69 : decode cX7_readHouse 69 = .ok (.pop, 1) := by decide +kernel
theorem dX7_readHouse_70 : decode cX7_readHouse 70 = .ok (.return_, 1) := by decide +kernel
theorem dX7_readPlot_0 : decode cX7_readPlot 0 = .ok (.aload_n 0, 1) := by decide +kernel
theorem dX7_readPlot_1 : decode cX7_readPlot 1 = .ok (.getfield 22, 3) := by decide +kernel
theorem dX7_readPlot_4 : decode cX7_readPlot 4 = .ok (.getfield 196, 3) := by decide +kernel
theorem dX7_readPlot_7 : decode cX7_readPlot 7 = .ok (.bipush 6, 2) := by decide +kernel
theorem dX7_readPlot_9 : decode cX7_readPlot 9 = .ok (.if_icmp .lt 9, 3) := by decide +kernel
theorem dX7_readPlot_12 : decode cX7_readPlot 12 = .ok (.aload_n 0, 1) := by decide +kernel
theorem dX7_readPlot_13 : decode cX7_readPlot 13 = .ok (.iconst 4, 1) := by decide +kernel
theorem dX7_readPlot_14 : decode cX7_readPlot 14 = .ok (.invokevirtual 103, 3) := by decide +kernel
theorem dX7_readPlot_17 : decode cX7_readPlot 17 = .ok (.return_, 1) := by decide +kernel
theorem dX7_readPlot_18 : decode cX7_readPlot 18 = .ok (.aload_n 0, 1) := by decide +kernel
theorem dX7_readPlot_19 : decode cX7_readPlot 19 = .ok (.invokevirtual 58, 3) := by decide +kernel
theorem dX7_readPlot_22 : decode cX7_readPlot 22 = .ok (.aload_n 0, 1) := by decide +kernel
theorem dX7_readPlot_23 : decode cX7_readPlot 23 = .ok (.iconst 0, 1) := by decide +kernel
theorem dX7_readPlot_24 : decode cX7_readPlot 24 = .ok (.invokevirtual 179, 3) := by decide +kernel
theorem dX7_readPlot_27 : decode cX7_readPlot 27 = .ok (.istore_n 1, 1) := by decide +kernel
theorem dX7_readPlot_28 : decode cX7_readPlot 28 = .ok (.aload_n 0, 1) := by decide +kernel
theorem dX7_readPlot_29 : decode cX7_readPlot 29 = .ok (.ldc 199, 2) := by decide +kernel
theorem dX7_readPlot_31 : decode cX7_readPlot 31 = .ok (.invokevirtual 123, 3) := by decide +kernel
theorem dX7_readPlot_34 : decode cX7_readPlot 34 = .ok (.aload_n 0, 1) := by decide +kernel
theorem dX7_readPlot_35 : decode cX7_readPlot 35 = .ok (.iconst 1, 1) := by decide +kernel
theorem dX7_readPlot_36 : decode cX7_readPlot 36 = .ok (.bipush 9, 2) := by decide +kernel
theorem dX7_readPlot_38 : decode cX7_readPlot 38 = .ok (.iconst 0, 1) := by decide +kernel
theorem dX7_readPlot_39 : decode cX7_readPlot 39 = .ok (.invokevirtual 117, 3) := by decide +kernel
theorem dX7_readPlot_42 : decode cX7_readPlot 42 = .ok (.istore_n 2, 1) := by decide +kernel
theorem dX7_readPlot_43 : decode cX7_readPlot 43 = .ok (.aload_n 0, 1) := by decide +kernel
theorem dX7_readPlot_44 : decode cX7_readPlot 44 = .ok (.ldc 201, 2) := by decide +kernel
theorem dX7_readPlot_46 : decode cX7_readPlot 46 = .ok (.invokevirtual 123, 3) := by decide +kernel
theorem dX7_readPlot_49 : decode cX7_readPlot 49 = .ok (.aload_n 0, 1) := by decide +kernel
theorem dX7_readPlot_50 : decode cX7_readPlot 50 = .ok (.iconst 0, 1) := by decide +kernel
theorem dX7_readPlot_51 : decode cX7_readPlot 51 = .ok (.bipush 9, 2) := by decide +kernel
theorem dX7_readPlot_53 : decode cX7_readPlot 53 = .ok (.iconst 0, 1) := by decide +kernel
theorem dX7_readPlot_54 : decode cX7_readPlot 54 = .ok (.invokevirtual 117, 3) := by decide +kernel
theorem dX7_readPlot_57 : decode cX7_readPlot 57 = .ok (.istore_n 3, 1) := by decide +kernel
theorem dX7_readPlot_58 : decode cX7_readPlot 58 = .ok (.aload_n 0, 1) := by decide +kernel
theorem dX7_readPlot_59 : decode cX7_readPlot 59 = .ok (.getfield 48, 3) := by decide +kernel
theorem dX7_readPlot_62 : decode cX7_readPlot 62 = .ok (.ifCond .ne 13, 3) := by decide +kernel
theorem dX7_readPlot_65 : decode cX7_readPlot 65 = .ok (.aload_n 0, 1) := by decide +kernel
theorem dX7_readPlot_66 : decode cX7_readPlot 66 = .ok (.getfield 22, 3) := by decide +kernel
theorem dX7_readPlot_69 : decode cX7_readPlot 69 = .ok (.iload_n 1, 1) := by decide +kernel
theorem dX7_readPlot_70 : decode cX7_readPlot 70 = .ok (.iload_n 2, 1) := by decide +kernel
theorem dX7_readPlot_71 : decode cX7_readPlot 71 = .ok (.iload_n 3, 1) := by decide +kernel
theorem dX7_readPlot_72 : decode cX7_readPlot 72 = .ok (.invokevirtual 203, 3) := by decide +kernel
theorem dX7_readPlot_75 : decode cX7_readPlot 75 = .ok (.return_, 1) := by decide +kernel
theorem dX7_readPaper_0 : decode cX7_readPaper 0 = .ok (.aload_n 0, 1) := by decide +kernel
theorem dX7_readPaper_1 : decode cX7_readPaper 1 = .ok (.getfield 22, 3) := by decide +kernel
theorem dX7_readPaper_4 : decode cX7_readPaper 4 = .ok (.getfield 207, 3) := by decide +kernel
theorem dX7_readPaper_7 : decode cX7_readPaper 7 = .ok (.bipush 6, 2) := by decide +kernel
theorem dX7_readPaper_9 : decode cX7_readPaper 9 = .ok (.if_icmp .lt 9, 3) := by decide +kernel
theorem dX7_readPaper_12 : decode cX7_readPaper 12 = .ok (.aload_n 0, 1) := by decide +kernel
theorem dX7_readPaper_13 : decode cX7_readPaper 13 = .ok (.iconst 4, 1) := by decide +kernel
theorem dX7_readPaper_14 : decode cX7_readPaper 14 = .ok (.invokevirtual 103, 3) := by decide +kernel
theorem dX7_readPaper_17 : decode cX7_readPaper 17 = .ok (.return_, 1) := by decide +kernel
theorem dX7_readPaper_18 : decode cX7_readPaper 18 = .ok (.aload_n 0, 1) := by decide +kernel
theorem dX7_readPaper_19 : decode cX7_readPaper 19 = .ok (.invokevirtual 58, 3) := by decide +kernel
theorem dX7_readPaper_22 : decode cX7_readPaper 22 = .ok (.aload_n 0, 1) := by decide +kernel
theorem dX7_readPaper_23 : decode cX7_readPaper 23 = .ok (.iconst 0, 1) := by decide +kernel
theorem dX7_readPaper_24 : decode cX7_readPaper 24 = .ok (.invokevirtual 179, 3) := by decide +kernel
theorem dX7_readPaper_27 : decode cX7_readPaper 27 = .ok (.istore_n 1, 1) := by decide +kernel
theorem dX7_readPaper_28 : decode cX7_readPaper 28 = .ok (.aload_n 0, 1) := by decide +kernel
theorem dX7_readPaper_29 : decode cX7_readPaper 29 = .ok (.iconst 0, 1) := by decide +kernel
theorem dX7_readPaper_30 : decode cX7_readPaper 30 = .ok (.invokevirtual 179, 3) := by decide +kernel
theorem dX7_readPaper_33 : decode cX7_readPaper 33 = .ok (.istore_n 2, 1) := by decide +kernel
theorem dX7_readPaper_34 : decode cX7_readPaper 34 = .ok (.aload_n 0, 1) := by decide +kernel
theorem dX7_readPaper_35 : decode cX7_readPaper 35 = .ok (.getfield 48, 3) := by decide +kernel
theorem dX7_readPaper_38 : decode cX7_readPaper 38 = .ok (.ifCond .ne 12, 3) := by decide +kernel
theorem dX7_readPaper_41 : decode cX7_readPaper 41 = .ok (.aload_n 0, 1) := by decide +kernel
theorem dX7_readPaper_42 : decode cX7_readPaper 42 = .ok (.getfield 22, 3) := by decide +kernel
theorem dX7_readPaper_45 : decode cX7_readPaper 45 = .ok (.iload_n 1, 1) := by decide +kernel
theorem dX7_readPaper_46 : decode cX7_readPaper 46 = .ok (.iload_n 2, 1) := by decide +kernel
theorem dX7_readPaper_47 : decode cX7_readPaper 47 = .ok (.invokevirtual 210, 3) := by decide +kernel
theorem dX7_readPaper_50 : decode cX7_readPaper 50 = .ok (.return_, 1) := by decide +kernel
theorem dX7_readOwes_0 : decode cX7_readOwes 0 = .ok (.aload_n 0, 1) := by decide +kernel
theorem dX7_readOwes_1 : decode cX7_readOwes 1 = .ok (.getfield 51, 3) := by decide +kernel
theorem dX7_readOwes_4 : decode cX7_readOwes 4 = .ok (.bipush 8, 2) := by decide +kernel
theorem dX7_readOwes_6 : decode cX7_readOwes 6 = .ok (.if_icmp .lt 9, 3) := by decide +kernel
theorem dX7_readOwes_9 : decode cX7_readOwes 9 = .ok (.aload_n 0, 1) := by decide +kernel
theorem dX7_readOwes_10 : decode cX7_readOwes 10 = .ok (.iconst 4, 1) := by decide +kernel
theorem dX7_readOwes_11 : decode cX7_readOwes 11 = .ok (.invokevirtual 103, 3) := by decide +kernel
theorem dX7_readOwes_14 : decode cX7_readOwes 14 = .ok (.return_, 1) := by decide +kernel
theorem dX7_readOwes_15 : decode cX7_readOwes 15 = .ok (.aload_n 0, 1) := by decide +kernel
theorem dX7_readOwes_16 : decode cX7_readOwes 16 = .ok (.dup, 1) := by decide +kernel
theorem dX7_readOwes_17 : decode cX7_readOwes 17 = .ok (.getfield 51, 3) := by decide +kernel
theorem dX7_readOwes_20 : decode cX7_readOwes 20 = .ok (.iconst 1, 1) := by decide +kernel
theorem dX7_readOwes_21 : decode cX7_readOwes 21 = .ok (.iadd, 1) := by decide +kernel
theorem dX7_readOwes_22 : decode cX7_readOwes 22 = .ok (.putfield 51, 3) := by decide +kernel
theorem dX7_readOwes_25 : decode cX7_readOwes 25 = .ok (.aload_n 0, 1) := by decide +kernel
theorem dX7_readOwes_26 : decode cX7_readOwes 26 = .ok (.invokevirtual 58, 3) := by decide +kernel
theorem dX7_readOwes_29 : decode cX7_readOwes 29 = .ok (.aload_n 0, 1) := by decide +kernel
theorem dX7_readOwes_30 : decode cX7_readOwes 30 = .ok (.iconst 0, 1) := by decide +kernel
theorem dX7_readOwes_31 : decode cX7_readOwes 31 = .ok (.invokevirtual 190, 3) := by decide +kernel
theorem dX7_readOwes_34 : decode cX7_readOwes 34 = .ok (.istore_n 1, 1) := by decide +kernel
theorem dX7_readOwes_35 : decode cX7_readOwes 35 = .ok (.aload_n 0, 1) := by decide +kernel
theorem dX7_readOwes_36 : decode cX7_readOwes 36 = .ok (.iconst 1, 1) := by decide +kernel
theorem dX7_readOwes_37 : decode cX7_readOwes 37 = .ok (.iload_n 1, 1) := by decide +kernel
theorem dX7_readOwes_38 : decode cX7_readOwes 38 = .ok (.ishl, 1) := by decide +kernel
theorem dX7_readOwes_39 : decode cX7_readOwes 39 = .ok (.invokevirtual 190, 3) := by decide +kernel
theorem dX7_readOwes_42 : decode cX7_readOwes 42 = .ok (.istore_n 2, 1) := by decide +kernel
theorem dX7_readOwes_43 : decode cX7_readOwes 43 = .ok (.aload_n 0, 1) := by decide +kernel
theorem dX7_readOwes_44 : decode cX7_readOwes 44 = .ok (.iconst 0, 1) := by decide +kernel
theorem dX7_readOwes_45 : decode cX7_readOwes 45 = .ok (.bipush 99, 2) := by decide +kernel
theorem dX7_readOwes_47 : decode cX7_readOwes 47 = .ok (.iconst 0, 1) := by decide +kernel
theorem dX7_readOwes_48 : decode cX7_readOwes 48 = .ok (.invokevirtual 117, 3) := by decide +kernel
theorem dX7_readOwes_51 : decode cX7_readOwes 51 = .ok (.istore_n 3, 1) := by decide +kernel
theorem dX7_readOwes_52 : decode cX7_readOwes 52 = .ok (.aload_n 0, 1) := by decide +kernel
theorem dX7_readOwes_53 : decode cX7_readOwes 53 = .ok (.getfield 48, 3) := by decide +kernel
theorem dX7_readOwes_56 : decode cX7_readOwes 56 = .ok (.ifCond .ne 29, 3) := by decide +kernel
theorem dX7_readOwes_59 : decode cX7_readOwes 59 = .ok (.aload_n 0, 1) := by decide +kernel
theorem dX7_readOwes_60 : decode cX7_readOwes 60 = .ok (.getfield 22, 3) := by decide +kernel
theorem dX7_readOwes_63 : decode cX7_readOwes 63 = .ok (.getfield 213, 3) := by decide +kernel
theorem dX7_readOwes_66 : decode cX7_readOwes 66 = .ok (.iload_n 1, 1) := by decide +kernel
theorem dX7_readOwes_67 : decode cX7_readOwes 67 = .ok (.dup2, 1) := by decide +kernel
theorem dX7_readOwes_68 : decode cX7_readOwes 68 = .ok (.iaload, 1) := by decide +kernel
theorem dX7_readOwes_69 : decode cX7_readOwes 69 = .ok (.iload_n 3, 1) := by decide +kernel
theorem dX7_readOwes_70 : decode cX7_readOwes 70 = .ok (.isub, 1) := by decide +kernel
theorem dX7_readOwes_71 : decode cX7_readOwes 71 = .ok (.iastore, 1) := by decide +kernel
theorem dX7_readOwes_72 : decode cX7_readOwes 72 = .ok (.aload_n 0, 1) := by decide +kernel
theorem dX7_readOwes_73 : decode cX7_readOwes 73 = .ok (.getfield 22, 3) := by decide +kernel
theorem dX7_readOwes_76 : decode cX7_readOwes 76 = .ok (.getfield 213, 3) := by decide +kernel
theorem dX7_readOwes_79 : decode cX7_readOwes 79 = .ok (.iload_n 2, 1) := by decide +kernel
theorem dX7_readOwes_80 : decode cX7_readOwes 80 = .ok (.dup2, 1) := by decide +kernel
theorem dX7_readOwes_81 : decode cX7_readOwes 81 = .ok (.iaload, 1) := by decide +kernel
theorem dX7_readOwes_82 : decode cX7_readOwes 82 = .ok (.iload_n 3, 1) := by decide +kernel
theorem dX7_readOwes_83 : decode cX7_readOwes 83 = .ok (.iadd, 1) := by decide +kernel
theorem dX7_readOwes_84 : decode cX7_readOwes 84 = .ok (.iastore, 1) := by decide +kernel
theorem dX7_readOwes_85 : decode cX7_readOwes 85 = .ok (.return_, 1) := by decide +kernel
theorem dX7_readLaw_0 : decode cX7_readLaw 0 = .ok (.aload_n 0, 1) := by decide +kernel
theorem dX7_readLaw_1 : decode cX7_readLaw 1 = .ok (.getfield 22, 3) := by decide +kernel
theorem dX7_readLaw_4 : decode cX7_readLaw 4 = .ok (.getfield 216, 3) := by decide +kernel
theorem dX7_readLaw_7 : decode cX7_readLaw 7 = .ok (.istore_n 2, 1) := by decide +kernel
theorem dX7_readLaw_8 : decode cX7_readLaw 8 = .ok (.aload_n 0, 1) := by decide +kernel
theorem dX7_readLaw_9 : decode cX7_readLaw 9 = .ok (.iload_n 1, 1) := by decide +kernel
theorem dX7_readLaw_10 : decode cX7_readLaw 10 = .ok (.putfield 219, 3) := by decide +kernel
theorem dX7_readLaw_13 : decode cX7_readLaw 13 = .ok (.aload_n 0, 1) := by decide +kernel
theorem dX7_readLaw_14 : decode cX7_readLaw 14 = .ok (.invokevirtual 58, 3) := by decide +kernel
theorem dX7_readLaw_17 : decode cX7_readLaw 17 = .ok (.aload_n 0, 1) := by decide +kernel
theorem dX7_readLaw_18 : decode cX7_readLaw 18 = .ok (.bipush 58, 2) := by decide +kernel
theorem dX7_readLaw_20 : decode cX7_readLaw 20 = .ok (.invokevirtual 70, 3) := by decide +kernel
theorem dX7_readLaw_23 : decode cX7_readLaw 23 = .ok (.aload_n 0, 1) := by decide +kernel
theorem dX7_readLaw_24 : decode cX7_readLaw 24 = .ok (.iconst 0, 1) := by decide +kernel
theorem dX7_readLaw_25 : decode cX7_readLaw 25 = .ok (.invokevirtual 223, 3) := by decide +kernel
theorem dX7_readLaw_28 : decode cX7_readLaw 28 = .ok (.iload_n 1, 1) := by decide +kernel
theorem dX7_readLaw_29 : decode cX7_readLaw 29 = .ok (.ifCond .eq 28, 3) := by decide +kernel
theorem dX7_readLaw_32 : decode cX7_readLaw 32 = .ok (.aload_n 0, 1) := by decide +kernel
theorem dX7_readLaw_33 : decode cX7_readLaw 33 = .ok (.getfield 22, 3) := by decide +kernel
theorem dX7_readLaw_36 : decode cX7_readLaw 36 = .ok (.iload_n 2, 1) := by decide +kernel
theorem dX7_readLaw_37 : decode cX7_readLaw 37 = .ok (.putfield 226, 3) := by decide +kernel
theorem dX7_readLaw_40 : decode cX7_readLaw 40 = .ok (.aload_n 0, 1) := by decide +kernel
theorem dX7_readLaw_41 : decode cX7_readLaw 41 = .ok (.getfield 22, 3) := by decide +kernel
theorem dX7_readLaw_44 : decode cX7_readLaw 44 = .ok (.aload_n 0, 1) := by decide +kernel
theorem dX7_readLaw_45 : decode cX7_readLaw 45 = .ok (.getfield 22, 3) := by decide +kernel
theorem dX7_readLaw_48 : decode cX7_readLaw 48 = .ok (.getfield 216, 3) := by decide +kernel
theorem dX7_readLaw_51 : decode cX7_readLaw 51 = .ok (.putfield 229, 3) := by decide +kernel
theorem dX7_readLaw_54 : decode cX7_readLaw 54 = .ok (.goto 25, 3) := by decide +kernel
theorem dX7_readLaw_57 : decode cX7_readLaw 57 = .ok (.aload_n 0, 1) := by decide +kernel
theorem dX7_readLaw_58 : decode cX7_readLaw 58 = .ok (.getfield 22, 3) := by decide +kernel
theorem dX7_readLaw_61 : decode cX7_readLaw 61 = .ok (.iload_n 2, 1) := by decide +kernel
theorem dX7_readLaw_62 : decode cX7_readLaw 62 = .ok (.putfield 232, 3) := by decide +kernel
theorem dX7_readLaw_65 : decode cX7_readLaw 65 = .ok (.aload_n 0, 1) := by decide +kernel
theorem dX7_readLaw_66 : decode cX7_readLaw 66 = .ok (.getfield 22, 3) := by decide +kernel
theorem dX7_readLaw_69 : decode cX7_readLaw 69 = .ok (.aload_n 0, 1) := by decide +kernel
theorem dX7_readLaw_70 : decode cX7_readLaw 70 = .ok (.getfield 22, 3) := by decide +kernel
theorem dX7_readLaw_73 : decode cX7_readLaw 73 = .ok (.getfield 216, 3) := by decide +kernel
theorem dX7_readLaw_76 : decode cX7_readLaw 76 = .ok (.putfield 235, 3) := by decide +kernel
theorem dX7_readLaw_79 : decode cX7_readLaw 79 = .ok (.return_, 1) := by decide +kernel
theorem dX7_readSum_0 : decode cX7_readSum 0 = .ok (.aload_n 0, 1) := by decide +kernel
theorem dX7_readSum_1 : decode cX7_readSum 1 = .ok (.iload_n 1, 1) := by decide +kernel
theorem dX7_readSum_2 : decode cX7_readSum 2 = .ok (.invokevirtual 238, 3) := by decide +kernel
