theorem dX12_stores_0 : decode cX12_stores 0 = .ok (.iconst 0, 1) := by decide +kernel
theorem dX12_stores_1 : decode cX12_stores 1 = .ok (.istore_n 1, 1) := by decide +kernel
theorem dX12_stores_2 : decode cX12_stores 2 = .ok (.iload_n 1, 1) := by decide +kernel
theorem dX12_stores_3 : decode cX12_stores 3 = .ok (.bipush 41, 2) := by decide +kernel
theorem dX12_stores_5 : decode cX12_stores 5 = .ok (.if_icmp .ge 24, 3) := by decide +kernel
theorem dX12_stores_8 : decode cX12_stores 8 = .ok (.aload_n 0, 1) := by decide +kernel
theorem dX12_stores_9 : decode cX12_stores 9 = .ok (.getfield 42, 3) := by decide +kernel
theorem dX12_stores_12 : decode cX12_stores 12 = .ok (.iload_n 1, 1) := by decide +kernel
theorem dX12_stores_13 : decode cX12_stores 13 = .ok (.aload_n 0, 1) := by decide +kernel
theorem dX12_stores_14 : decode cX12_stores 14 = .ok (.getfield 13, 3) := by decide +kernel
theorem dX12_stores_17 : decode cX12_stores 17 = .ok (.bipush 67, 2) := by decide +kernel
theorem dX12_stores_19 : decode cX12_stores 19 = .ok (.iload_n 1, 1) := by decide +kernel
theorem dX12_stores_20 : decode cX12_stores 20 = .ok (.iadd, 1) := by decide +kernel
theorem dX12_stores_21 : decode cX12_stores 21 = .ok (.iaload, 1) := by decide +kernel
theorem dX12_stores_22 : decode cX12_stores 22 = .ok (.iastore, 1) := by decide +kernel
theorem dX12_stores_23 : decode cX12_stores 23 = .ok (.iinc 1 1, 3) := by decide +kernel
theorem dX12_stores_26 : decode cX12_stores 26 = .ok (.goto (-24), 3) := by decide +kernel
theorem dX12_stores_29 : decode cX12_stores 29 = .ok (.return_, 1) := by decide +kernel
theorem dX12_isAgain_0 : decode cX12_isAgain 0 = .ok (.iconst 0, 1) := by decide +kernel
theorem dX12_isAgain_1 : decode cX12_isAgain 1 = .ok (.istore_n 1, 1) := by decide +kernel
theorem dX12_isAgain_2 : decode cX12_isAgain 2 = .ok (.iload_n 1, 1) := by decide +kernel
theorem dX12_isAgain_3 : decode cX12_isAgain 3 = .ok (.bipush 41, 2) := by decide +kernel
theorem dX12_isAgain_5 : decode cX12_isAgain 5 = .ok (.if_icmp .ge 24, 3) := by decide +kernel
theorem dX12_isAgain_8 : decode cX12_isAgain 8 = .ok (.aload_n 0, 1) := by decide +kernel
theorem dX12_isAgain_9 : decode cX12_isAgain 9 = .ok (.getfield 13, 3) := by decide +kernel
theorem dX12_isAgain_12 : decode cX12_isAgain 12 = .ok (.bipush 67, 2) := by decide +kernel
theorem dX12_isAgain_14 : decode cX12_isAgain 14 = .ok (.iload_n 1, 1) := by decide +kernel
theorem dX12_isAgain_15 : decode cX12_isAgain 15 = .ok (.iadd, 1) := by decide +kernel
theorem dX12_isAgain_16 : decode cX12_isAgain 16 = .ok (.aload_n 0, 1) := by decide +kernel
theorem dX12_isAgain_17 : decode cX12_isAgain 17 = .ok (.getfield 42, 3) := by decide +kernel
theorem dX12_isAgain_20 : decode cX12_isAgain 20 = .ok (.iload_n 1, 1) := by decide +kernel
theorem dX12_isAgain_21 : decode cX12_isAgain 21 = .ok (.iaload, 1) := by decide +kernel
theorem dX12_isAgain_22 : decode cX12_isAgain 22 = .ok (.iastore, 1) := by decide +kernel
theorem dX12_isAgain_23 : decode cX12_isAgain 23 = .ok (.iinc 1 1, 3) := by decide +kernel
theorem dX12_isAgain_26 : decode cX12_isAgain 26 = .ok (.goto (-24), 3) := by decide +kernel
theorem dX12_isAgain_29 : decode cX12_isAgain 29 = .ok (.return_, 1) := by decide +kernel
theorem dX12_notes_0 : decode cX12_notes 0 = .ok (.aload_n 0, 1) := by decide +kernel
theorem dX12_notes_1 : decode cX12_notes 1 = .ok (.getfield 13, 3) := by decide +kernel
theorem dX12_notes_4 : decode cX12_notes 4 = .ok (.bipush 108, 2) := by decide +kernel
theorem dX12_notes_6 : decode cX12_notes 6 = .ok (.iaload, 1) := by decide +kernel
theorem dX12_notes_7 : decode cX12_notes 7 = .ok (.bipush 10, 2) := by decide +kernel
theorem dX12_notes_9 : decode cX12_notes 9 = .ok (.if_icmp .ne 48, 3) := by decide +kernel
theorem dX12_notes_12 : decode cX12_notes 12 = .ok (.iconst 0, 1) := by decide +kernel
theorem dX12_notes_13 : decode cX12_notes 13 = .ok (.istore_n 1, 1) := by decide +kernel
theorem dX12_notes_14 : decode cX12_notes 14 = .ok (.iload_n 1, 1) := by decide +kernel
theorem dX12_notes_15 : decode cX12_notes 15 = .ok (.sipush 369, 3) := by decide +kernel
theorem dX12_notes_18 : decode cX12_notes 18 = .ok (.if_icmp .ge 28, 3) := by decide +kernel
theorem dX12_notes_21 : decode cX12_notes 21 = .ok (.aload_n 0, 1) := by decide +kernel
theorem dX12_notes_22 : decode cX12_notes 22 = .ok (.getfield 13, 3) := by decide +kernel
theorem dX12_notes_25 : decode cX12_notes 25 = .ok (.bipush 109, 2) := by decide +kernel
theorem dX12_notes_27 : decode cX12_notes 27 = .ok (.iload_n 1, 1) := by decide +kernel
theorem dX12_notes_28 : decode cX12_notes 28 = .ok (.iadd, 1) := by decide +kernel
theorem dX12_notes_29 : decode cX12_notes 29 = .ok (.aload_n 0, 1) := by decide +kernel
theorem dX12_notes_30 : decode cX12_notes 30 = .ok (.getfield 13, 3) := by decide +kernel
theorem dX12_notes_33 : decode cX12_notes 33 = .ok (.sipush 150, 3) := by decide +kernel
theorem dX12_notes_36 : decode cX12_notes 36 = .ok (.iload_n 1, 1) := by decide +kernel
theorem dX12_notes_37 : decode cX12_notes 37 = .ok (.iadd, 1) := by decide +kernel
theorem dX12_notes_38 : decode cX12_notes 38 = .ok (.iaload, 1) := by decide +kernel
theorem dX12_notes_39 : decode cX12_notes 39 = .ok (.iastore, 1) := by decide +kernel
theorem dX12_notes_40 : decode cX12_notes 40 = .ok (.iinc 1 1, 3) := by decide +kernel
theorem dX12_notes_43 : decode cX12_notes 43 = .ok (.goto (-29), 3) := by decide +kernel
theorem dX12_notes_46 : decode cX12_notes 46 = .ok (.aload_n 0, 1) := by decide +kernel
theorem dX12_notes_47 : decode cX12_notes 47 = .ok (.getfield 13, 3) := by decide +kernel
theorem dX12_notes_50 : decode cX12_notes 50 = .ok (.bipush 108, 2) := by decide +kernel
theorem dX12_notes_52 : decode cX12_notes 52 = .ok (.dup2, 1) := by decide +kernel
theorem dX12_notes_53 : decode cX12_notes 53 = .ok (.iaload, 1) := by decide +kernel
theorem dX12_notes_54 : decode cX12_notes 54 = .ok (.iconst 1, 1) := by decide +kernel
theorem dX12_notes_55 : decode cX12_notes 55 = .ok (.isub, 1) := by decide +kernel
theorem dX12_notes_56 : decode cX12_notes 56 = .ok (.iastore, 1) := by decide +kernel
theorem dX12_notes_57 : decode cX12_notes 57 = .ok (.iconst 0, 1) := by decide +kernel
theorem dX12_notes_58 : decode cX12_notes 58 = .ok (.istore_n 1, 1) := by decide +kernel
theorem dX12_notes_59 : decode cX12_notes 59 = .ok (.iload_n 1, 1) := by decide +kernel
theorem dX12_notes_60 : decode cX12_notes 60 = .ok (.bipush 41, 2) := by decide +kernel
theorem dX12_notes_62 : decode cX12_notes 62 = .ok (.if_icmp .ge 35, 3) := by decide +kernel
theorem dX12_notes_65 : decode cX12_notes 65 = .ok (.aload_n 0, 1) := by decide +kernel
theorem dX12_notes_66 : decode cX12_notes 66 = .ok (.getfield 13, 3) := by decide +kernel
theorem dX12_notes_69 : decode cX12_notes 69 = .ok (.bipush 109, 2) := by decide +kernel
theorem dX12_notes_71 : decode cX12_notes 71 = .ok (.bipush 41, 2) := by decide +kernel
theorem dX12_notes_73 : decode cX12_notes 73 = .ok (.aload_n 0, 1) := by decide +kernel
theorem dX12_notes_74 : decode cX12_notes 74 = .ok (.getfield 13, 3) := by decide +kernel
theorem dX12_notes_77 : decode cX12_notes 77 = .ok (.bipush 108, 2) := by decide +kernel
theorem dX12_notes_79 : decode cX12_notes 79 = .ok (.iaload, 1) := by decide +kernel
theorem dX12_notes_80 : decode cX12_notes 80 = .ok (.imul, 1) := by decide +kernel
theorem dX12_notes_81 : decode cX12_notes 81 = .ok (.iadd, 1) := by decide +kernel
theorem dX12_notes_82 : decode cX12_notes 82 = .ok (.iload_n 1, 1) := by decide +kernel
theorem dX12_notes_83 : decode cX12_notes 83 = .ok (.iadd, 1) := by decide +kernel
theorem dX12_notes_84 : decode cX12_notes 84 = .ok (.aload_n 0, 1) := by decide +kernel
theorem dX12_notes_85 : decode cX12_notes 85 = .ok (.getfield 42, 3) := by decide +kernel
theorem dX12_notes_88 : decode cX12_notes 88 = .ok (.iload_n 1, 1) := by decide +kernel
theorem dX12_notes_89 : decode cX12_notes 89 = .ok (.iaload, 1) := by decide +kernel
theorem dX12_notes_90 : decode cX12_notes 90 = .ok (.iastore, 1) := by decide +kernel
theorem dX12_notes_91 : decode cX12_notes 91 = .ok (.iinc 1 1, 3) := by decide +kernel
theorem dX12_notes_94 : decode cX12_notes 94 = .ok (.goto (-35), 3) := by decide +kernel
theorem dX12_notes_97 : decode cX12_notes 97 = .ok (.aload_n 0, 1) := by decide +kernel
theorem dX12_notes_98 : decode cX12_notes 98 = .ok (.getfield 13, 3) := by decide +kernel
theorem dX12_notes_101 : decode cX12_notes 101 = .ok (.bipush 108, 2) := by decide +kernel
theorem dX12_notes_103 : decode cX12_notes 103 = .ok (.dup2, 1) := by decide +kernel
theorem dX12_notes_104 : decode cX12_notes 104 = .ok (.iaload, 1) := by decide +kernel
theorem dX12_notes_105 : decode cX12_notes 105 = .ok (.iconst 1, 1) := by decide +kernel
theorem dX12_notes_106 : decode cX12_notes 106 = .ok (.iadd, 1) := by decide +kernel
theorem dX12_notes_107 : decode cX12_notes 107 = .ok (.iastore, 1) := by decide +kernel
theorem dX12_notes_108 : decode cX12_notes 108 = .ok (.return_, 1) := by decide +kernel
theorem dX12_goesMinutes_0 : decode cX12_goesMinutes 0 = .ok (.aload_n 0, 1) := by decide +kernel
theorem dX12_goesMinutes_1 : decode cX12_goesMinutes 1 = .ok (.iload_n 1, 1) := by decide +kernel
theorem dX12_goesMinutes_2 : decode cX12_goesMinutes 2 = .ok (.invokevirtual 287, 3) := by decide +kernel
theorem dX12_goesMinutes_5 : decode cX12_goesMinutes 5 = .ok (.iconst 0, 1) := by decide +kernel
theorem dX12_goesMinutes_6 : decode cX12_goesMinutes 6 = .ok (.istore_n 2, 1) := by decide +kernel
theorem dX12_goesMinutes_7 : decode cX12_goesMinutes 7 = .ok (.iload_n 2, 1) := by decide +kernel
theorem dX12_goesMinutes_8 : decode cX12_goesMinutes 8 = .ok (.bipush 25, 2) := by decide +kernel
theorem dX12_goesMinutes_10 : decode cX12_goesMinutes 10 = .ok (.if_icmp .ge 24, 3) := by decide +kernel
theorem dX12_goesMinutes_13 : decode cX12_goesMinutes 13 = .ok (.aload_n 0, 1) := by decide +kernel
theorem dX12_goesMinutes_14 : decode cX12_goesMinutes 14 = .ok (.getfield 13, 3) := by decide +kernel
theorem dX12_goesMinutes_17 : decode cX12_goesMinutes 17 = .ok (.bipush 67, 2) := by decide +kernel
theorem dX12_goesMinutes_19 : decode cX12_goesMinutes 19 = .ok (.iload_n 2, 1) := by decide +kernel
theorem dX12_goesMinutes_20 : decode cX12_goesMinutes 20 = .ok (.iadd, 1) := by decide +kernel
theorem dX12_goesMinutes_21 : decode cX12_goesMinutes 21 = .ok (.aload_n 0, 1) := by decide +kernel
theorem dX12_goesMinutes_22 : decode cX12_goesMinutes 22 = .ok (.getfield 36, 3) := by decide +kernel
theorem dX12_goesMinutes_25 : decode cX12_goesMinutes 25 = .ok (.iload_n 2, 1) := by decide +kernel
theorem dX12_goesMinutes_26 : decode cX12_goesMinutes 26 = .ok (.iaload, 1) := by decide +kernel
theorem dX12_goesMinutes_27 : decode cX12_goesMinutes 27 = .ok (.iastore, 1) := by decide +kernel
theorem dX12_goesMinutes_28 : decode cX12_goesMinutes 28 = .ok (.iinc 2 1, 3) := by decide +kernel
theorem dX12_goesMinutes_31 : decode cX12_goesMinutes 31 = .ok (.goto (-24), 3) := by decide +kernel
theorem dX12_goesMinutes_34 : decode cX12_goesMinutes 34 = .ok (.aload_n 0, 1) := by decide +kernel
theorem dX12_goesMinutes_35 : decode cX12_goesMinutes 35 = .ok (.getfield 13, 3) := by decide +kernel
theorem dX12_goesMinutes_38 : decode cX12_goesMinutes 38 = .ok (.bipush 105, 2) := by decide +kernel
theorem dX12_goesMinutes_40 : decode cX12_goesMinutes 40 = .ok (.aload_n 0, 1) := by decide +kernel
theorem dX12_goesMinutes_41 : decode cX12_goesMinutes 41 = .ok (.getfield 247, 3) := by decide +kernel
theorem dX12_goesMinutes_44 : decode cX12_goesMinutes 44 = .ok (.iastore, 1) := by decide +kernel
theorem dX12_goesMinutes_45 : decode cX12_goesMinutes 45 = .ok (.aload_n 0, 1) := by decide +kernel
theorem dX12_goesMinutes_46 : decode cX12_goesMinutes 46 = .ok (.getfield 13, 3) := by decide +kernel
theorem dX12_goesMinutes_49 : decode cX12_goesMinutes 49 = .ok (.bipush 107, 2) := by decide +kernel
theorem dX12_goesMinutes_51 : decode cX12_goesMinutes 51 = .ok (.aload_n 0, 1) := by decide +kernel
theorem dX12_goesMinutes_52 : decode cX12_goesMinutes 52 = .ok (.getfield 250, 3) := by decide +kernel
theorem dX12_goesMinutes_55 : decode cX12_goesMinutes 55 = .ok (.iastore, 1) := by decide +kernel
theorem dX12_goesMinutes_56 : decode cX12_goesMinutes 56 = .ok (.return_, 1) := by decide +kernel
theorem dX12_minutes_0 : decode cX12_minutes 0 = .ok (.aload_n 0, 1) := by decide +kernel
theorem dX12_minutes_1 : decode cX12_minutes 1 = .ok (.iconst 0, 1) := by decide +kernel
theorem dX12_minutes_2 : decode cX12_minutes 2 = .ok (.putfield 1, 3) := by decide +kernel
theorem dX12_minutes_5 : decode cX12_minutes 5 = .ok (.iload_n 1, 1) := by decide +kernel
theorem dX12_minutes_6 : decode cX12_minutes 6 = .ok (.i2l, 1) := by decide +kernel
theorem dX12_minutes_7 : decode cX12_minutes 7 = .ok (.lconst 1, 1) := by decide +kernel
theorem dX12_minutes_8 : decode cX12_minutes 8 = .ok (.ldc2_w 290, 3) := by decide +kernel
theorem dX12_minutes_11 : decode cX12_minutes 11 = .ok (.invokestatic 145, 3) := by decide +kernel
theorem dX12_minutes_14 : decode cX12_minutes 14 = .ok (.ifCond .ne 6, 3) := by decide +kernel
theorem dX12_minutes_17 : decode cX12_minutes 17 = .ok (.bipush (-3), 2) := by decide +kernel
theorem dX12_minutes_19 : decode cX12_minutes 19 = .ok (.ireturn, 1) := by decide +kernel
theorem dX12_minutes_20 : decode cX12_minutes 20 = .ok (.aload_n 0, 1) := by decide +kernel
theorem dX12_minutes_21 : decode cX12_minutes 21 = .ok (.invokevirtual 292, 3) := by decide +kernel
theorem dX12_minutes_24 : decode cX12_minutes 24 = .ok (.aload_n 0, 1) := by decide +kernel
theorem dX12_minutes_25 : decode cX12_minutes 25 = .ok (.iload_n 1, 1) := by decide +kernel
theorem dX12_minutes_26 : decode cX12_minutes 26 = .ok (.invokevirtual 295, 3) := by decide +kernel
theorem dX12_minutes_29 : decode cX12_minutes 29 = .ok (.aload_n 0, 1) := by decide +kernel
theorem dX12_minutes_30 : decode cX12_minutes 30 = .ok (.invokevirtual 298, 3) := by decide +kernel
theorem dX12_minutes_33 : decode cX12_minutes 33 = .ok (.aload_n 0, 1) := by decide +kernel
theorem dX12_minutes_34 : decode cX12_minutes 34 = .ok (.invokevirtual 301, 3) := by decide +kernel
theorem dX12_minutes_37 : decode cX12_minutes 37 = .ok (.invokestatic 260, 3) := by decide +kernel
theorem dX12_minutes_40 : decode cX12_minutes 40 = .ok (.ireturn, 1) := by decide +kernel
theorem dX12_whySand_0 : decode cX12_whySand 0 = .ok (.aload_n 0, 1) := by decide +kernel
theorem dX12_whySand_1 : decode cX12_whySand 1 = .ok (.lload_n 1, 1) := by decide +kernel
theorem dX12_whySand_2 : decode cX12_whySand 2 = .ok (.invokevirtual 230, 3) := by decide +kernel
theorem dX12_whySand_5 : decode cX12_whySand 5 = .ok (.ifCond .ne 5, 3) := by decide +kernel
theorem dX12_whySand_8 : decode cX12_whySand 8 = .ok (.iconst 1, 1) := by decide +kernel
theorem dX12_whySand_9 : decode cX12_whySand 9 = .ok (.ireturn, 1) := by decide +kernel
theorem dX12_whySand_10 : decode cX12_whySand 10 = .ok (.aload_n 0, 1) := by decide +kernel
theorem dX12_whySand_11 : decode cX12_whySand 11 = .ok (.getfield 13, 3) := by decide +kernel
theorem dX12_whySand_14 : decode cX12_whySand 14 = .ok (.bipush 67, 2) := by decide +kernel
theorem dX12_whySand_16 : decode cX12_whySand 16 = .ok (.lload_n 1, 1) := by decide +kernel
theorem dX12_whySand_17 : decode cX12_whySand 17 = .ok (.l2i, 1) := by decide +kernel
theorem dX12_whySand_18 : decode cX12_whySand 18 = .ok (.iadd, 1) := by decide +kernel
theorem dX12_whySand_19 : decode cX12_whySand 19 = .ok (.iaload, 1) := by decide +kernel
theorem dX12_whySand_20 : decode cX12_whySand 20 = .ok (.iload_n 3, 1) := by decide +kernel
theorem dX12_whySand_21 : decode cX12_whySand 21 = .ok (.ifCond .le 8, 3) := by decide +kernel
theorem dX12_whySand_24 : decode cX12_whySand 24 = .ok (.bipush 9, 2) := by decide +kernel
theorem dX12_whySand_26 : decode cX12_whySand 26 = .ok (.goto 4, 3) := by decide +kernel
theorem dX12_whySand_29 : decode cX12_whySand 29 = .ok (.iconst 0, 1) := by decide +kernel
theorem dX12_whySand_30 : decode cX12_whySand 30 = .ok (.if_icmp .ne 7, 3) := by decide +kernel
theorem dX12_whySand_33 : decode cX12_whySand 33 = .ok (.iconst 2, 1) := by decide +kernel
theorem dX12_whySand_34 : decode cX12_whySand 34 = .ok (.goto 4, 3) := by decide +kernel
theorem dX12_whySand_37 : decode cX12_whySand 37 = .ok (.iconst 0, 1) := by decide +kernel
theorem dX12_whySand_38 : decode cX12_whySand 38 = .ok (.ireturn, 1) := by decide +kernel
theorem dX12_heaps_0 : decode cX12_heaps 0 = .ok (.aload_n 0, 1) := by decide +kernel
theorem dX12_heaps_1 : decode cX12_heaps 1 = .ok (.iload_n 1, 1) := by decide +kernel
theorem dX12_heaps_2 : decode cX12_heaps 2 = .ok (.i2l, 1) := by decide +kernel
theorem dX12_heaps_3 : decode cX12_heaps 3 = .ok (.iload_n 2, 1) := by decide +kernel
theorem dX12_heaps_4 : decode cX12_heaps 4 = .ok (.invokevirtual 304, 3) := by decide +kernel
theorem dX12_heaps_7 : decode cX12_heaps 7 = .ok (.istore_n 3, 1) := by decide +kernel
theorem dX12_heaps_8 : decode cX12_heaps 8 = .ok (.iload_n 3, 1) := by decide +kernel
theorem dX12_heaps_9 : decode cX12_heaps 9 = .ok (.ifCond .eq 8, 3) := by decide +kernel
theorem dX12_heaps_12 : decode cX12_heaps 12 = .ok (.bipush (-10), 2) := by decide +kernel
theorem dX12_heaps_14 : decode cX12_heaps 14 = .ok (.iload_n 3, 1) := by decide +kernel
theorem dX12_heaps_15 : decode cX12_heaps 15 = .ok (.isub, 1) := by decide +kernel
theorem dX12_heaps_16 : decode cX12_heaps 16 = .ok (.ireturn, 1) := by decide +kernel
theorem dX12_heaps_17 : decode cX12_heaps 17 = .ok (.aload_n 0, 1) := by decide +kernel
theorem dX12_heaps_18 : decode cX12_heaps 18 = .ok (.invokevirtual 292, 3) := by decide +kernel
theorem dX12_heaps_21 : decode cX12_heaps 21 = .ok (.aload_n 0, 1) := by decide +kernel
theorem dX12_heaps_22 : decode cX12_heaps 22 = .ok (.getfield 13, 3) := by decide +kernel
theorem dX12_heaps_25 : decode cX12_heaps 25 = .ok (.bipush 67, 2) := by decide +kernel
theorem dX12_heaps_27 : decode cX12_heaps 27 = .ok (.iload_n 1, 1) := by decide +kernel
theorem dX12_heaps_28 : decode cX12_heaps 28 = .ok (.iadd, 1) := by decide +kernel
theorem dX12_heaps_29 : decode cX12_heaps 29 = .ok (.dup2, 1) := by decide +kernel
theorem dX12_heaps_30 : decode cX12_heaps 30 = .ok (.iaload, 1) := by decide +kernel
theorem dX12_heaps_31 : decode cX12_heaps 31 = .ok (.iload_n 2, 1) := by decide +kernel
theorem dX12_heaps_32 : decode cX12_heaps 32 = .ok (.iadd, 1) := by decide +kernel
theorem dX12_heaps_33 : decode cX12_heaps 33 = .ok (.iastore, 1) := by decide +kernel
theorem dX12_heaps_34 : decode cX12_heaps 34 = .ok (.aload_n 0, 1) := by decide +kernel
theorem dX12_heaps_35 : decode cX12_heaps 35 = .ok (.invokevirtual 298, 3) := by decide +kernel
theorem dX12_heaps_38 : decode cX12_heaps 38 = .ok (.aload_n 0, 1) := by decide +kernel
theorem dX12_heaps_39 : decode cX12_heaps 39 = .ok (.getfield 13, 3) := by decide +kernel
theorem dX12_heaps_42 : decode cX12_heaps 42 = .ok (.bipush 67, 2) := by decide +kernel
theorem dX12_heaps_44 : decode cX12_heaps 44 = .ok (.iload_n 1, 1) := by decide +kernel
theorem dX12_heaps_45 : decode cX12_heaps 45 = .ok (.iadd, 1) := by decide +kernel
theorem dX12_heaps_46 : decode cX12_heaps 46 = .ok (.iaload, 1) := by decide +kernel
theorem dX12_heaps_47 : decode cX12_heaps 47 = .ok (.ireturn, 1) := by decide +kernel
theorem dX12_raise_0 : decode cX12_raise 0 = .ok (.aload_n 0, 1) := by decide +kernel
theorem dX12_raise_1 : decode cX12_raise 1 = .ok (.iconst 0, 1) := by decide +kernel
theorem dX12_raise_2 : decode cX12_raise 2 = .ok (.putfield 1, 3) := by decide +kernel
theorem dX12_raise_5 : decode cX12_raise 5 = .ok (.aload_n 0, 1) := by decide +kernel
theorem dX12_raise_6 : decode cX12_raise 6 = .ok (.iload_n 1, 1) := by decide +kernel
theorem dX12_raise_7 : decode cX12_raise 7 = .ok (.iconst 1, 1) := by decide +kernel
theorem dX12_raise_8 : decode cX12_raise 8 = .ok (.invokevirtual 308, 3) := by decide +kernel
theorem dX12_raise_11 : decode cX12_raise 11 = .ok (.ireturn, 1) := by decide +kernel
theorem dX12_dig_0 : decode cX12_dig 0 = .ok (.aload_n 0, 1) := by decide +kernel
theorem dX12_dig_1 : decode cX12_dig 1 = .ok (.iconst 0, 1) := by decide +kernel
theorem dX12_dig_2 : decode cX12_dig 2 = .ok (.putfield 1, 3) := by decide +kernel
theorem dX12_dig_5 : decode cX12_dig 5 = .ok (.aload_n 0, 1) := by decide +kernel
theorem dX12_dig_6 : decode cX12_dig 6 = .ok (.iload_n 1, 1) := by decide +kernel
theorem dX12_dig_7 : decode cX12_dig 7 = .ok (.iconst (-1), 1) := by decide +kernel
theorem dX12_dig_8 : decode cX12_dig 8 = .ok (.invokevirtual 308, 3) := by decide +kernel
theorem dX12_dig_11 : decode cX12_dig 11 = .ok (.ireturn, 1) := by decide +kernel
theorem dX12_isHeld_0 : decode cX12_isHeld 0 = .ok (.iconst 0, 1) := by decide +kernel
theorem dX12_isHeld_1 : decode cX12_isHeld 1 = .ok (.istore_n 2, 1) := by decide +kernel
theorem dX12_isHeld_2 : decode cX12_isHeld 2 = .ok (.iload_n 2, 1) := by decide +kernel
theorem dX12_isHeld_3 : decode cX12_isHeld 3 = .ok (.aload_n 0, 1) := by decide +kernel
theorem dX12_isHeld_4 : decode cX12_isHeld 4 = .ok (.getfield 13, 3) := by decide +kernel
theorem dX12_isHeld_7 : decode cX12_isHeld 7 = .ok (.bipush 92, 2) := by decide +kernel
theorem dX12_isHeld_9 : decode cX12_isHeld 9 = .ok (.iaload, 1) := by decide +kernel
theorem dX12_isHeld_10 : decode cX12_isHeld 10 = .ok (.if_icmp .ge 41, 3) := by decide +kernel
theorem dX12_isHeld_13 : decode cX12_isHeld 13 = .ok (.aload_n 0, 1) := by decide +kernel
theorem dX12_isHeld_14 : decode cX12_isHeld 14 = .ok (.getfield 13, 3) := by decide +kernel
theorem dX12_isHeld_17 : decode cX12_isHeld 17 = .ok (.bipush 93, 2) := by decide +kernel
theorem dX12_isHeld_19 : decode cX12_isHeld 19 = .ok (.iconst 2, 1) := by decide +kernel
theorem dX12_isHeld_20 : decode cX12_isHeld 20 = .ok (.iload_n 2, 1) := by decide +kernel
theorem dX12_isHeld_21 : decode cX12_isHeld 21 = .ok (.imul, 1) := by decide +kernel
theorem dX12_isHeld_22 : decode cX12_isHeld 22 = .ok (.iadd, 1) := by decide +kernel
theorem dX12_isHeld_23 : decode cX12_isHeld 23 = .ok (.iaload, 1) := by decide +kernel
theorem dX12_isHeld_24 : decode cX12_isHeld 24 = .ok (.iload_n 1, 1) := by decide +kernel
theorem dX12_isHeld_25 : decode cX12_isHeld 25 = .ok (.if_icmp .ne 20, 3) := by decide +kernel
theorem dX12_isHeld_28 : decode cX12_isHeld 28 = .ok (.aload_n 0, 1) := by decide +kernel
theorem dX12_isHeld_29 : decode cX12_isHeld 29 = .ok (.getfield 13, 3) := by decide +kernel
theorem dX12_isHeld_32 : decode cX12_isHeld 32 = .ok (.bipush 105, 2) := by decide +kernel
theorem dX12_isHeld_34 : decode cX12_isHeld 34 = .ok (.iaload, 1) := by decide +kernel
theorem dX12_isHeld_35 : decode cX12_isHeld 35 = .ok (.i2l, 1) := by decide +kernel
theorem dX12_isHeld_36 : decode cX12_isHeld 36 = .ok (.iload_n 2, 1) := by decide +kernel
theorem dX12_isHeld_37 : decode cX12_isHeld 37 = .ok (.invokestatic 253, 3) := by decide +kernel
theorem dX12_isHeld_40 : decode cX12_isHeld 40 = .ok (.ifCond .ne 5, 3) := by decide +kernel
theorem dX12_isHeld_43 : decode cX12_isHeld 43 = .ok (.iconst 1, 1) := by decide +kernel
theorem dX12_isHeld_44 : decode cX12_isHeld 44 = .ok (.ireturn, 1) := by decide +kernel
theorem dX12_isHeld_45 : decode cX12_isHeld 45 = .ok (.iinc 2 1, 3) := by decide +kernel
theorem dX12_isHeld_48 : decode cX12_isHeld 48 = .ok (.goto (-46), 3) := by decide +kernel
theorem dX12_isHeld_51 : decode cX12_isHeld 51 = .ok (.iconst 0, 1) := by decide +kernel
theorem dX12_isHeld_52 : decode cX12_isHeld 52 = .ok (.ireturn, 1) := by decide +kernel
theorem dX12_whyBuild_0 : decode cX12_whyBuild 0 = .ok (.aload_n 0, 1) := by decide +kernel
theorem dX12_whyBuild_1 : decode cX12_whyBuild 1 = .ok (.lload_n 1, 1) := by decide +kernel
theorem dX12_whyBuild_2 : decode cX12_whyBuild 2 = .ok (.invokevirtual 230, 3) := by decide +kernel
theorem dX12_whyBuild_5 : decode cX12_whyBuild 5 = .ok (.ifCond .eq 14, 3) := by decide +kernel
theorem dX12_whyBuild_8 : decode cX12_whyBuild 8 = .ok (.lload_n 3, 1) := by decide +kernel
theorem dX12_whyBuild_9 : decode cX12_whyBuild 9 = .ok (.lconst 0, 1) := by decide +kernel
theorem dX12_whyBuild_10 : decode cX12_whyBuild 10 = .ok (.ldc2_w 311, 3) := by decide +kernel
theorem dX12_whyBuild_13 : decode cX12_whyBuild 13 = .ok (.invokestatic 145, 3) := by decide +kernel
theorem dX12_whyBuild_16 : decode cX12_whyBuild 16 = .ok (.ifCond .ne 5, 3) := by decide +kernel
theorem dX12_whyBuild_19 : decode cX12_whyBuild 19 = .ok (.iconst 1, 1) := by decide +kernel
theorem dX12_whyBuild_20 : decode cX12_whyBuild 20 = .ok (.ireturn, 1) := by decide +kernel
theorem dX12_whyBuild_21 : decode cX12_whyBuild 21 = .ok (.aload_n 0, 1) := by decide +kernel
theorem dX12_whyBuild_22 : decode cX12_whyBuild 22 = .ok (.getfield 13, 3) := by decide +kernel
theorem dX12_whyBuild_25 : decode cX12_whyBuild 25 = .ok (.bipush 92, 2) := by decide +kernel
theorem dX12_whyBuild_27 : decode cX12_whyBuild 27 = .ok (.iaload, 1) := by decide +kernel
theorem dX12_whyBuild_28 : decode cX12_whyBuild 28 = .ok (.bipush 6, 2) := by decide +kernel
theorem dX12_whyBuild_30 : decode cX12_whyBuild 30 = .ok (.if_icmp .ne 7, 3) := by decide +kernel
theorem dX12_whyBuild_33 : decode cX12_whyBuild 33 = .ok (.iconst 2, 1) := by decide +kernel
theorem dX12_whyBuild_34 : decode cX12_whyBuild 34 = .ok (.goto 17, 3) := by decide +kernel
theorem dX12_whyBuild_37 : decode cX12_whyBuild 37 = .ok (.aload_n 0, 1) := by decide +kernel
theorem dX12_whyBuild_38 : decode cX12_whyBuild 38 = .ok (.lload_n 1, 1) := by decide +kernel
theorem dX12_whyBuild_39 : decode cX12_whyBuild 39 = .ok (.l2i, 1) := by decide +kernel
theorem dX12_whyBuild_40 : decode cX12_whyBuild 40 = .ok (.invokevirtual 313, 3) := by decide +kernel
theorem dX12_whyBuild_43 : decode cX12_whyBuild 43 = .ok (.ifCond .eq 7, 3) := by decide +kernel
theorem dX12_whyBuild_46 : decode cX12_whyBuild 46 = .ok (.iconst 3, 1) := by decide +kernel
theorem dX12_whyBuild_47 : decode cX12_whyBuild 47 = .ok (.goto 4, 3) := by decide +kernel
theorem dX12_whyBuild_50 : decode cX12_whyBuild 50 = .ok (.iconst 0, 1) := by decide +kernel
theorem dX12_whyBuild_51 : decode cX12_whyBuild 51 = .ok (.ireturn, 1) := by decide +kernel
theorem dX12_builds_0 : decode cX12_builds 0 = .ok (.aload_n 0, 1) := by decide +kernel
theorem dX12_builds_1 : decode cX12_builds 1 = .ok (.getfield 13, 3) := by decide +kernel
theorem dX12_builds_4 : decode cX12_builds 4 = .ok (.bipush 92, 2) := by decide +kernel
theorem dX12_builds_6 : decode cX12_builds 6 = .ok (.iaload, 1) := by decide +kernel
theorem dX12_builds_7 : decode cX12_builds 7 = .ok (.istore_n 3, 1) := by decide +kernel
theorem dX12_builds_8 : decode cX12_builds 8 = .ok (.aload_n 0, 1) := by decide +kernel
theorem dX12_builds_9 : decode cX12_builds 9 = .ok (.getfield 13, 3) := by decide +kernel
theorem dX12_builds_12 : decode cX12_builds 12 = .ok (.bipush 93, 2) := by decide +kernel
theorem dX12_builds_14 : decode cX12_builds 14 = .ok (.iconst 2, 1) := by decide +kernel
theorem dX12_builds_15 : decode cX12_builds 15 = .ok (.iload_n 3, 1) := by decide +kernel
theorem dX12_builds_16 : decode cX12_builds 16 = .ok (.imul, 1) := by decide +kernel
theorem dX12_builds_17 : decode cX12_builds 17 = .ok (.iadd, 1) := by decide +kernel
theorem dX12_builds_18 : decode cX12_builds 18 = .ok (.iload_n 1, 1) := by decide +kernel
theorem dX12_builds_19 : decode cX12_builds 19 = .ok (.iastore, 1) := by decide +kernel
theorem dX12_builds_20 : decode cX12_builds 20 = .ok (.aload_n 0, 1) := by decide +kernel
theorem dX12_builds_21 : decode cX12_builds 21 = .ok (.getfield 13, 3) := by decide +kernel
theorem dX12_builds_24 : decode cX12_builds 24 = .ok (.bipush 93, 2) := by decide +kernel
theorem dX12_builds_26 : decode cX12_builds 26 = .ok (.iconst 2, 1) := by decide +kernel
theorem dX12_builds_27 : decode cX12_builds 27 = .ok (.iload_n 3, 1) := by decide +kernel
theorem dX12_builds_28 : decode cX12_builds 28 = .ok (.imul, 1) := by decide +kernel
theorem dX12_builds_29 : decode cX12_builds 29 = .ok (.iadd, 1) := by decide +kernel
theorem dX12_builds_30 : decode cX12_builds 30 = .ok (.iconst 1, 1) := by decide +kernel
theorem dX12_builds_31 : decode cX12_builds 31 = .ok (.iadd, 1) := by decide +kernel
theorem dX12_builds_32 : decode cX12_builds 32 = .ok (.iload_n 2, 1) := by decide +kernel
theorem dX12_builds_33 : decode cX12_builds 33 = .ok (.iastore, 1) := by decide +kernel
theorem dX12_builds_34 : decode cX12_builds 34 = .ok (.aload_n 0, 1) := by decide +kernel
theorem dX12_builds_35 : decode cX12_builds 35 = .ok (.getfield 13, 3) := by decide +kernel
theorem dX12_builds_38 : decode cX12_builds 38 = .ok (.bipush 105, 2) := by decide +kernel
theorem dX12_builds_40 : decode cX12_builds 40 = .ok (.dup2, 1) := by decide +kernel
theorem dX12_builds_41 : decode cX12_builds 41 = .ok (.iaload, 1) := by decide +kernel
theorem dX12_builds_42 : decode cX12_builds 42 = .ok (.iconst 1, 1) := by decide +kernel
theorem dX12_builds_43 : decode cX12_builds 43 = .ok (.iload_n 3, 1) := by decide +kernel
theorem dX12_builds_44 : decode cX12_builds 44 = .ok (.ishl, 1) := by decide +kernel
theorem dX12_builds_45 : decode cX12_builds 45 = .ok (.iconst (-1), 1) := by decide +kernel
theorem dX12_builds_46 : decode cX12_builds 46 = .ok (.ixor, 1) := by decide +kernel
theorem dX12_builds_47 : decode cX12_builds 47 = .ok (.iand, 1) := by decide +kernel
theorem dX12_builds_48 : decode cX12_builds 48 = .ok (.iastore, 1) := by decide +kernel
theorem dX12_builds_49 : decode cX12_builds 49 = .ok (.aload_n 0, 1) := by decide +kernel
theorem dX12_builds_50 : decode cX12_builds 50 = .ok (.getfield 13, 3) := by decide +kernel
theorem dX12_builds_53 : decode cX12_builds 53 = .ok (.bipush 92, 2) := by decide +kernel
theorem dX12_builds_55 : decode cX12_builds 55 = .ok (.dup2, 1) := by decide +kernel
theorem dX12_builds_56 : decode cX12_builds 56 = .ok (.iaload, 1) := by decide +kernel
theorem dX12_builds_57 : decode cX12_builds 57 = .ok (.iconst 1, 1) := by decide +kernel
theorem dX12_builds_58 : decode cX12_builds 58 = .ok (.iadd, 1) := by decide +kernel
theorem dX12_builds_59 : decode cX12_builds 59 = .ok (.iastore, 1) := by decide +kernel
theorem dX12_builds_60 : decode cX12_builds 60 = .ok (.return_, 1) := by decide +kernel
theorem dX12_build_0 : decode cX12_build 0 = .ok (.aload_n 0, 1) := by decide +kernel
theorem dX12_build_1 : decode cX12_build 1 = .ok (.iconst 0, 1) := by decide +kernel
theorem dX12_build_2 : decode cX12_build 2 = .ok (.putfield 1, 3) := by decide +kernel
theorem dX12_build_5 : decode cX12_build 5 = .ok (.aload_n 0, 1) := by decide +kernel
theorem dX12_build_6 : decode cX12_build 6 = .ok (.iload_n 1, 1) := by decide +kernel
theorem dX12_build_7 : decode cX12_build 7 = .ok (.i2l, 1) := by decide +kernel
theorem dX12_build_8 : decode cX12_build 8 = .ok (.iload_n 2, 1) := by decide +kernel
theorem dX12_build_9 : decode cX12_build 9 = .ok (.i2l, 1) := by decide +kernel
theorem dX12_build_10 : decode cX12_build 10 = .ok (.invokevirtual 316, 3) := by decide +kernel
theorem dX12_build_13 : decode cX12_build 13 = .ok (.istore_n 3, 1) := by decide +kernel
theorem dX12_build_14 : decode cX12_build 14 = .ok (.iload_n 3, 1) := by decide +kernel
theorem dX12_build_15 : decode cX12_build 15 = .ok (.ifCond .eq 8, 3) := by decide +kernel
theorem dX12_build_18 : decode cX12_build 18 = .ok (.bipush (-10), 2) := by decide +kernel
theorem dX12_build_20 : decode cX12_build 20 = .ok (.iload_n 3, 1) := by decide +kernel
theorem dX12_build_21 : decode cX12_build 21 = .ok (.isub, 1) := by decide +kernel
theorem dX12_build_22 : decode cX12_build 22 = .ok (.ireturn, 1) := by decide +kernel
theorem dX12_build_23 : decode cX12_build 23 = .ok (.aload_n 0, 1) := by decide +kernel
theorem dX12_build_24 : decode cX12_build 24 = .ok (.invokevirtual 292, 3) := by decide +kernel
theorem dX12_build_27 : decode cX12_build 27 = .ok (.aload_n 0, 1) := by decide +kernel
theorem dX12_build_28 : decode cX12_build 28 = .ok (.iload_n 1, 1) := by decide +kernel
theorem dX12_build_29 : decode cX12_build 29 = .ok (.iload_n 2, 1) := by decide +kernel
theorem dX12_build_30 : decode cX12_build 30 = .ok (.invokevirtual 320, 3) := by decide +kernel
theorem dX12_build_33 : decode cX12_build 33 = .ok (.aload_n 0, 1) := by decide +kernel
theorem dX12_build_34 : decode cX12_build 34 = .ok (.invokevirtual 298, 3) := by decide +kernel
theorem dX12_build_37 : decode cX12_build 37 = .ok (.aload_n 0, 1) := by decide +kernel
theorem dX12_build_38 : decode cX12_build 38 = .ok (.getfield 13, 3) := by decide +kernel
theorem dX12_build_41 : decode cX12_build 41 = .ok (.bipush 92, 2) := by decide +kernel
theorem dX12_build_43 : decode cX12_build 43 = .ok (.iaload, 1) := by decide +kernel
theorem dX12_build_44 : decode cX12_build 44 = .ok (.iconst 1, 1) := by decide +kernel
theorem dX12_build_45 : decode cX12_build 45 = .ok (.isub, 1) := by decide +kernel
theorem dX12_build_46 : decode cX12_build 46 = .ok (.ireturn, 1) := by decide +kernel
theorem dX12_moon_0 : decode cX12_moon 0 = .ok (.aload_n 0, 1) := by decide +kernel
theorem dX12_moon_1 : decode cX12_moon 1 = .ok (.iconst 0, 1) := by decide +kernel
theorem dX12_moon_2 : decode cX12_moon 2 = .ok (.putfield 1, 3) := by decide +kernel
theorem dX12_moon_5 : decode cX12_moon 5 = .ok (.iload_n 1, 1) := by decide +kernel
theorem dX12_moon_6 : decode cX12_moon 6 = .ok (.i2l, 1) := by decide +kernel
theorem dX12_moon_7 : decode cX12_moon 7 = .ok (.lconst 0, 1) := by decide +kernel
theorem dX12_moon_8 : decode cX12_moon 8 = .ok (.ldc2_w 324, 3) := by decide +kernel
theorem dX12_moon_11 : decode cX12_moon 11 = .ok (.invokestatic 145, 3) := by decide +kernel
theorem dX12_moon_14 : decode cX12_moon 14 = .ok (.ifCond .ne 6, 3) := by decide +kernel
theorem dX12_moon_17 : decode cX12_moon 17 = .ok (.bipush (-11), 2) := by decide +kernel
theorem dX12_moon_19 : decode cX12_moon 19 = .ok (.ireturn, 1) := by decide +kernel
theorem dX12_moon_20 : decode cX12_moon 20 = .ok (.aload_n 0, 1) := by decide +kernel
theorem dX12_moon_21 : decode cX12_moon 21 = .ok (.invokevirtual 292, 3) := by decide +kernel
theorem dX12_moon_24 : decode cX12_moon 24 = .ok (.aload_n 0, 1) := by decide +kernel
theorem dX12_moon_25 : decode cX12_moon 25 = .ok (.getfield 13, 3) := by decide +kernel
theorem dX12_moon_28 : decode cX12_moon 28 = .ok (.bipush 106, 2) := by decide +kernel
theorem dX12_moon_30 : decode cX12_moon 30 = .ok (.iload_n 1, 1) := by decide +kernel
theorem dX12_moon_31 : decode cX12_moon 31 = .ok (.iastore, 1) := by decide +kernel
theorem dX12_moon_32 : decode cX12_moon 32 = .ok (.aload_n 0, 1) := by decide +kernel
theorem dX12_moon_33 : decode cX12_moon 33 = .ok (.invokevirtual 298, 3) := by decide +kernel
theorem dX12_moon_36 : decode cX12_moon 36 = .ok (.aload_n 0, 1) := by decide +kernel
theorem dX12_moon_37 : decode cX12_moon 37 = .ok (.getfield 42, 3) := by decide +kernel
theorem dX12_moon_40 : decode cX12_moon 40 = .ok (.bipush 39, 2) := by decide +kernel
theorem dX12_moon_42 : decode cX12_moon 42 = .ok (.iaload, 1) := by decide +kernel
theorem dX12_moon_43 : decode cX12_moon 43 = .ok (.ireturn, 1) := by decide +kernel
theorem dX12_undo_0 : decode cX12_undo 0 = .ok (.aload_n 0, 1) := by decide +kernel
theorem dX12_undo_1 : decode cX12_undo 1 = .ok (.iconst 0, 1) := by decide +kernel
theorem dX12_undo_2 : decode cX12_undo 2 = .ok (.putfield 1, 3) := by decide +kernel
theorem dX12_undo_5 : decode cX12_undo 5 = .ok (.iload_n 1, 1) := by decide +kernel
theorem dX12_undo_6 : decode cX12_undo 6 = .ok (.i2l, 1) := by decide +kernel
theorem dX12_undo_7 : decode cX12_undo 7 = .ok (.lconst 1, 1) := by decide +kernel
theorem dX12_undo_8 : decode cX12_undo 8 = .ok (.ldc2_w 285, 3) := by decide +kernel
theorem dX12_undo_11 : decode cX12_undo 11 = .ok (.invokestatic 145, 3) := by decide +kernel
theorem dX12_undo_14 : decode cX12_undo 14 = .ok (.ifCond .eq 14, 3) := by decide +kernel
theorem dX12_undo_17 : decode cX12_undo 17 = .ok (.iload_n 1, 1) := by decide +kernel
theorem dX12_undo_18 : decode cX12_undo 18 = .ok (.aload_n 0, 1) := by decide +kernel
theorem dX12_undo_19 : decode cX12_undo 19 = .ok (.getfield 13, 3) := by decide +kernel
theorem dX12_undo_22 : decode cX12_undo 22 = .ok (.bipush 108, 2) := by decide +kernel
theorem dX12_undo_24 : decode cX12_undo 24 = .ok (.iaload, 1) := by decide +kernel
theorem dX12_undo_25 : decode cX12_undo 25 = .ok (.if_icmp .le 6, 3) := by decide +kernel
theorem dX12_undo_28 : decode cX12_undo 28 = .ok (.bipush (-3), 2) := by decide +kernel
theorem dX12_undo_30 : decode cX12_undo 30 = .ok (.ireturn, 1) := by decide +kernel
theorem dX12_undo_31 : decode cX12_undo 31 = .ok (.aload_n 0, 1) := by decide +kernel
theorem dX12_undo_32 : decode cX12_undo 32 = .ok (.getfield 13, 3) := by decide +kernel
theorem dX12_undo_35 : decode cX12_undo 35 = .ok (.bipush 108, 2) := by decide +kernel
theorem dX12_undo_37 : decode cX12_undo 37 = .ok (.dup2, 1) := by decide +kernel
theorem dX12_undo_38 : decode cX12_undo 38 = .ok (.iaload, 1) := by decide +kernel
theorem dX12_undo_39 : decode cX12_undo 39 = .ok (.iload_n 1, 1) := by decide +kernel
theorem dX12_undo_40 : decode cX12_undo 40 = .ok (.isub, 1) := by decide +kernel
theorem dX12_undo_41 : decode cX12_undo 41 = .ok (.iastore, 1) := by decide +kernel
theorem dX12_undo_42 : decode cX12_undo 42 = .ok (.iconst 0, 1) := by decide +kernel
theorem dX12_undo_43 : decode cX12_undo 43 = .ok (.istore_n 2, 1) := by decide +kernel
theorem dX12_undo_44 : decode cX12_undo 44 = .ok (.iload_n 2, 1) := by decide +kernel
theorem dX12_undo_45 : decode cX12_undo 45 = .ok (.bipush 41, 2) := by decide +kernel
theorem dX12_undo_47 : decode cX12_undo 47 = .ok (.if_icmp .ge 38, 3) := by decide +kernel
theorem dX12_undo_50 : decode cX12_undo 50 = .ok (.aload_n 0, 1) := by decide +kernel
theorem dX12_undo_51 : decode cX12_undo 51 = .ok (.getfield 13, 3) := by decide +kernel
theorem dX12_undo_54 : decode cX12_undo 54 = .ok (.bipush 67, 2) := by decide +kernel
theorem dX12_undo_56 : decode cX12_undo 56 = .ok (.iload_n 2, 1) := by decide +kernel
theorem dX12_undo_57 : decode cX12_undo 57 = .ok (.iadd, 1) := by decide +kernel
theorem dX12_undo_58 : decode cX12_undo 58 = .ok (.aload_n 0, 1) := by decide +kernel
theorem dX12_undo_59 : decode cX12_undo 59 = .ok (.getfield 13, 3) := by decide +kernel
theorem dX12_undo_62 : decode cX12_undo 62 = .ok (.bipush 109, 2) := by decide +kernel
theorem dX12_undo_64 : decode cX12_undo 64 = .ok (.bipush 41, 2) := by decide +kernel
theorem dX12_undo_66 : decode cX12_undo 66 = .ok (.aload_n 0, 1) := by decide +kernel
theorem dX12_undo_67 : decode cX12_undo 67 = .ok (.getfield 13, 3) := by decide +kernel
theorem dX12_undo_70 : decode cX12_undo 70 = .ok (.bipush 108, 2) := by decide +kernel
theorem dX12_undo_72 : decode cX12_undo 72 = .ok (.iaload, 1) := by decide +kernel
theorem dX12_undo_73 : decode cX12_undo 73 = .ok (.imul, 1) := by decide +kernel
theorem dX12_undo_74 : decode cX12_undo 74 = .ok (.iadd, 1) := by decide +kernel
theorem dX12_undo_75 : decode cX12_undo 75 = .ok (.iload_n 2, 1) := by decide +kernel
theorem dX12_undo_76 : decode cX12_undo 76 = .ok (.iadd, 1) := by decide +kernel
theorem dX12_undo_77 : decode cX12_undo 77 = .ok (.iaload, 1) := by decide +kernel
theorem dX12_undo_78 : decode cX12_undo 78 = .ok (.iastore, 1) := by decide +kernel
theorem dX12_undo_79 : decode cX12_undo 79 = .ok (.iinc 2 1, 3) := by decide +kernel
theorem dX12_undo_82 : decode cX12_undo 82 = .ok (.goto (-38), 3) := by decide +kernel
theorem dX12_undo_85 : decode cX12_undo 85 = .ok (.aload_n 0, 1) := by decide +kernel
theorem dX12_undo_86 : decode cX12_undo 86 = .ok (.getfield 13, 3) := by decide +kernel
theorem dX12_undo_89 : decode cX12_undo 89 = .ok (.bipush 108, 2) := by decide +kernel
theorem dX12_undo_91 : decode cX12_undo 91 = .ok (.iaload, 1) := by decide +kernel
theorem dX12_undo_92 : decode cX12_undo 92 = .ok (.ireturn, 1) := by decide +kernel
theorem dX12_whyNot_0 : decode cX12_whyNot 0 = .ok (.lload_n 1, 1) := by decide +kernel
theorem dX12_whyNot_1 : decode cX12_whyNot 1 = .ok (.lconst 0, 1) := by decide +kernel
theorem dX12_whyNot_2 : decode cX12_whyNot 2 = .ok (.lcmp, 1) := by decide +kernel
theorem dX12_whyNot_3 : decode cX12_whyNot 3 = .ok (.ifCond .eq 16, 3) := by decide +kernel
theorem dX12_whyNot_6 : decode cX12_whyNot 6 = .ok (.lload_n 1, 1) := by decide +kernel
theorem dX12_whyNot_7 : decode cX12_whyNot 7 = .ok (.ldc2_w 285, 3) := by decide +kernel
theorem dX12_whyNot_10 : decode cX12_whyNot 10 = .ok (.ldc2_w 326, 3) := by decide +kernel
theorem dX12_whyNot_13 : decode cX12_whyNot 13 = .ok (.invokestatic 145, 3) := by decide +kernel
theorem dX12_whyNot_16 : decode cX12_whyNot 16 = .ok (.ifCond .eq 5, 3) := by decide +kernel
theorem dX12_whyNot_19 : decode cX12_whyNot 19 = .ok (.iconst 0, 1) := by decide +kernel
theorem dX12_whyNot_20 : decode cX12_whyNot 20 = .ok (.ireturn, 1) := by decide +kernel
theorem dX12_whyNot_21 : decode cX12_whyNot 21 = .ok (.lload_n 1, 1) := by decide +kernel
theorem dX12_whyNot_22 : decode cX12_whyNot 22 = .ok (.ldc2_w 328, 3) := by decide +kernel
theorem dX12_whyNot_25 : decode cX12_whyNot 25 = .ok (.ldc2_w 330, 3) := by decide +kernel
theorem dX12_whyNot_28 : decode cX12_whyNot 28 = .ok (.invokestatic 145, 3) := by decide +kernel
theorem dX12_whyNot_31 : decode cX12_whyNot 31 = .ok (.ifCond .eq 26, 3) := by decide +kernel
theorem dX12_whyNot_34 : decode cX12_whyNot 34 = .ok (.aload_n 0, 1) := by decide +kernel
theorem dX12_whyNot_35 : decode cX12_whyNot 35 = .ok (.lload_n 1, 1) := by decide +kernel
theorem dX12_whyNot_36 : decode cX12_whyNot 36 = .ok (.ldc2_w 328, 3) := by decide +kernel
theorem dX12_whyNot_39 : decode cX12_whyNot 39 = .ok (.lrem, 1) := by decide +kernel
theorem dX12_whyNot_40 : decode cX12_whyNot 40 = .ok (.lload_n 1, 1) := by decide +kernel
theorem dX12_whyNot_41 : decode cX12_whyNot 41 = .ok (.ldc2_w 332, 3) := by decide +kernel
theorem dX12_whyNot_44 : decode cX12_whyNot 44 = .ok (.lcmp, 1) := by decide +kernel
theorem dX12_whyNot_45 : decode cX12_whyNot 45 = .ok (.ifCond .ge 7, 3) := by decide +kernel
theorem dX12_whyNot_48 : decode cX12_whyNot 48 = .ok (.iconst 1, 1) := by decide +kernel
theorem dX12_whyNot_49 : decode cX12_whyNot 49 = .ok (.goto 4, 3) := by decide +kernel
theorem dX12_whyNot_52 : decode cX12_whyNot 52 = .ok (.iconst (-1), 1) := by decide +kernel
theorem dX12_whyNot_53 : decode cX12_whyNot 53 = .ok (.invokevirtual 304, 3) := by decide +kernel
theorem dX12_whyNot_56 : decode cX12_whyNot 56 = .ok (.ireturn, 1) := by decide +kernel
theorem dX12_whyNot_57 : decode cX12_whyNot 57 = .ok (.lload_n 1, 1) := by decide +kernel
theorem dX12_whyNot_58 : decode cX12_whyNot 58 = .ok (.ldc2_w 334, 3) := by decide +kernel
theorem dX12_whyNot_61 : decode cX12_whyNot 61 = .ok (.ldc2_w 336, 3) := by decide +kernel
theorem dX12_whyNot_64 : decode cX12_whyNot 64 = .ok (.invokestatic 145, 3) := by decide +kernel
theorem dX12_whyNot_67 : decode cX12_whyNot 67 = .ok (.ifCond .eq 24, 3) := by decide +kernel
theorem dX12_whyNot_70 : decode cX12_whyNot 70 = .ok (.aload_n 0, 1) := by decide +kernel
theorem dX12_whyNot_71 : decode cX12_whyNot 71 = .ok (.lload_n 1, 1) := by decide +kernel
theorem dX12_whyNot_72 : decode cX12_whyNot 72 = .ok (.ldc2_w 334, 3) := by decide +kernel
theorem dX12_whyNot_75 : decode cX12_whyNot 75 = .ok (.lsub, 1) := by decide +kernel
theorem dX12_whyNot_76 : decode cX12_whyNot 76 = .ok (.ldc2_w 285, 3) := by decide +kernel
theorem dX12_whyNot_79 : decode cX12_whyNot 79 = .ok (.ldiv, 1) := by decide +kernel
theorem dX12_whyNot_80 : decode cX12_whyNot 80 = .ok (.lload_n 1, 1) := by decide +kernel
theorem dX12_whyNot_81 : decode cX12_whyNot 81 = .ok (.ldc2_w 285, 3) := by decide +kernel
theorem dX12_whyNot_84 : decode cX12_whyNot 84 = .ok (.lrem, 1) := by decide +kernel
theorem dX12_whyNot_85 : decode cX12_whyNot 85 = .ok (.invokevirtual 316, 3) := by decide +kernel
theorem dX12_whyNot_88 : decode cX12_whyNot 88 = .ok (.goto 4, 3) := by decide +kernel
theorem dX12_whyNot_91 : decode cX12_whyNot 91 = .ok (.iconst 1, 1) := by decide +kernel
theorem dX12_whyNot_92 : decode cX12_whyNot 92 = .ok (.ireturn, 1) := by decide +kernel
theorem dX12_does_0 : decode cX12_does 0 = .ok (.iload_n 1, 1) := by decide +kernel
theorem dX12_does_1 : decode cX12_does 1 = .ok (.ifCond .ne 11, 3) := by decide +kernel
theorem dX12_does_4 : decode cX12_does 4 = .ok (.aload_n 0, 1) := by decide +kernel
theorem dX12_does_5 : decode cX12_does 5 = .ok (.iconst 1, 1) := by decide +kernel
theorem dX12_does_6 : decode cX12_does 6 = .ok (.invokevirtual 295, 3) := by decide +kernel
theorem dX12_does_9 : decode cX12_does 9 = .ok (.goto 76, 3) := by decide +kernel
theorem dX12_does_12 : decode cX12_does 12 = .ok (.iload_n 1, 1) := by decide +kernel
theorem dX12_does_13 : decode cX12_does 13 = .ok (.bipush 20, 2) := by decide +kernel
theorem dX12_does_15 : decode cX12_does 15 = .ok (.if_icmp .ge 17, 3) := by decide +kernel
theorem dX12_does_18 : decode cX12_does 18 = .ok (.aload_n 0, 1) := by decide +kernel
theorem dX12_does_19 : decode cX12_does 19 = .ok (.getfield 13, 3) := by decide +kernel
theorem dX12_does_22 : decode cX12_does 22 = .ok (.bipush 106, 2) := by decide +kernel
theorem dX12_does_24 : decode cX12_does 24 = .ok (.iload_n 1, 1) := by decide +kernel
theorem dX12_does_25 : decode cX12_does 25 = .ok (.bipush 10, 2) := by decide +kernel
theorem dX12_does_27 : decode cX12_does 27 = .ok (.isub, 1) := by decide +kernel
theorem dX12_does_28 : decode cX12_does 28 = .ok (.iastore, 1) := by decide +kernel
theorem dX12_does_29 : decode cX12_does 29 = .ok (.goto 56, 3) := by decide +kernel
theorem dX12_does_32 : decode cX12_does 32 = .ok (.iload_n 1, 1) := by decide +kernel
theorem dX12_does_33 : decode cX12_does 33 = .ok (.sipush 300, 3) := by decide +kernel
theorem dX12_does_36 : decode cX12_does 36 = .ok (.if_icmp .ge 33, 3) := by decide +kernel
theorem dX12_does_39 : decode cX12_does 39 = .ok (.aload_n 0, 1) := by decide +kernel
theorem dX12_does_40 : decode cX12_does 40 = .ok (.getfield 13, 3) := by decide +kernel
theorem dX12_does_43 : decode cX12_does 43 = .ok (.bipush 67, 2) := by decide +kernel
theorem dX12_does_45 : decode cX12_does 45 = .ok (.iload_n 1, 1) := by decide +kernel
theorem dX12_does_46 : decode cX12_does 46 = .ok (.bipush 100, 2) := by decide +kernel
theorem dX12_does_48 : decode cX12_does 48 = .ok (.irem, 1) := by decide +kernel
theorem dX12_does_49 : decode cX12_does 49 = .ok (.iadd, 1) := by decide +kernel
theorem dX12_does_50 : decode cX12_does 50 = .ok (.dup2, 1) := by decide +kernel
theorem dX12_does_51 : decode cX12_does 51 = .ok (.iaload, 1) := by decide +kernel
theorem dX12_does_52 : decode cX12_does 52 = .ok (.iload_n 1, 1) := by decide +kernel
theorem dX12_does_53 : decode cX12_does 53 = .ok (.sipush 200, 3) := by decide +kernel
theorem dX12_does_56 : decode cX12_does 56 = .ok (.if_icmp .ge 7, 3) := by decide +kernel
theorem dX12_does_59 : decode cX12_does 59 = .ok (.iconst 1, 1) := by decide +kernel
theorem dX12_does_60 : decode cX12_does 60 = .ok (.goto 4, 3) := by decide +kernel
theorem dX12_does_63 : decode cX12_does 63 = .ok (.iconst (-1), 1) := by decide +kernel
theorem dX12_does_64 : decode cX12_does 64 = .ok (.iadd, 1) := by decide +kernel
theorem dX12_does_65 : decode cX12_does 65 = .ok (.iastore, 1) := by decide +kernel
theorem dX12_does_66 : decode cX12_does 66 = .ok (.goto 19, 3) := by decide +kernel
theorem dX12_does_69 : decode cX12_does 69 = .ok (.aload_n 0, 1) := by decide +kernel
theorem dX12_does_70 : decode cX12_does 70 = .ok (.iload_n 1, 1) := by decide +kernel
theorem dX12_does_71 : decode cX12_does 71 = .ok (.sipush 1000, 3) := by decide +kernel
theorem dX12_does_74 : decode cX12_does 74 = .ok (.isub, 1) := by decide +kernel
theorem dX12_does_75 : decode cX12_does 75 = .ok (.bipush 10, 2) := by decide +kernel
theorem dX12_does_77 : decode cX12_does 77 = .ok (.idiv, 1) := by decide +kernel
theorem dX12_does_78 : decode cX12_does 78 = .ok (.iload_n 1, 1) := by decide +kernel
theorem dX12_does_79 : decode cX12_does 79 = .ok (.bipush 10, 2) := by decide +kernel
theorem dX12_does_81 : decode cX12_does 81 = .ok (.irem, 1) := by decide +kernel
theorem dX12_does_82 : decode cX12_does 82 = .ok (.invokevirtual 320, 3) := by decide +kernel
theorem dX12_does_85 : decode cX12_does 85 = .ok (.return_, 1) := by decide +kernel
theorem dX12_tells_0 : decode cX12_tells 0 = .ok (.aload_n 0, 1) := by decide +kernel
theorem dX12_tells_1 : decode cX12_tells 1 = .ok (.iconst 0, 1) := by decide +kernel
theorem dX12_tells_2 : decode cX12_tells 2 = .ok (.putfield 338, 3) := by decide +kernel
theorem dX12_tells_5 : decode cX12_tells 5 = .ok (.iconst 0, 1) := by decide +kernel
theorem dX12_tells_6 : decode cX12_tells 6 = .ok (.istore_n 2, 1) := by decide +kernel
theorem dX12_tells_7 : decode cX12_tells 7 = .ok (.iload_n 2, 1) := by decide +kernel
theorem dX12_tells_8 : decode cX12_tells 8 = .ok (.aload_n 0, 1) := by decide +kernel
theorem dX12_tells_9 : decode cX12_tells 9 = .ok (.getfield 73, 3) := by decide +kernel
theorem dX12_tells_12 : decode cX12_tells 12 = .ok (.iload_n 1, 1) := by decide +kernel
theorem dX12_tells_13 : decode cX12_tells 13 = .ok (.iaload, 1) := by decide +kernel
theorem dX12_tells_14 : decode cX12_tells 14 = .ok (.if_icmp .ge 53, 3) := by decide +kernel
theorem dX12_tells_17 : decode cX12_tells 17 = .ok (.aload_n 0, 1) := by decide +kernel
theorem dX12_tells_18 : decode cX12_tells 18 = .ok (.aload_n 0, 1) := by decide +kernel
theorem dX12_tells_19 : decode cX12_tells 19 = .ok (.aload_n 0, 1) := by decide +kernel
theorem dX12_tells_20 : decode cX12_tells 20 = .ok (.getfield 76, 3) := by decide +kernel
theorem dX12_tells_23 : decode cX12_tells 23 = .ok (.bipush 40, 2) := by decide +kernel
theorem dX12_tells_25 : decode cX12_tells 25 = .ok (.iload_n 1, 1) := by decide +kernel
theorem dX12_tells_26 : decode cX12_tells 26 = .ok (.imul, 1) := by decide +kernel
theorem dX12_tells_27 : decode cX12_tells 27 = .ok (.iload_n 2, 1) := by decide +kernel
theorem dX12_tells_28 : decode cX12_tells 28 = .ok (.iadd, 1) := by decide +kernel
theorem dX12_tells_29 : decode cX12_tells 29 = .ok (.laload, 1) := by decide +kernel
theorem dX12_tells_30 : decode cX12_tells 30 = .ok (.invokevirtual 341, 3) := by decide +kernel
theorem dX12_tells_33 : decode cX12_tells 33 = .ok (.putfield 338, 3) := by decide +kernel
theorem dX12_tells_36 : decode cX12_tells 36 = .ok (.aload_n 0, 1) := by decide +kernel
theorem dX12_tells_37 : decode cX12_tells 37 = .ok (.getfield 338, 3) := by decide +kernel
theorem dX12_tells_40 : decode cX12_tells 40 = .ok (.ifCond .eq 5, 3) := by decide +kernel
theorem dX12_tells_43 : decode cX12_tells 43 = .ok (.iload_n 2, 1) := by decide +kernel
theorem dX12_tells_44 : decode cX12_tells 44 = .ok (.ireturn, 1) := by decide +kernel
theorem dX12_tells_45 : decode cX12_tells 45 = .ok (.aload_n 0, 1) := by decide +kernel
theorem dX12_tells_46 : decode cX12_tells 46 = .ok (.aload_n 0, 1) := by decide +kernel
theorem dX12_tells_47 : decode cX12_tells 47 = .ok (.getfield 76, 3) := by decide +kernel
theorem dX12_tells_50 : decode cX12_tells 50 = .ok (.bipush 40, 2) := by decide +kernel
theorem dX12_tells_52 : decode cX12_tells 52 = .ok (.iload_n 1, 1) := by decide +kernel
theorem dX12_tells_53 : decode cX12_tells 53 = .ok (.imul, 1) := by decide +kernel
theorem dX12_tells_54 : decode cX12_tells 54 = .ok (.iload_n 2, 1) := by decide +kernel
theorem dX12_tells_55 : decode cX12_tells 55 = .ok (.iadd, 1) := by decide +kernel
theorem dX12_tells_56 : decode cX12_tells 56 = .ok (.laload, 1) := by decide +kernel
theorem dX12_tells_57 : decode cX12_tells 57 = .ok (.l2i, 1) := by decide +kernel
theorem dX12_tells_58 : decode cX12_tells 58 = .ok (.invokevirtual 345, 3) := by decide +kernel
theorem dX12_tells_61 : decode cX12_tells 61 = .ok (.iinc 2 1, 3) := by decide +kernel
theorem dX12_tells_64 : decode cX12_tells 64 = .ok (.goto (-57), 3) := by decide +kernel
theorem dX12_tells_67 : decode cX12_tells 67 = .ok (.aload_n 0, 1) := by decide +kernel
theorem dX12_tells_68 : decode cX12_tells 68 = .ok (.getfield 73, 3) := by decide +kernel
theorem dX12_tells_71 : decode cX12_tells 71 = .ok (.iload_n 1, 1) := by decide +kernel
theorem dX12_tells_72 : decode cX12_tells 72 = .ok (.iaload, 1) := by decide +kernel
theorem dX12_tells_73 : decode cX12_tells 73 = .ok (.ireturn, 1) := by decide +kernel
theorem dX12_noTray_0 : decode cX12_noTray 0 = .ok (.iload_n 1, 1) := by decide +kernel
theorem dX12_noTray_1 : decode cX12_noTray 1 = .ok (.i2l, 1) := by decide +kernel
theorem dX12_noTray_2 : decode cX12_noTray 2 = .ok (.lconst 0, 1) := by decide +kernel
theorem dX12_noTray_3 : decode cX12_noTray 3 = .ok (.ldc2_w 348, 3) := by decide +kernel
theorem dX12_noTray_6 : decode cX12_noTray 6 = .ok (.invokestatic 145, 3) := by decide +kernel
theorem dX12_noTray_9 : decode cX12_noTray 9 = .ok (.ifCond .ne 8, 3) := by decide +kernel
theorem dX12_noTray_12 : decode cX12_noTray 12 = .ok (.bipush (-2), 2) := by decide +kernel
theorem dX12_noTray_14 : decode cX12_noTray 14 = .ok (.goto 19, 3) := by decide +kernel
theorem dX12_noTray_17 : decode cX12_noTray 17 = .ok (.aload_n 0, 1) := by decide +kernel
theorem dX12_noTray_18 : decode cX12_noTray 18 = .ok (.getfield 70, 3) := by decide +kernel
theorem dX12_noTray_21 : decode cX12_noTray 21 = .ok (.iload_n 1, 1) := by decide +kernel
theorem dX12_noTray_22 : decode cX12_noTray 22 = .ok (.iaload, 1) := by decide +kernel
theorem dX12_noTray_23 : decode cX12_noTray 23 = .ok (.iconst (-1), 1) := by decide +kernel
theorem dX12_noTray_24 : decode cX12_noTray 24 = .ok (.if_icmp .ne 8, 3) := by decide +kernel
theorem dX12_noTray_27 : decode cX12_noTray 27 = .ok (.bipush (-6), 2) := by decide +kernel
theorem dX12_noTray_29 : decode cX12_noTray 29 = .ok (.goto 4, 3) := by decide +kernel
theorem dX12_noTray_32 : decode cX12_noTray 32 = .ok (.iconst 0, 1) := by decide +kernel
theorem dX12_noTray_33 : decode cX12_noTray 33 = .ok (.ireturn, 1) := by decide +kernel
theorem dX12_sandSum_0 : decode cX12_sandSum 0 = .ok (.iconst 0, 1) := by decide +kernel
theorem dX12_sandSum_1 : decode cX12_sandSum 1 = .ok (.istore_n 1, 1) := by decide +kernel
theorem dX12_sandSum_2 : decode cX12_sandSum 2 = .ok (.iconst 0, 1) := by decide +kernel
theorem dX12_sandSum_3 : decode cX12_sandSum 3 = .ok (.istore_n 2, 1) := by decide +kernel
theorem dX12_sandSum_4 : decode cX12_sandSum 4 = .ok (.aload_n 0, 1) := by decide +kernel
theorem dX12_sandSum_5 : decode cX12_sandSum 5 = .ok (.iload_n 2, 1) := by decide +kernel
theorem dX12_sandSum_6 : decode cX12_sandSum 6 = .ok (.i2l, 1) := by decide +kernel
theorem dX12_sandSum_7 : decode cX12_sandSum 7 = .ok (.invokevirtual 230, 3) := by decide +kernel
theorem dX12_sandSum_10 : decode cX12_sandSum 10 = .ok (.ifCond .eq 21, 3) := by decide +kernel
theorem dX12_sandSum_13 : decode cX12_sandSum 13 = .ok (.iload_n 1, 1) := by decide +kernel
theorem dX12_sandSum_14 : decode cX12_sandSum 14 = .ok (.aload_n 0, 1) := by decide +kernel
theorem dX12_sandSum_15 : decode cX12_sandSum 15 = .ok (.getfield 13, 3) := by decide +kernel
theorem dX12_sandSum_18 : decode cX12_sandSum 18 = .ok (.bipush 67, 2) := by decide +kernel
theorem dX12_sandSum_20 : decode cX12_sandSum 20 = .ok (.iload_n 2, 1) := by decide +kernel
theorem dX12_sandSum_21 : decode cX12_sandSum 21 = .ok (.iadd, 1) := by decide +kernel
theorem dX12_sandSum_22 : decode cX12_sandSum 22 = .ok (.iaload, 1) := by decide +kernel
theorem dX12_sandSum_23 : decode cX12_sandSum 23 = .ok (.iadd, 1) := by decide +kernel
theorem dX12_sandSum_24 : decode cX12_sandSum 24 = .ok (.istore_n 1, 1) := by decide +kernel
theorem dX12_sandSum_25 : decode cX12_sandSum 25 = .ok (.iinc 2 1, 3) := by decide +kernel
theorem dX12_sandSum_28 : decode cX12_sandSum 28 = .ok (.goto (-24), 3) := by decide +kernel
theorem dX12_sandSum_31 : decode cX12_sandSum 31 = .ok (.iload_n 1, 1) := by decide +kernel
theorem dX12_sandSum_32 : decode cX12_sandSum 32 = .ok (.ireturn, 1) := by decide +kernel
theorem dX12_judge_0 : decode cX12_judge 0 = .ok (.aload_n 0, 1) := by decide +kernel
theorem dX12_judge_1 : decode cX12_judge 1 = .ok (.iconst 0, 1) := by decide +kernel
theorem dX12_judge_2 : decode cX12_judge 2 = .ok (.putfield 1, 3) := by decide +kernel
theorem dX12_judge_5 : decode cX12_judge 5 = .ok (.iload_n 2, 1) := by decide +kernel
theorem dX12_judge_6 : decode cX12_judge 6 = .ok (.i2l, 1) := by decide +kernel
theorem dX12_judge_7 : decode cX12_judge 7 = .ok (.lconst 0, 1) := by decide +kernel
theorem dX12_judge_8 : decode cX12_judge 8 = .ok (.ldc2_w 348, 3) := by decide +kernel
theorem dX12_judge_11 : decode cX12_judge 11 = .ok (.invokestatic 145, 3) := by decide +kernel
theorem dX12_judge_14 : decode cX12_judge 14 = .ok (.ifCond .ne 6, 3) := by decide +kernel
theorem dX12_judge_17 : decode cX12_judge 17 = .ok (.bipush (-2), 2) := by decide +kernel
theorem dX12_judge_19 : decode cX12_judge 19 = .ok (.ireturn, 1) := by decide +kernel
theorem dX12_judge_20 : decode cX12_judge 20 = .ok (.aload_n 0, 1) := by decide +kernel
theorem dX12_judge_21 : decode cX12_judge 21 = .ok (.iload_n 1, 1) := by decide +kernel
theorem dX12_judge_22 : decode cX12_judge 22 = .ok (.invokevirtual 350, 3) := by decide +kernel
theorem dX12_judge_25 : decode cX12_judge 25 = .ok (.istore_n 3, 1) := by decide +kernel
theorem dX12_judge_26 : decode cX12_judge 26 = .ok (.iload_n 3, 1) := by decide +kernel
theorem dX12_judge_27 : decode cX12_judge 27 = .ok (.ifCond .eq 5, 3) := by decide +kernel
theorem dX12_judge_30 : decode cX12_judge 30 = .ok (.iload_n 3, 1) := by decide +kernel
theorem dX12_judge_31 : decode cX12_judge 31 = .ok (.ireturn, 1) := by decide +kernel
theorem dX12_judge_32 : decode cX12_judge 32 = .ok (.aload_n 0, 1) := by decide +kernel
theorem dX12_judge_33 : decode cX12_judge 33 = .ok (.invokevirtual 292, 3) := by decide +kernel
theorem dX12_judge_36 : decode cX12_judge 36 = .ok (.aload_n 0, 1) := by decide +kernel
theorem dX12_judge_37 : decode cX12_judge 37 = .ok (.iload_n 1, 1) := by decide +kernel
theorem dX12_judge_38 : decode cX12_judge 38 = .ok (.invokevirtual 353, 3) := by decide +kernel
theorem dX12_judge_41 : decode cX12_judge 41 = .ok (.istore 4, 2) := by decide +kernel
theorem dX12_judge_43 : decode cX12_judge 43 = .ok (.aload_n 0, 1) := by decide +kernel
theorem dX12_judge_44 : decode cX12_judge 44 = .ok (.invokevirtual 356, 3) := by decide +kernel
theorem dX12_judge_47 : decode cX12_judge 47 = .ok (.istore 5, 2) := by decide +kernel
theorem dX12_judge_49 : decode cX12_judge 49 = .ok (.aload_n 0, 1) := by decide +kernel
theorem dX12_judge_50 : decode cX12_judge 50 = .ok (.invokevirtual 301, 3) := by decide +kernel
theorem dX12_judge_53 : decode cX12_judge 53 = .ok (.istore 6, 2) := by decide +kernel
theorem dX12_judge_55 : decode cX12_judge 55 = .ok (.aload_n 0, 1) := by decide +kernel
theorem dX12_judge_56 : decode cX12_judge 56 = .ok (.invokevirtual 359, 3) := by decide +kernel
theorem dX12_judge_59 : decode cX12_judge 59 = .ok (.iload_n 2, 1) := by decide +kernel
theorem dX12_judge_60 : decode cX12_judge 60 = .ok (.ifCond .ne 19, 3) := by decide +kernel
theorem dX12_judge_63 : decode cX12_judge 63 = .ok (.aload_n 0, 1) := by decide +kernel
theorem dX12_judge_64 : decode cX12_judge 64 = .ok (.getfield 338, 3) := by decide +kernel
theorem dX12_judge_67 : decode cX12_judge 67 = .ok (.ifCond .ne 7, 3) := by decide +kernel
theorem dX12_judge_70 : decode cX12_judge 70 = .ok (.iconst (-1), 1) := by decide +kernel
theorem dX12_judge_71 : decode cX12_judge 71 = .ok (.goto 32, 3) := by decide +kernel
theorem dX12_judge_74 : decode cX12_judge 74 = .ok (.iload 4, 2) := by decide +kernel
theorem dX12_judge_76 : decode cX12_judge 76 = .ok (.goto 27, 3) := by decide +kernel
theorem dX12_judge_79 : decode cX12_judge 79 = .ok (.iload_n 2, 1) := by decide +kernel
theorem dX12_judge_80 : decode cX12_judge 80 = .ok (.iconst 1, 1) := by decide +kernel
theorem dX12_judge_81 : decode cX12_judge 81 = .ok (.if_icmp .ne 10, 3) := by decide +kernel
theorem dX12_judge_84 : decode cX12_judge 84 = .ok (.aload_n 0, 1) := by decide +kernel
theorem dX12_judge_85 : decode cX12_judge 85 = .ok (.getfield 338, 3) := by decide +kernel
theorem dX12_judge_88 : decode cX12_judge 88 = .ok (.goto 15, 3) := by decide +kernel
theorem dX12_judge_91 : decode cX12_judge 91 = .ok (.iload_n 2, 1) := by decide +kernel
theorem dX12_judge_92 : decode cX12_judge 92 = .ok (.iconst 2, 1) := by decide +kernel
theorem dX12_judge_93 : decode cX12_judge 93 = .ok (.if_icmp .ne 8, 3) := by decide +kernel
theorem dX12_judge_96 : decode cX12_judge 96 = .ok (.iload 5, 2) := by decide +kernel
theorem dX12_judge_98 : decode cX12_judge 98 = .ok (.goto 5, 3) := by decide +kernel
theorem dX12_judge_101 : decode cX12_judge 101 = .ok (.iload 6, 2) := by decide +kernel
theorem dX12_judge_103 : decode cX12_judge 103 = .ok (.ireturn, 1) := by decide +kernel
theorem dX12_perform_0 : decode cX12_perform 0 = .ok (.aload_n 0, 1) := by decide +kernel
theorem dX12_perform_1 : decode cX12_perform 1 = .ok (.iconst 0, 1) := by decide +kernel
theorem dX12_perform_2 : decode cX12_perform 2 = .ok (.putfield 1, 3) := by decide +kernel
theorem dX12_perform_5 : decode cX12_perform 5 = .ok (.aload_n 0, 1) := by decide +kernel
theorem dX12_perform_6 : decode cX12_perform 6 = .ok (.iload_n 1, 1) := by decide +kernel
theorem dX12_perform_7 : decode cX12_perform 7 = .ok (.invokevirtual 350, 3) := by decide +kernel
theorem dX12_perform_10 : decode cX12_perform 10 = .ok (.istore_n 2, 1) := by decide +kernel
theorem dX12_perform_11 : decode cX12_perform 11 = .ok (.iload_n 2, 1) := by decide +kernel
theorem dX12_perform_12 : decode cX12_perform 12 = .ok (.ifCond .eq 5, 3) := by decide +kernel
theorem dX12_perform_15 : decode cX12_perform 15 = .ok (.iload_n 2, 1) := by decide +kernel
theorem dX12_perform_16 : decode cX12_perform 16 = .ok (.ireturn, 1) := by decide +kernel
theorem dX12_perform_17 : decode cX12_perform 17 = .ok (.aload_n 0, 1) := by decide +kernel
theorem dX12_perform_18 : decode cX12_perform 18 = .ok (.invokevirtual 292, 3) := by decide +kernel
theorem dX12_perform_21 : decode cX12_perform 21 = .ok (.aload_n 0, 1) := by decide +kernel
theorem dX12_perform_22 : decode cX12_perform 22 = .ok (.iload_n 1, 1) := by decide +kernel
theorem dX12_perform_23 : decode cX12_perform 23 = .ok (.invokevirtual 353, 3) := by decide +kernel
theorem dX12_perform_26 : decode cX12_perform 26 = .ok (.istore_n 3, 1) := by decide +kernel
theorem dX12_perform_27 : decode cX12_perform 27 = .ok (.iload_n 3, 1) := by decide +kernel
theorem dX12_perform_28 : decode cX12_perform 28 = .ok (.ifCond .le 7, 3) := by decide +kernel
theorem dX12_perform_31 : decode cX12_perform 31 = .ok (.aload_n 0, 1) := by decide +kernel
theorem dX12_perform_32 : decode cX12_perform 32 = .ok (.invokevirtual 298, 3) := by decide +kernel
theorem dX12_perform_35 : decode cX12_perform 35 = .ok (.iload_n 3, 1) := by decide +kernel
theorem dX12_perform_36 : decode cX12_perform 36 = .ok (.ireturn, 1) := by decide +kernel
theorem dX12_draw_0 : decode cX12_draw 0 = .ok (.aload_n 0, 1) := by decide +kernel
theorem dX12_draw_1 : decode cX12_draw 1 = .ok (.ldc_w 362, 3) := by decide +kernel
theorem dX12_draw_4 : decode cX12_draw 4 = .ok (.aload_n 0, 1) := by decide +kernel
theorem dX12_draw_5 : decode cX12_draw 5 = .ok (.getfield 363, 3) := by decide +kernel
theorem dX12_draw_8 : decode cX12_draw 8 = .ok (.imul, 1) := by decide +kernel
theorem dX12_draw_9 : decode cX12_draw 9 = .ok (.sipush 12345, 3) := by decide +kernel
theorem dX12_draw_12 : decode cX12_draw 12 = .ok (.iadd, 1) := by decide +kernel
theorem dX12_draw_13 : decode cX12_draw 13 = .ok (.putfield 363, 3) := by decide +kernel
theorem dX12_draw_16 : decode cX12_draw 16 = .ok (.aload_n 0, 1) := by decide +kernel
theorem dX12_draw_17 : decode cX12_draw 17 = .ok (.getfield 363, 3) := by decide +kernel
theorem dX12_draw_20 : decode cX12_draw 20 = .ok (.bipush 16, 2) := by decide +kernel
theorem dX12_draw_22 : decode cX12_draw 22 = .ok (.iushr, 1) := by decide +kernel
theorem dX12_draw_23 : decode cX12_draw 23 = .ok (.iload_n 1, 1) := by decide +kernel
theorem dX12_draw_24 : decode cX12_draw 24 = .ok (.irem, 1) := by decide +kernel
theorem dX12_draw_25 : decode cX12_draw 25 = .ok (.ireturn, 1) := by decide +kernel
theorem dX12_drawn_0 : decode cX12_drawn 0 = .ok (.aload_n 0, 1) := by decide +kernel
theorem dX12_drawn_1 : decode cX12_drawn 1 = .ok (.bipush 6, 2) := by decide +kernel
theorem dX12_drawn_3 : decode cX12_drawn 3 = .ok (.invokevirtual 366, 3) := by decide +kernel
theorem dX12_drawn_6 : decode cX12_drawn 6 = .ok (.istore_n 1, 1) := by decide +kernel
theorem dX12_drawn_7 : decode cX12_drawn 7 = .ok (.iload_n 1, 1) := by decide +kernel
theorem dX12_drawn_8 : decode cX12_drawn 8 = .ok (.iconst 2, 1) := by decide +kernel
theorem dX12_drawn_9 : decode cX12_drawn 9 = .ok (.if_icmp .ge 5, 3) := by decide +kernel
theorem dX12_drawn_12 : decode cX12_drawn 12 = .ok (.iconst 0, 1) := by decide +kernel
theorem dX12_drawn_13 : decode cX12_drawn 13 = .ok (.ireturn, 1) := by decide +kernel
theorem dX12_drawn_14 : decode cX12_drawn 14 = .ok (.iload_n 1, 1) := by decide +kernel
theorem dX12_drawn_15 : decode cX12_drawn 15 = .ok (.iconst 4, 1) := by decide +kernel
theorem dX12_drawn_16 : decode cX12_drawn 16 = .ok (.if_icmp .ge 24, 3) := by decide +kernel
theorem dX12_drawn_19 : decode cX12_drawn 19 = .ok (.iload_n 1, 1) := by decide +kernel
theorem dX12_drawn_20 : decode cX12_drawn 20 = .ok (.iconst 2, 1) := by decide +kernel
theorem dX12_drawn_21 : decode cX12_drawn 21 = .ok (.if_icmp .ne 8, 3) := by decide +kernel
theorem dX12_drawn_24 : decode cX12_drawn 24 = .ok (.bipush 100, 2) := by decide +kernel
theorem dX12_drawn_26 : decode cX12_drawn 26 = .ok (.goto 6, 3) := by decide +kernel
theorem dX12_drawn_29 : decode cX12_drawn 29 = .ok (.sipush 200, 3) := by decide +kernel
theorem dX12_drawn_32 : decode cX12_drawn 32 = .ok (.aload_n 0, 1) := by decide +kernel
theorem dX12_drawn_33 : decode cX12_drawn 33 = .ok (.bipush 25, 2) := by decide +kernel
theorem dX12_drawn_35 : decode cX12_drawn 35 = .ok (.invokevirtual 366, 3) := by decide +kernel
theorem dX12_drawn_38 : decode cX12_drawn 38 = .ok (.iadd, 1) := by decide +kernel
theorem dX12_drawn_39 : decode cX12_drawn 39 = .ok (.ireturn, 1) := by decide +kernel
theorem dX12_drawn_40 : decode cX12_drawn 40 = .ok (.iload_n 1, 1) := by decide +kernel
theorem dX12_drawn_41 : decode cX12_drawn 41 = .ok (.iconst 5, 1) := by decide +kernel
theorem dX12_drawn_42 : decode cX12_drawn 42 = .ok (.if_icmp .ne 13, 3) := by decide +kernel
theorem dX12_drawn_45 : decode cX12_drawn 45 = .ok (.bipush 10, 2) := by decide +kernel
theorem dX12_drawn_47 : decode cX12_drawn 47 = .ok (.aload_n 0, 1) := by decide +kernel
theorem dX12_drawn_48 : decode cX12_drawn 48 = .ok (.bipush 10, 2) := by decide +kernel
theorem dX12_drawn_50 : decode cX12_drawn 50 = .ok (.invokevirtual 366, 3) := by decide +kernel
theorem dX12_drawn_53 : decode cX12_drawn 53 = .ok (.iadd, 1) := by decide +kernel
theorem dX12_drawn_54 : decode cX12_drawn 54 = .ok (.ireturn, 1) := by decide +kernel
theorem dX12_drawn_55 : decode cX12_drawn 55 = .ok (.aload_n 0, 1) := by decide +kernel
theorem dX12_drawn_56 : decode cX12_drawn 56 = .ok (.bipush 25, 2) := by decide +kernel
theorem dX12_drawn_58 : decode cX12_drawn 58 = .ok (.invokevirtual 366, 3) := by decide +kernel
theorem dX12_drawn_61 : decode cX12_drawn 61 = .ok (.istore_n 2, 1) := by decide +kernel
theorem dX12_drawn_62 : decode cX12_drawn 62 = .ok (.sipush 1000, 3) := by decide +kernel
theorem dX12_drawn_65 : decode cX12_drawn 65 = .ok (.bipush 10, 2) := by decide +kernel
theorem dX12_drawn_67 : decode cX12_drawn 67 = .ok (.iload_n 2, 1) := by decide +kernel
theorem dX12_drawn_68 : decode cX12_drawn 68 = .ok (.imul, 1) := by decide +kernel
theorem dX12_drawn_69 : decode cX12_drawn 69 = .ok (.iadd, 1) := by decide +kernel
theorem dX12_drawn_70 : decode cX12_drawn 70 = .ok (.aload_n 0, 1) := by decide +kernel
theorem dX12_drawn_71 : decode cX12_drawn 71 = .ok (.iconst 5, 1) := by decide +kernel
theorem dX12_drawn_72 : decode cX12_drawn 72 = .ok (.invokevirtual 366, 3) := by decide +kernel
theorem dX12_drawn_75 : decode cX12_drawn 75 = .ok (.iadd, 1) := by decide +kernel
theorem dX12_drawn_76 : decode cX12_drawn 76 = .ok (.ireturn, 1) := by decide +kernel
theorem dX12_day_0 : decode cX12_day 0 = .ok (.aload_n 0, 1) := by decide +kernel
theorem dX12_day_1 : decode cX12_day 1 = .ok (.iconst 0, 1) := by decide +kernel
theorem dX12_day_2 : decode cX12_day 2 = .ok (.putfield 1, 3) := by decide +kernel
theorem dX12_day_5 : decode cX12_day 5 = .ok (.iload_n 2, 1) := by decide +kernel
theorem dX12_day_6 : decode cX12_day 6 = .ok (.i2l, 1) := by decide +kernel
theorem dX12_day_7 : decode cX12_day 7 = .ok (.lconst 1, 1) := by decide +kernel
theorem dX12_day_8 : decode cX12_day 8 = .ok (.ldc2_w 369, 3) := by decide +kernel
theorem dX12_day_11 : decode cX12_day 11 = .ok (.invokestatic 145, 3) := by decide +kernel
theorem dX12_day_14 : decode cX12_day 14 = .ok (.ifCond .ne 6, 3) := by decide +kernel
theorem dX12_day_17 : decode cX12_day 17 = .ok (.bipush (-3), 2) := by decide +kernel
theorem dX12_day_19 : decode cX12_day 19 = .ok (.ireturn, 1) := by decide +kernel
theorem dX12_day_20 : decode cX12_day 20 = .ok (.aload_n 0, 1) := by decide +kernel
theorem dX12_day_21 : decode cX12_day 21 = .ok (.invokevirtual 292, 3) := by decide +kernel
theorem dX12_day_24 : decode cX12_day 24 = .ok (.aload_n 0, 1) := by decide +kernel
theorem dX12_day_25 : decode cX12_day 25 = .ok (.iload_n 1, 1) := by decide +kernel
theorem dX12_day_26 : decode cX12_day 26 = .ok (.putfield 363, 3) := by decide +kernel
theorem dX12_day_29 : decode cX12_day 29 = .ok (.iconst 0, 1) := by decide +kernel
theorem dX12_day_30 : decode cX12_day 30 = .ok (.istore_n 3, 1) := by decide +kernel
theorem dX12_day_31 : decode cX12_day 31 = .ok (.iconst 0, 1) := by decide +kernel
theorem dX12_day_32 : decode cX12_day 32 = .ok (.istore 4, 2) := by decide +kernel
theorem dX12_day_34 : decode cX12_day 34 = .ok (.iload 4, 2) := by decide +kernel
theorem dX12_day_36 : decode cX12_day 36 = .ok (.iload_n 2, 1) := by decide +kernel
theorem dX12_day_37 : decode cX12_day 37 = .ok (.if_icmp .ge 37, 3) := by decide +kernel
theorem dX12_day_40 : decode cX12_day 40 = .ok (.aload_n 0, 1) := by decide +kernel
theorem dX12_day_41 : decode cX12_day 41 = .ok (.invokevirtual 371, 3) := by decide +kernel
theorem dX12_day_44 : decode cX12_day 44 = .ok (.istore 5, 2) := by decide +kernel
theorem dX12_day_46 : decode cX12_day 46 = .ok (.aload_n 0, 1) := by decide +kernel
theorem dX12_day_47 : decode cX12_day 47 = .ok (.iload 5, 2) := by decide +kernel
theorem dX12_day_49 : decode cX12_day 49 = .ok (.i2l, 1) := by decide +kernel
theorem dX12_day_50 : decode cX12_day 50 = .ok (.invokevirtual 341, 3) := by decide +kernel
theorem dX12_day_53 : decode cX12_day 53 = .ok (.ifCond .eq 6, 3) := by decide +kernel
theorem dX12_day_56 : decode cX12_day 56 = .ok (.goto 12, 3) := by decide +kernel
theorem dX12_day_59 : decode cX12_day 59 = .ok (.aload_n 0, 1) := by decide +kernel
theorem dX12_day_60 : decode cX12_day 60 = .ok (.iload 5, 2) := by decide +kernel
theorem dX12_day_62 : decode cX12_day 62 = .ok (.invokevirtual 345, 3) := by decide +kernel
theorem dX12_day_65 : decode cX12_day 65 = .ok (.iinc 3 1, 3) := by decide +kernel
theorem dX12_day_68 : decode cX12_day 68 = .ok (.iinc 4 1, 3) := by decide +kernel
theorem dX12_day_71 : decode cX12_day 71 = .ok (.goto (-37), 3) := by decide +kernel
theorem dX12_day_74 : decode cX12_day 74 = .ok (.iload_n 3, 1) := by decide +kernel
theorem dX12_day_75 : decode cX12_day 75 = .ok (.ifCond .le 7, 3) := by decide +kernel
theorem dX12_day_78 : decode cX12_day 78 = .ok (.aload_n 0, 1) := by decide +kernel
theorem dX12_day_79 : decode cX12_day 79 = .ok (.invokevirtual 298, 3) := by decide +kernel
theorem dX12_day_82 : decode cX12_day 82 = .ok (.iload_n 3, 1) := by decide +kernel
theorem dX12_day_83 : decode cX12_day 83 = .ok (.ireturn, 1) := by decide +kernel
theorem dX12_fallsIn_0 : decode cX12_fallsIn 0 = .ok (.aload_n 0, 1) := by decide +kernel
theorem dX12_fallsIn_1 : decode cX12_fallsIn 1 = .ok (.getfield 13, 3) := by decide +kernel
theorem dX12_fallsIn_4 : decode cX12_fallsIn 4 = .ok (.bipush 105, 2) := by decide +kernel
theorem dX12_fallsIn_6 : decode cX12_fallsIn 6 = .ok (.iaload, 1) := by decide +kernel
theorem dX12_fallsIn_7 : decode cX12_fallsIn 7 = .ok (.i2l, 1) := by decide +kernel
theorem dX12_fallsIn_8 : decode cX12_fallsIn 8 = .ok (.iload_n 1, 1) := by decide +kernel
theorem dX12_fallsIn_9 : decode cX12_fallsIn 9 = .ok (.invokestatic 253, 3) := by decide +kernel
theorem dX12_fallsIn_12 : decode cX12_fallsIn 12 = .ok (.ifCond .eq 5, 3) := by decide +kernel
theorem dX12_fallsIn_15 : decode cX12_fallsIn 15 = .ok (.iconst (-1), 1) := by decide +kernel
theorem dX12_fallsIn_16 : decode cX12_fallsIn 16 = .ok (.ireturn, 1) := by decide +kernel
theorem dX12_fallsIn_17 : decode cX12_fallsIn 17 = .ok (.aload_n 0, 1) := by decide +kernel
theorem dX12_fallsIn_18 : decode cX12_fallsIn 18 = .ok (.invokevirtual 272, 3) := by decide +kernel
theorem dX12_fallsIn_21 : decode cX12_fallsIn 21 = .ok (.iconst 1, 1) := by decide +kernel
theorem dX12_fallsIn_22 : decode cX12_fallsIn 22 = .ok (.istore_n 2, 1) := by decide +kernel
theorem dX12_fallsIn_23 : decode cX12_fallsIn 23 = .ok (.iload_n 2, 1) := by decide +kernel
theorem dX12_fallsIn_24 : decode cX12_fallsIn 24 = .ok (.bipush 60, 2) := by decide +kernel
theorem dX12_fallsIn_26 : decode cX12_fallsIn 26 = .ok (.if_icmp .gt 29, 3) := by decide +kernel
theorem dX12_fallsIn_29 : decode cX12_fallsIn 29 = .ok (.aload_n 0, 1) := by decide +kernel
theorem dX12_fallsIn_30 : decode cX12_fallsIn 30 = .ok (.iconst 0, 1) := by decide +kernel
theorem dX12_fallsIn_31 : decode cX12_fallsIn 31 = .ok (.invokevirtual 275, 3) := by decide +kernel
theorem dX12_fallsIn_34 : decode cX12_fallsIn 34 = .ok (.pop, 1) := by decide +kernel
theorem dX12_fallsIn_35 : decode cX12_fallsIn 35 = .ok (.aload_n 0, 1) := by decide +kernel
theorem dX12_fallsIn_36 : decode cX12_fallsIn 36 = .ok (.getfield 247, 3) := by decide +kernel
theorem dX12_fallsIn_39 : decode cX12_fallsIn 39 = .ok (.i2l, 1) := by decide +kernel
theorem dX12_fallsIn_40 : decode cX12_fallsIn 40 = .ok (.iload_n 1, 1) := by decide +kernel
theorem dX12_fallsIn_41 : decode cX12_fallsIn 41 = .ok (.invokestatic 253, 3) := by decide +kernel
theorem dX12_fallsIn_44 : decode cX12_fallsIn 44 = .ok (.ifCond .eq 5, 3) := by decide +kernel
theorem dX12_fallsIn_47 : decode cX12_fallsIn 47 = .ok (.iload_n 2, 1) := by decide +kernel
theorem dX12_fallsIn_48 : decode cX12_fallsIn 48 = .ok (.ireturn, 1) := by decide +kernel
theorem dX12_fallsIn_49 : decode cX12_fallsIn 49 = .ok (.iinc 2 1, 3) := by decide +kernel
theorem dX12_fallsIn_52 : decode cX12_fallsIn 52 = .ok (.goto (-29), 3) := by decide +kernel
theorem dX12_fallsIn_55 : decode cX12_fallsIn 55 = .ok (.iconst (-1), 1) := by decide +kernel
theorem dX12_fallsIn_56 : decode cX12_fallsIn 56 = .ok (.ireturn, 1) := by decide +kernel
theorem dX12_falls_0 : decode cX12_falls 0 = .ok (.aload_n 0, 1) := by decide +kernel
theorem dX12_falls_1 : decode cX12_falls 1 = .ok (.iconst 0, 1) := by decide +kernel
theorem dX12_falls_2 : decode cX12_falls 2 = .ok (.putfield 1, 3) := by decide +kernel
theorem dX12_falls_5 : decode cX12_falls 5 = .ok (.aload_n 0, 1) := by decide +kernel
theorem dX12_falls_6 : decode cX12_falls 6 = .ok (.iload_n 1, 1) := by decide +kernel
theorem dX12_falls_7 : decode cX12_falls 7 = .ok (.i2l, 1) := by decide +kernel
theorem dX12_falls_8 : decode cX12_falls 8 = .ok (.invokevirtual 278, 3) := by decide +kernel
theorem dX12_falls_11 : decode cX12_falls 11 = .ok (.ifCond .eq 11, 3) := by decide +kernel
theorem dX12_falls_14 : decode cX12_falls 14 = .ok (.aload_n 0, 1) := by decide +kernel
theorem dX12_falls_15 : decode cX12_falls 15 = .ok (.iload_n 1, 1) := by decide +kernel
theorem dX12_falls_16 : decode cX12_falls 16 = .ok (.invokevirtual 374, 3) := by decide +kernel
theorem dX12_falls_19 : decode cX12_falls 19 = .ok (.goto 5, 3) := by decide +kernel
theorem dX12_falls_22 : decode cX12_falls 22 = .ok (.bipush (-2), 2) := by decide +kernel
theorem dX12_falls_24 : decode cX12_falls 24 = .ok (.ireturn, 1) := by decide +kernel
theorem dX12_stands_0 : decode cX12_stands 0 = .ok (.aload_n 0, 1) := by decide +kernel
theorem dX12_stands_1 : decode cX12_stands 1 = .ok (.iconst 0, 1) := by decide +kernel
theorem dX12_stands_2 : decode cX12_stands 2 = .ok (.putfield 1, 3) := by decide +kernel
theorem dX12_stands_5 : decode cX12_stands 5 = .ok (.iload_n 1, 1) := by decide +kernel
theorem dX12_stands_6 : decode cX12_stands 6 = .ok (.i2l, 1) := by decide +kernel
theorem dX12_stands_7 : decode cX12_stands 7 = .ok (.lconst 0, 1) := by decide +kernel
theorem dX12_stands_8 : decode cX12_stands 8 = .ok (.ldc2_w 377, 3) := by decide +kernel
theorem dX12_stands_11 : decode cX12_stands 11 = .ok (.invokestatic 145, 3) := by decide +kernel
theorem dX12_stands_14 : decode cX12_stands 14 = .ok (.ifCond .ne 6, 3) := by decide +kernel
theorem dX12_stands_17 : decode cX12_stands 17 = .ok (.bipush (-3), 2) := by decide +kernel
theorem dX12_stands_19 : decode cX12_stands 19 = .ok (.ireturn, 1) := by decide +kernel
theorem dX12_stands_20 : decode cX12_stands 20 = .ok (.aload_n 0, 1) := by decide +kernel
theorem dX12_stands_21 : decode cX12_stands 21 = .ok (.iload_n 1, 1) := by decide +kernel
theorem dX12_stands_22 : decode cX12_stands 22 = .ok (.invokevirtual 287, 3) := by decide +kernel
theorem dX12_stands_25 : decode cX12_stands 25 = .ok (.aload_n 0, 1) := by decide +kernel
theorem dX12_stands_26 : decode cX12_stands 26 = .ok (.invokevirtual 379, 3) := by decide +kernel
theorem dX12_stands_29 : decode cX12_stands 29 = .ok (.ireturn, 1) := by decide +kernel
theorem dX12_wetIn_0 : decode cX12_wetIn 0 = .ok (.aload_n 0, 1) := by decide +kernel
theorem dX12_wetIn_1 : decode cX12_wetIn 1 = .ok (.invokevirtual 272, 3) := by decide +kernel
theorem dX12_wetIn_4 : decode cX12_wetIn 4 = .ok (.iconst 1, 1) := by decide +kernel
theorem dX12_wetIn_5 : decode cX12_wetIn 5 = .ok (.istore_n 2, 1) := by decide +kernel
theorem dX12_wetIn_6 : decode cX12_wetIn 6 = .ok (.iload_n 2, 1) := by decide +kernel
theorem dX12_wetIn_7 : decode cX12_wetIn 7 = .ok (.bipush 60, 2) := by decide +kernel
theorem dX12_wetIn_9 : decode cX12_wetIn 9 = .ok (.if_icmp .gt 24, 3) := by decide +kernel
theorem dX12_wetIn_12 : decode cX12_wetIn 12 = .ok (.aload_n 0, 1) := by decide +kernel
theorem dX12_wetIn_13 : decode cX12_wetIn 13 = .ok (.iconst 0, 1) := by decide +kernel
theorem dX12_wetIn_14 : decode cX12_wetIn 14 = .ok (.invokevirtual 275, 3) := by decide +kernel
theorem dX12_wetIn_17 : decode cX12_wetIn 17 = .ok (.i2l, 1) := by decide +kernel
theorem dX12_wetIn_18 : decode cX12_wetIn 18 = .ok (.iload_n 1, 1) := by decide +kernel
theorem dX12_wetIn_19 : decode cX12_wetIn 19 = .ok (.invokestatic 253, 3) := by decide +kernel
theorem dX12_wetIn_22 : decode cX12_wetIn 22 = .ok (.ifCond .eq 5, 3) := by decide +kernel
theorem dX12_wetIn_25 : decode cX12_wetIn 25 = .ok (.iload_n 2, 1) := by decide +kernel
theorem dX12_wetIn_26 : decode cX12_wetIn 26 = .ok (.ireturn, 1) := by decide +kernel
theorem dX12_wetIn_27 : decode cX12_wetIn 27 = .ok (.iinc 2 1, 3) := by decide +kernel
theorem dX12_wetIn_30 : decode cX12_wetIn 30 = .ok (.goto (-24), 3) := by decide +kernel
theorem dX12_wetIn_33 : decode cX12_wetIn 33 = .ok (.iconst (-1), 1) := by decide +kernel
theorem dX12_wetIn_34 : decode cX12_wetIn 34 = .ok (.ireturn, 1) := by decide +kernel
theorem dX12_when_0 : decode cX12_when 0 = .ok (.aload_n 0, 1) := by decide +kernel
theorem dX12_when_1 : decode cX12_when 1 = .ok (.iconst 0, 1) := by decide +kernel
theorem dX12_when_2 : decode cX12_when 2 = .ok (.putfield 1, 3) := by decide +kernel
theorem dX12_when_5 : decode cX12_when 5 = .ok (.aload_n 0, 1) := by decide +kernel
theorem dX12_when_6 : decode cX12_when 6 = .ok (.iload_n 1, 1) := by decide +kernel
theorem dX12_when_7 : decode cX12_when 7 = .ok (.i2l, 1) := by decide +kernel
theorem dX12_when_8 : decode cX12_when 8 = .ok (.invokevirtual 230, 3) := by decide +kernel
theorem dX12_when_11 : decode cX12_when 11 = .ok (.ifCond .eq 11, 3) := by decide +kernel
theorem dX12_when_14 : decode cX12_when 14 = .ok (.aload_n 0, 1) := by decide +kernel
theorem dX12_when_15 : decode cX12_when 15 = .ok (.iload_n 1, 1) := by decide +kernel
theorem dX12_when_16 : decode cX12_when 16 = .ok (.invokevirtual 382, 3) := by decide +kernel
theorem dX12_when_19 : decode cX12_when 19 = .ok (.goto 5, 3) := by decide +kernel
theorem dX12_when_22 : decode cX12_when 22 = .ok (.bipush (-2), 2) := by decide +kernel
theorem dX12_when_24 : decode cX12_when 24 = .ok (.ireturn, 1) := by decide +kernel
theorem dX12_worn_0 : decode cX12_worn 0 = .ok (.aload_n 0, 1) := by decide +kernel
theorem dX12_worn_1 : decode cX12_worn 1 = .ok (.iconst 0, 1) := by decide +kernel
theorem dX12_worn_2 : decode cX12_worn 2 = .ok (.putfield 1, 3) := by decide +kernel
theorem dX12_worn_5 : decode cX12_worn 5 = .ok (.aload_n 0, 1) := by decide +kernel
theorem dX12_worn_6 : decode cX12_worn 6 = .ok (.iload_n 1, 1) := by decide +kernel
theorem dX12_worn_7 : decode cX12_worn 7 = .ok (.i2l, 1) := by decide +kernel
theorem dX12_worn_8 : decode cX12_worn 8 = .ok (.invokevirtual 230, 3) := by decide +kernel
theorem dX12_worn_11 : decode cX12_worn 11 = .ok (.ifCond .ne 6, 3) := by decide +kernel
theorem dX12_worn_14 : decode cX12_worn 14 = .ok (.bipush (-2), 2) := by decide +kernel
theorem dX12_worn_16 : decode cX12_worn 16 = .ok (.ireturn, 1) := by decide +kernel
theorem dX12_worn_17 : decode cX12_worn 17 = .ok (.iload_n 2, 1) := by decide +kernel
theorem dX12_worn_18 : decode cX12_worn 18 = .ok (.i2l, 1) := by decide +kernel
theorem dX12_worn_19 : decode cX12_worn 19 = .ok (.lconst 0, 1) := by decide +kernel
theorem dX12_worn_20 : decode cX12_worn 20 = .ok (.ldc2_w 377, 3) := by decide +kernel
theorem dX12_worn_23 : decode cX12_worn 23 = .ok (.invokestatic 145, 3) := by decide +kernel
theorem dX12_worn_26 : decode cX12_worn 26 = .ok (.ifCond .ne 6, 3) := by decide +kernel
theorem dX12_worn_29 : decode cX12_worn 29 = .ok (.bipush (-3), 2) := by decide +kernel
theorem dX12_worn_31 : decode cX12_worn 31 = .ok (.ireturn, 1) := by decide +kernel
theorem dX12_worn_32 : decode cX12_worn 32 = .ok (.aload_n 0, 1) := by decide +kernel
theorem dX12_worn_33 : decode cX12_worn 33 = .ok (.iload_n 2, 1) := by decide +kernel
theorem dX12_worn_34 : decode cX12_worn 34 = .ok (.invokevirtual 287, 3) := by decide +kernel
theorem dX12_worn_37 : decode cX12_worn 37 = .ok (.aload_n 0, 1) := by decide +kernel
theorem dX12_worn_38 : decode cX12_worn 38 = .ok (.getfield 36, 3) := by decide +kernel
theorem dX12_worn_41 : decode cX12_worn 41 = .ok (.iload_n 1, 1) := by decide +kernel
theorem dX12_worn_42 : decode cX12_worn 42 = .ok (.iaload, 1) := by decide +kernel
theorem dX12_worn_43 : decode cX12_worn 43 = .ok (.ireturn, 1) := by decide +kernel
theorem dX12_last_0 : decode cX12_last 0 = .ok (.aload_n 0, 1) := by decide +kernel
theorem dX12_last_1 : decode cX12_last 1 = .ok (.iconst 0, 1) := by decide +kernel
theorem dX12_last_2 : decode cX12_last 2 = .ok (.putfield 1, 3) := by decide +kernel
theorem dX12_last_5 : decode cX12_last 5 = .ok (.iconst (-1), 1) := by decide +kernel
theorem dX12_last_6 : decode cX12_last 6 = .ok (.istore_n 1, 1) := by decide +kernel
theorem dX12_last_7 : decode cX12_last 7 = .ok (.iconst (-1), 1) := by decide +kernel
theorem dX12_last_8 : decode cX12_last 8 = .ok (.istore_n 2, 1) := by decide +kernel
theorem dX12_last_9 : decode cX12_last 9 = .ok (.iconst 0, 1) := by decide +kernel
theorem dX12_last_10 : decode cX12_last 10 = .ok (.istore_n 3, 1) := by decide +kernel
theorem dX12_last_11 : decode cX12_last 11 = .ok (.iload_n 3, 1) := by decide +kernel
theorem dX12_last_12 : decode cX12_last 12 = .ok (.aload_n 0, 1) := by decide +kernel
theorem dX12_last_13 : decode cX12_last 13 = .ok (.getfield 13, 3) := by decide +kernel
theorem dX12_last_16 : decode cX12_last 16 = .ok (.bipush 92, 2) := by decide +kernel
theorem dX12_last_18 : decode cX12_last 18 = .ok (.iaload, 1) := by decide +kernel
theorem dX12_last_19 : decode cX12_last 19 = .ok (.if_icmp .ge 63, 3) := by decide +kernel
theorem dX12_last_22 : decode cX12_last 22 = .ok (.aload_n 0, 1) := by decide +kernel
theorem dX12_last_23 : decode cX12_last 23 = .ok (.getfield 13, 3) := by decide +kernel
theorem dX12_last_26 : decode cX12_last 26 = .ok (.bipush 105, 2) := by decide +kernel
theorem dX12_last_28 : decode cX12_last 28 = .ok (.iaload, 1) := by decide +kernel
theorem dX12_last_29 : decode cX12_last 29 = .ok (.i2l, 1) := by decide +kernel
theorem dX12_last_30 : decode cX12_last 30 = .ok (.iload_n 3, 1) := by decide +kernel
theorem dX12_last_31 : decode cX12_last 31 = .ok (.invokestatic 253, 3) := by decide +kernel
theorem dX12_last_34 : decode cX12_last 34 = .ok (.ifCond .eq 6, 3) := by decide +kernel
theorem dX12_last_37 : decode cX12_last 37 = .ok (.goto 39, 3) := by decide +kernel
theorem dX12_last_40 : decode cX12_last 40 = .ok (.aload_n 0, 1) := by decide +kernel
theorem dX12_last_41 : decode cX12_last 41 = .ok (.iload_n 3, 1) := by decide +kernel
theorem dX12_last_42 : decode cX12_last 42 = .ok (.invokevirtual 374, 3) := by decide +kernel
theorem dX12_last_45 : decode cX12_last 45 = .ok (.iconst (-1), 1) := by decide +kernel
theorem dX12_last_46 : decode cX12_last 46 = .ok (.if_icmp .ne 9, 3) := by decide +kernel
theorem dX12_last_49 : decode cX12_last 49 = .ok (.ldc_w 385, 3) := by decide +kernel
theorem dX12_last_52 : decode cX12_last 52 = .ok (.goto 8, 3) := by decide +kernel
theorem dX12_last_55 : decode cX12_last 55 = .ok (.aload_n 0, 1) := by decide +kernel
theorem dX12_last_56 : decode cX12_last 56 = .ok (.iload_n 3, 1) := by decide +kernel
theorem dX12_last_57 : decode cX12_last 57 = .ok (.invokevirtual 374, 3) := by decide +kernel
theorem dX12_last_60 : decode cX12_last 60 = .ok (.istore 4, 2) := by decide +kernel
theorem dX12_last_62 : decode cX12_last 62 = .ok (.iload 4, 2) := by decide +kernel
theorem dX12_last_64 : decode cX12_last 64 = .ok (.iload_n 2, 1) := by decide +kernel
theorem dX12_last_65 : decode cX12_last 65 = .ok (.if_icmp .gt 6, 3) := by decide +kernel
theorem dX12_last_68 : decode cX12_last 68 = .ok (.goto 8, 3) := by decide +kernel
theorem dX12_last_71 : decode cX12_last 71 = .ok (.iload_n 3, 1) := by decide +kernel
theorem dX12_last_72 : decode cX12_last 72 = .ok (.istore_n 1, 1) := by decide +kernel
theorem dX12_last_73 : decode cX12_last 73 = .ok (.iload 4, 2) := by decide +kernel
theorem dX12_last_75 : decode cX12_last 75 = .ok (.istore_n 2, 1) := by decide +kernel
theorem dX12_last_76 : decode cX12_last 76 = .ok (.iinc 3 1, 3) := by decide +kernel
theorem dX12_last_79 : decode cX12_last 79 = .ok (.goto (-68), 3) := by decide +kernel
theorem dX12_last_82 : decode cX12_last 82 = .ok (.iload_n 1, 1) := by decide +kernel
theorem dX12_last_83 : decode cX12_last 83 = .ok (.ireturn, 1) := by decide +kernel
theorem dX12_owner_0 : decode cX12_owner 0 = .ok (.aload_n 0, 1) := by decide +kernel
theorem dX12_owner_1 : decode cX12_owner 1 = .ok (.iconst 0, 1) := by decide +kernel
theorem dX12_owner_2 : decode cX12_owner 2 = .ok (.putfield 1, 3) := by decide +kernel
theorem dX12_owner_5 : decode cX12_owner 5 = .ok (.iload_n 1, 1) := by decide +kernel
theorem dX12_owner_6 : decode cX12_owner 6 = .ok (.i2l, 1) := by decide +kernel
theorem dX12_owner_7 : decode cX12_owner 7 = .ok (.lconst 0, 1) := by decide +kernel
theorem dX12_owner_8 : decode cX12_owner 8 = .ok (.ldc2_w 377, 3) := by decide +kernel
theorem dX12_owner_11 : decode cX12_owner 11 = .ok (.invokestatic 145, 3) := by decide +kernel
theorem dX12_owner_14 : decode cX12_owner 14 = .ok (.ifCond .ne 6, 3) := by decide +kernel
theorem dX12_owner_17 : decode cX12_owner 17 = .ok (.bipush (-3), 2) := by decide +kernel
theorem dX12_owner_19 : decode cX12_owner 19 = .ok (.ireturn, 1) := by decide +kernel
theorem dX12_owner_20 : decode cX12_owner 20 = .ok (.aload_n 0, 1) := by decide +kernel
theorem dX12_owner_21 : decode cX12_owner 21 = .ok (.iload_n 1, 1) := by decide +kernel
theorem dX12_owner_22 : decode cX12_owner 22 = .ok (.invokevirtual 287, 3) := by decide +kernel
theorem dX12_owner_25 : decode cX12_owner 25 = .ok (.iconst (-1), 1) := by decide +kernel
theorem dX12_owner_26 : decode cX12_owner 26 = .ok (.istore_n 2, 1) := by decide +kernel
theorem dX12_owner_27 : decode cX12_owner 27 = .ok (.iconst 0, 1) := by decide +kernel
theorem dX12_owner_28 : decode cX12_owner 28 = .ok (.istore_n 3, 1) := by decide +kernel
theorem dX12_owner_29 : decode cX12_owner 29 = .ok (.iconst 0, 1) := by decide +kernel
theorem dX12_owner_30 : decode cX12_owner 30 = .ok (.istore 4, 2) := by decide +kernel
theorem dX12_owner_32 : decode cX12_owner 32 = .ok (.iload 4, 2) := by decide +kernel
theorem dX12_owner_34 : decode cX12_owner 34 = .ok (.iconst 5, 1) := by decide +kernel
theorem dX12_owner_35 : decode cX12_owner 35 = .ok (.if_icmp .ge 90, 3) := by decide +kernel
theorem dX12_owner_38 : decode cX12_owner 38 = .ok (.iconst 0, 1) := by decide +kernel
theorem dX12_owner_39 : decode cX12_owner 39 = .ok (.istore 5, 2) := by decide +kernel
theorem dX12_owner_41 : decode cX12_owner 41 = .ok (.iconst 0, 1) := by decide +kernel
theorem dX12_owner_42 : decode cX12_owner 42 = .ok (.istore 6, 2) := by decide +kernel
theorem dX12_owner_44 : decode cX12_owner 44 = .ok (.iload 6, 2) := by decide +kernel
theorem dX12_owner_46 : decode cX12_owner 46 = .ok (.aload_n 0, 1) := by decide +kernel
theorem dX12_owner_47 : decode cX12_owner 47 = .ok (.getfield 13, 3) := by decide +kernel
theorem dX12_owner_50 : decode cX12_owner 50 = .ok (.bipush 92, 2) := by decide +kernel
theorem dX12_owner_52 : decode cX12_owner 52 = .ok (.iaload, 1) := by decide +kernel
theorem dX12_owner_53 : decode cX12_owner 53 = .ok (.if_icmp .ge 51, 3) := by decide +kernel
theorem dX12_owner_56 : decode cX12_owner 56 = .ok (.iload 5, 2) := by decide +kernel
theorem dX12_owner_58 : decode cX12_owner 58 = .ok (.aload_n 0, 1) := by decide +kernel
theorem dX12_owner_59 : decode cX12_owner 59 = .ok (.getfield 247, 3) := by decide +kernel
theorem dX12_owner_62 : decode cX12_owner 62 = .ok (.i2l, 1) := by decide +kernel
theorem dX12_owner_63 : decode cX12_owner 63 = .ok (.iload 6, 2) := by decide +kernel
theorem dX12_owner_65 : decode cX12_owner 65 = .ok (.invokestatic 253, 3) := by decide +kernel
theorem dX12_owner_68 : decode cX12_owner 68 = .ok (.ifCond .ne 26, 3) := by decide +kernel
theorem dX12_owner_71 : decode cX12_owner 71 = .ok (.aload_n 0, 1) := by decide +kernel
theorem dX12_owner_72 : decode cX12_owner 72 = .ok (.getfield 13, 3) := by decide +kernel
theorem dX12_owner_75 : decode cX12_owner 75 = .ok (.bipush 93, 2) := by decide +kernel
theorem dX12_owner_77 : decode cX12_owner 77 = .ok (.iconst 2, 1) := by decide +kernel
theorem dX12_owner_78 : decode cX12_owner 78 = .ok (.iload 6, 2) := by decide +kernel
theorem dX12_owner_80 : decode cX12_owner 80 = .ok (.imul, 1) := by decide +kernel
theorem dX12_owner_81 : decode cX12_owner 81 = .ok (.iadd, 1) := by decide +kernel
theorem dX12_owner_82 : decode cX12_owner 82 = .ok (.iconst 1, 1) := by decide +kernel
theorem dX12_owner_83 : decode cX12_owner 83 = .ok (.iadd, 1) := by decide +kernel
theorem dX12_owner_84 : decode cX12_owner 84 = .ok (.iaload, 1) := by decide +kernel
theorem dX12_owner_85 : decode cX12_owner 85 = .ok (.iload 4, 2) := by decide +kernel
theorem dX12_owner_87 : decode cX12_owner 87 = .ok (.if_icmp .ne 7, 3) := by decide +kernel
theorem dX12_owner_90 : decode cX12_owner 90 = .ok (.iconst 1, 1) := by decide +kernel
theorem dX12_owner_91 : decode cX12_owner 91 = .ok (.goto 4, 3) := by decide +kernel
theorem dX12_owner_94 : decode cX12_owner 94 = .ok (.iconst 0, 1) := by decide +kernel
theorem dX12_owner_95 : decode cX12_owner 95 = .ok (.iadd, 1) := by decide +kernel
theorem dX12_owner_96 : decode cX12_owner 96 = .ok (.istore 5, 2) := by decide +kernel
theorem dX12_owner_98 : decode cX12_owner 98 = .ok (.iinc 6 1, 3) := by decide +kernel
theorem dX12_owner_101 : decode cX12_owner 101 = .ok (.goto (-57), 3) := by decide +kernel
theorem dX12_owner_104 : decode cX12_owner 104 = .ok (.iload 5, 2) := by decide +kernel
theorem dX12_owner_106 : decode cX12_owner 106 = .ok (.iload_n 3, 1) := by decide +kernel
theorem dX12_owner_107 : decode cX12_owner 107 = .ok (.if_icmp .gt 6, 3) := by decide +kernel
theorem dX12_owner_110 : decode cX12_owner 110 = .ok (.goto 9, 3) := by decide +kernel
theorem dX12_owner_113 : decode cX12_owner 113 = .ok (.iload 4, 2) := by decide +kernel
theorem dX12_owner_115 : decode cX12_owner 115 = .ok (.istore_n 2, 1) := by decide +kernel
theorem dX12_owner_116 : decode cX12_owner 116 = .ok (.iload 5, 2) := by decide +kernel
theorem dX12_owner_118 : decode cX12_owner 118 = .ok (.istore_n 3, 1) := by decide +kernel
theorem dX12_owner_119 : decode cX12_owner 119 = .ok (.iinc 4 1, 3) := by decide +kernel
theorem dX12_owner_122 : decode cX12_owner 122 = .ok (.goto (-90), 3) := by decide +kernel
theorem dX12_owner_125 : decode cX12_owner 125 = .ok (.iload_n 2, 1) := by decide +kernel
theorem dX12_owner_126 : decode cX12_owner 126 = .ok (.ireturn, 1) := by decide +kernel
theorem dX12_laysRoom_0 : decode cX12_laysRoom 0 = .ok (.iconst 0, 1) := by decide +kernel
theorem dX12_laysRoom_1 : decode cX12_laysRoom 1 = .ok (.istore_n 2, 1) := by decide +kernel
theorem dX12_laysRoom_2 : decode cX12_laysRoom 2 = .ok (.iload_n 2, 1) := by decide +kernel
theorem dX12_laysRoom_3 : decode cX12_laysRoom 3 = .ok (.sipush 2601, 3) := by decide +kernel
theorem dX12_laysRoom_6 : decode cX12_laysRoom 6 = .ok (.if_icmp .ge 16, 3) := by decide +kernel
theorem dX12_laysRoom_9 : decode cX12_laysRoom 9 = .ok (.aload_n 0, 1) := by decide +kernel
theorem dX12_laysRoom_10 : decode cX12_laysRoom 10 = .ok (.getfield 45, 3) := by decide +kernel
theorem dX12_laysRoom_13 : decode cX12_laysRoom 13 = .ok (.iload_n 2, 1) := by decide +kernel
theorem dX12_laysRoom_14 : decode cX12_laysRoom 14 = .ok (.iconst 0, 1) := by decide +kernel
theorem dX12_laysRoom_15 : decode cX12_laysRoom 15 = .ok (.iastore, 1) := by decide +kernel
theorem dX12_laysRoom_16 : decode cX12_laysRoom 16 = .ok (.iinc 2 1, 3) := by decide +kernel
theorem dX12_laysRoom_19 : decode cX12_laysRoom 19 = .ok (.goto (-17), 3) := by decide +kernel
theorem dX12_laysRoom_22 : decode cX12_laysRoom 22 = .ok (.iconst 0, 1) := by decide +kernel
theorem dX12_laysRoom_23 : decode cX12_laysRoom 23 = .ok (.istore_n 2, 1) := by decide +kernel
theorem dX12_laysRoom_24 : decode cX12_laysRoom 24 = .ok (.aload_n 0, 1) := by decide +kernel
theorem dX12_laysRoom_25 : decode cX12_laysRoom 25 = .ok (.iload_n 2, 1) := by decide +kernel
theorem dX12_laysRoom_26 : decode cX12_laysRoom 26 = .ok (.i2l, 1) := by decide +kernel
theorem dX12_laysRoom_27 : decode cX12_laysRoom 27 = .ok (.invokevirtual 230, 3) := by decide +kernel
theorem dX12_laysRoom_30 : decode cX12_laysRoom 30 = .ok (.ifCond .eq 127, 3) := by decide +kernel
theorem dX12_laysRoom_33 : decode cX12_laysRoom 33 = .ok (.aload_n 0, 1) := by decide +kernel
theorem dX12_laysRoom_34 : decode cX12_laysRoom 34 = .ok (.getfield 45, 3) := by decide +kernel
theorem dX12_laysRoom_37 : decode cX12_laysRoom 37 = .ok (.bipush 102, 2) := by decide +kernel
theorem dX12_laysRoom_39 : decode cX12_laysRoom 39 = .ok (.iload_n 2, 1) := by decide +kernel
theorem dX12_laysRoom_40 : decode cX12_laysRoom 40 = .ok (.imul, 1) := by decide +kernel
theorem dX12_laysRoom_41 : decode cX12_laysRoom 41 = .ok (.iconst 2, 1) := by decide +kernel
theorem dX12_laysRoom_42 : decode cX12_laysRoom 42 = .ok (.iload_n 2, 1) := by decide +kernel
theorem dX12_laysRoom_43 : decode cX12_laysRoom 43 = .ok (.imul, 1) := by decide +kernel
theorem dX12_laysRoom_44 : decode cX12_laysRoom 44 = .ok (.iadd, 1) := by decide +kernel
theorem dX12_laysRoom_45 : decode cX12_laysRoom 45 = .ok (.iconst 1, 1) := by decide +kernel
theorem dX12_laysRoom_46 : decode cX12_laysRoom 46 = .ok (.iadd, 1) := by decide +kernel
theorem dX12_laysRoom_47 : decode cX12_laysRoom 47 = .ok (.aload_n 0, 1) := by decide +kernel
theorem dX12_laysRoom_48 : decode cX12_laysRoom 48 = .ok (.getfield 13, 3) := by decide +kernel
theorem dX12_laysRoom_51 : decode cX12_laysRoom 51 = .ok (.bipush 67, 2) := by decide +kernel
theorem dX12_laysRoom_53 : decode cX12_laysRoom 53 = .ok (.iload_n 2, 1) := by decide +kernel
theorem dX12_laysRoom_54 : decode cX12_laysRoom 54 = .ok (.iadd, 1) := by decide +kernel
theorem dX12_laysRoom_55 : decode cX12_laysRoom 55 = .ok (.iaload, 1) := by decide +kernel
theorem dX12_laysRoom_56 : decode cX12_laysRoom 56 = .ok (.iload_n 1, 1) := by decide +kernel
theorem dX12_laysRoom_57 : decode cX12_laysRoom 57 = .ok (.if_icmp .ge 17, 3) := by decide +kernel
theorem dX12_laysRoom_60 : decode cX12_laysRoom 60 = .ok (.iload_n 1, 1) := by decide +kernel
theorem dX12_laysRoom_61 : decode cX12_laysRoom 61 = .ok (.aload_n 0, 1) := by decide +kernel
theorem dX12_laysRoom_62 : decode cX12_laysRoom 62 = .ok (.getfield 13, 3) := by decide +kernel
theorem dX12_laysRoom_65 : decode cX12_laysRoom 65 = .ok (.bipush 67, 2) := by decide +kernel
theorem dX12_laysRoom_67 : decode cX12_laysRoom 67 = .ok (.iload_n 2, 1) := by decide +kernel
theorem dX12_laysRoom_68 : decode cX12_laysRoom 68 = .ok (.iadd, 1) := by decide +kernel
theorem dX12_laysRoom_69 : decode cX12_laysRoom 69 = .ok (.iaload, 1) := by decide +kernel
theorem dX12_laysRoom_70 : decode cX12_laysRoom 70 = .ok (.isub, 1) := by decide +kernel
theorem dX12_laysRoom_71 : decode cX12_laysRoom 71 = .ok (.goto 4, 3) := by decide +kernel
theorem dX12_laysRoom_74 : decode cX12_laysRoom 74 = .ok (.iconst 0, 1) := by decide +kernel
theorem dX12_laysRoom_75 : decode cX12_laysRoom 75 = .ok (.iastore, 1) := by decide +kernel
theorem dX12_laysRoom_76 : decode cX12_laysRoom 76 = .ok (.iload_n 2, 1) := by decide +kernel
theorem dX12_laysRoom_77 : decode cX12_laysRoom 77 = .ok (.aload_n 0, 1) := by decide +kernel
theorem dX12_laysRoom_78 : decode cX12_laysRoom 78 = .ok (.getfield 13, 3) := by decide +kernel
theorem dX12_laysRoom_81 : decode cX12_laysRoom 81 = .ok (.iconst 2, 1) := by decide +kernel
theorem dX12_laysRoom_82 : decode cX12_laysRoom 82 = .ok (.iaload, 1) := by decide +kernel
theorem dX12_laysRoom_83 : decode cX12_laysRoom 83 = .ok (.if_icmp .ge 18, 3) := by decide +kernel
theorem dX12_laysRoom_86 : decode cX12_laysRoom 86 = .ok (.aload_n 0, 1) := by decide +kernel
theorem dX12_laysRoom_87 : decode cX12_laysRoom 87 = .ok (.getfield 45, 3) := by decide +kernel
theorem dX12_laysRoom_90 : decode cX12_laysRoom 90 = .ok (.sipush 2550, 3) := by decide +kernel
theorem dX12_laysRoom_93 : decode cX12_laysRoom 93 = .ok (.iconst 2, 1) := by decide +kernel
theorem dX12_laysRoom_94 : decode cX12_laysRoom 94 = .ok (.iload_n 2, 1) := by decide +kernel
theorem dX12_laysRoom_95 : decode cX12_laysRoom 95 = .ok (.imul, 1) := by decide +kernel
theorem dX12_laysRoom_96 : decode cX12_laysRoom 96 = .ok (.iadd, 1) := by decide +kernel
theorem dX12_laysRoom_97 : decode cX12_laysRoom 97 = .ok (.ldc_w 385, 3) := by decide +kernel
theorem dX12_laysRoom_100 : decode cX12_laysRoom 100 = .ok (.iastore, 1) := by decide +kernel
theorem dX12_laysRoom_101 : decode cX12_laysRoom 101 = .ok (.iconst 0, 1) := by decide +kernel
theorem dX12_laysRoom_102 : decode cX12_laysRoom 102 = .ok (.istore_n 3, 1) := by decide +kernel
theorem dX12_laysRoom_103 : decode cX12_laysRoom 103 = .ok (.aload_n 0, 1) := by decide +kernel
theorem dX12_laysRoom_104 : decode cX12_laysRoom 104 = .ok (.iload_n 3, 1) := by decide +kernel
theorem dX12_laysRoom_105 : decode cX12_laysRoom 105 = .ok (.i2l, 1) := by decide +kernel
theorem dX12_laysRoom_106 : decode cX12_laysRoom 106 = .ok (.invokevirtual 230, 3) := by decide +kernel
theorem dX12_laysRoom_109 : decode cX12_laysRoom 109 = .ok (.ifCond .eq 42, 3) := by decide +kernel
theorem dX12_laysRoom_112 : decode cX12_laysRoom 112 = .ok (.aload_n 0, 1) := by decide +kernel
theorem dX12_laysRoom_113 : decode cX12_laysRoom 113 = .ok (.iload_n 2, 1) := by decide +kernel
theorem dX12_laysRoom_114 : decode cX12_laysRoom 114 = .ok (.invokevirtual 257, 3) := by decide +kernel
theorem dX12_laysRoom_117 : decode cX12_laysRoom 117 = .ok (.i2l, 1) := by decide +kernel
theorem dX12_laysRoom_118 : decode cX12_laysRoom 118 = .ok (.iload_n 3, 1) := by decide +kernel
theorem dX12_laysRoom_119 : decode cX12_laysRoom 119 = .ok (.invokestatic 253, 3) := by decide +kernel
theorem dX12_laysRoom_122 : decode cX12_laysRoom 122 = .ok (.ifCond .eq 23, 3) := by decide +kernel
theorem dX12_laysRoom_125 : decode cX12_laysRoom 125 = .ok (.aload_n 0, 1) := by decide +kernel
theorem dX12_laysRoom_126 : decode cX12_laysRoom 126 = .ok (.getfield 45, 3) := by decide +kernel
theorem dX12_laysRoom_129 : decode cX12_laysRoom 129 = .ok (.bipush 51, 2) := by decide +kernel
theorem dX12_laysRoom_131 : decode cX12_laysRoom 131 = .ok (.iconst 2, 1) := by decide +kernel
theorem dX12_laysRoom_132 : decode cX12_laysRoom 132 = .ok (.iload_n 2, 1) := by decide +kernel
theorem dX12_laysRoom_133 : decode cX12_laysRoom 133 = .ok (.imul, 1) := by decide +kernel
theorem dX12_laysRoom_134 : decode cX12_laysRoom 134 = .ok (.iconst 1, 1) := by decide +kernel
theorem dX12_laysRoom_135 : decode cX12_laysRoom 135 = .ok (.iadd, 1) := by decide +kernel
theorem dX12_laysRoom_136 : decode cX12_laysRoom 136 = .ok (.imul, 1) := by decide +kernel
theorem dX12_laysRoom_137 : decode cX12_laysRoom 137 = .ok (.iconst 2, 1) := by decide +kernel
theorem dX12_laysRoom_138 : decode cX12_laysRoom 138 = .ok (.iload_n 3, 1) := by decide +kernel
theorem dX12_laysRoom_139 : decode cX12_laysRoom 139 = .ok (.imul, 1) := by decide +kernel
theorem dX12_laysRoom_140 : decode cX12_laysRoom 140 = .ok (.iadd, 1) := by decide +kernel
theorem dX12_laysRoom_141 : decode cX12_laysRoom 141 = .ok (.ldc_w 385, 3) := by decide +kernel
theorem dX12_laysRoom_144 : decode cX12_laysRoom 144 = .ok (.iastore, 1) := by decide +kernel
theorem dX12_laysRoom_145 : decode cX12_laysRoom 145 = .ok (.iinc 3 1, 3) := by decide +kernel
theorem dX12_laysRoom_148 : decode cX12_laysRoom 148 = .ok (.goto (-45), 3) := by decide +kernel
theorem dX12_laysRoom_151 : decode cX12_laysRoom 151 = .ok (.iinc 2 1, 3) := by decide +kernel
theorem dX12_laysRoom_154 : decode cX12_laysRoom 154 = .ok (.goto (-130), 3) := by decide +kernel
theorem dX12_laysRoom_157 : decode cX12_laysRoom 157 = .ok (.return_, 1) := by decide +kernel
theorem dX12_isCome_0 : decode cX12_isCome 0 = .ok (.iconst 0, 1) := by decide +kernel
theorem dX12_isCome_1 : decode cX12_isCome 1 = .ok (.istore_n 2, 1) := by decide +kernel
theorem dX12_isCome_2 : decode cX12_isCome 2 = .ok (.iload_n 2, 1) := by decide +kernel
theorem dX12_isCome_3 : decode cX12_isCome 3 = .ok (.bipush 51, 2) := by decide +kernel
theorem dX12_isCome_5 : decode cX12_isCome 5 = .ok (.if_icmp .ge 16, 3) := by decide +kernel
theorem dX12_isCome_8 : decode cX12_isCome 8 = .ok (.aload_n 0, 1) := by decide +kernel
theorem dX12_isCome_9 : decode cX12_isCome 9 = .ok (.getfield 48, 3) := by decide +kernel
theorem dX12_isCome_12 : decode cX12_isCome 12 = .ok (.iload_n 2, 1) := by decide +kernel
theorem dX12_isCome_13 : decode cX12_isCome 13 = .ok (.iconst (-1), 1) := by decide +kernel
theorem dX12_isCome_14 : decode cX12_isCome 14 = .ok (.iastore, 1) := by decide +kernel
theorem dX12_isCome_15 : decode cX12_isCome 15 = .ok (.iinc 2 1, 3) := by decide +kernel
theorem dX12_isCome_18 : decode cX12_isCome 18 = .ok (.goto (-16), 3) := by decide +kernel
theorem dX12_isCome_21 : decode cX12_isCome 21 = .ok (.aload_n 0, 1) := by decide +kernel
theorem dX12_isCome_22 : decode cX12_isCome 22 = .ok (.getfield 48, 3) := by decide +kernel
theorem dX12_isCome_25 : decode cX12_isCome 25 = .ok (.bipush 50, 2) := by decide +kernel
theorem dX12_isCome_27 : decode cX12_isCome 27 = .ok (.bipush 50, 2) := by decide +kernel
theorem dX12_isCome_29 : decode cX12_isCome 29 = .ok (.iastore, 1) := by decide +kernel
theorem dX12_isCome_30 : decode cX12_isCome 30 = .ok (.aload_n 0, 1) := by decide +kernel
theorem dX12_isCome_31 : decode cX12_isCome 31 = .ok (.getfield 51, 3) := by decide +kernel
theorem dX12_isCome_34 : decode cX12_isCome 34 = .ok (.iconst 0, 1) := by decide +kernel
theorem dX12_isCome_35 : decode cX12_isCome 35 = .ok (.bipush 50, 2) := by decide +kernel
theorem dX12_isCome_37 : decode cX12_isCome 37 = .ok (.iastore, 1) := by decide +kernel
theorem dX12_isCome_38 : decode cX12_isCome 38 = .ok (.iconst 1, 1) := by decide +kernel
theorem dX12_isCome_39 : decode cX12_isCome 39 = .ok (.istore_n 2, 1) := by decide +kernel
theorem dX12_isCome_40 : decode cX12_isCome 40 = .ok (.iconst 0, 1) := by decide +kernel
theorem dX12_isCome_41 : decode cX12_isCome 41 = .ok (.istore_n 3, 1) := by decide +kernel
theorem dX12_isCome_42 : decode cX12_isCome 42 = .ok (.iload_n 3, 1) := by decide +kernel
theorem dX12_isCome_43 : decode cX12_isCome 43 = .ok (.iload_n 2, 1) := by decide +kernel
theorem dX12_isCome_44 : decode cX12_isCome 44 = .ok (.if_icmp .ge 83, 3) := by decide +kernel
theorem dX12_isCome_47 : decode cX12_isCome 47 = .ok (.iconst 0, 1) := by decide +kernel
theorem dX12_isCome_48 : decode cX12_isCome 48 = .ok (.istore 4, 2) := by decide +kernel
theorem dX12_isCome_50 : decode cX12_isCome 50 = .ok (.iload 4, 2) := by decide +kernel
theorem dX12_isCome_52 : decode cX12_isCome 52 = .ok (.bipush 51, 2) := by decide +kernel
theorem dX12_isCome_54 : decode cX12_isCome 54 = .ok (.if_icmp .ge 67, 3) := by decide +kernel
theorem dX12_isCome_57 : decode cX12_isCome 57 = .ok (.aload_n 0, 1) := by decide +kernel
theorem dX12_isCome_58 : decode cX12_isCome 58 = .ok (.getfield 48, 3) := by decide +kernel
theorem dX12_isCome_61 : decode cX12_isCome 61 = .ok (.iload 4, 2) := by decide +kernel
theorem dX12_isCome_63 : decode cX12_isCome 63 = .ok (.iaload, 1) := by decide +kernel
theorem dX12_isCome_64 : decode cX12_isCome 64 = .ok (.iconst (-1), 1) := by decide +kernel
theorem dX12_isCome_65 : decode cX12_isCome 65 = .ok (.if_icmp .ne 50, 3) := by decide +kernel
theorem dX12_isCome_68 : decode cX12_isCome 68 = .ok (.aload_n 0, 1) := by decide +kernel
theorem dX12_isCome_69 : decode cX12_isCome 69 = .ok (.getfield 45, 3) := by decide +kernel
theorem dX12_isCome_72 : decode cX12_isCome 72 = .ok (.bipush 51, 2) := by decide +kernel
theorem dX12_isCome_74 : decode cX12_isCome 74 = .ok (.aload_n 0, 1) := by decide +kernel
theorem dX12_isCome_75 : decode cX12_isCome 75 = .ok (.getfield 51, 3) := by decide +kernel
theorem dX12_isCome_78 : decode cX12_isCome 78 = .ok (.iload_n 3, 1) := by decide +kernel
theorem dX12_isCome_79 : decode cX12_isCome 79 = .ok (.iaload, 1) := by decide +kernel
theorem dX12_isCome_80 : decode cX12_isCome 80 = .ok (.imul, 1) := by decide +kernel
theorem dX12_isCome_81 : decode cX12_isCome 81 = .ok (.iload 4, 2) := by decide +kernel
theorem dX12_isCome_83 : decode cX12_isCome 83 = .ok (.iadd, 1) := by decide +kernel
theorem dX12_isCome_84 : decode cX12_isCome 84 = .ok (.iaload, 1) := by decide +kernel
theorem dX12_isCome_85 : decode cX12_isCome 85 = .ok (.ifCond .ne 6, 3) := by decide +kernel
theorem dX12_isCome_88 : decode cX12_isCome 88 = .ok (.goto 27, 3) := by decide +kernel
theorem dX12_isCome_91 : decode cX12_isCome 91 = .ok (.aload_n 0, 1) := by decide +kernel
theorem dX12_isCome_92 : decode cX12_isCome 92 = .ok (.getfield 48, 3) := by decide +kernel
theorem dX12_isCome_95 : decode cX12_isCome 95 = .ok (.iload 4, 2) := by decide +kernel
theorem dX12_isCome_97 : decode cX12_isCome 97 = .ok (.aload_n 0, 1) := by decide +kernel
theorem dX12_isCome_98 : decode cX12_isCome 98 = .ok (.getfield 51, 3) := by decide +kernel
theorem dX12_isCome_101 : decode cX12_isCome 101 = .ok (.iload_n 3, 1) := by decide +kernel
theorem dX12_isCome_102 : decode cX12_isCome 102 = .ok (.iaload, 1) := by decide +kernel
theorem dX12_isCome_103 : decode cX12_isCome 103 = .ok (.iastore, 1) := by decide +kernel
theorem dX12_isCome_104 : decode cX12_isCome 104 = .ok (.aload_n 0, 1) := by decide +kernel
theorem dX12_isCome_105 : decode cX12_isCome 105 = .ok (.getfield 51, 3) := by decide +kernel
theorem dX12_isCome_108 : decode cX12_isCome 108 = .ok (.iload_n 2, 1) := by decide +kernel
theorem dX12_isCome_109 : decode cX12_isCome 109 = .ok (.iload 4, 2) := by decide +kernel
theorem dX12_isCome_111 : decode cX12_isCome 111 = .ok (.iastore, 1) := by decide +kernel
theorem dX12_isCome_112 : decode cX12_isCome 112 = .ok (.iinc 2 1, 3) := by decide +kernel
theorem dX12_isCome_115 : decode cX12_isCome 115 = .ok (.iinc 4 1, 3) := by decide +kernel
theorem dX12_isCome_118 : decode cX12_isCome 118 = .ok (.goto (-68), 3) := by decide +kernel
theorem dX12_isCome_121 : decode cX12_isCome 121 = .ok (.iinc 3 1, 3) := by decide +kernel
theorem dX12_isCome_124 : decode cX12_isCome 124 = .ok (.goto (-82), 3) := by decide +kernel
theorem dX12_isCome_127 : decode cX12_isCome 127 = .ok (.aload_n 0, 1) := by decide +kernel
theorem dX12_isCome_128 : decode cX12_isCome 128 = .ok (.getfield 48, 3) := by decide +kernel
theorem dX12_isCome_131 : decode cX12_isCome 131 = .ok (.iload_n 1, 1) := by decide +kernel
theorem dX12_isCome_132 : decode cX12_isCome 132 = .ok (.iaload, 1) := by decide +kernel
theorem dX12_isCome_133 : decode cX12_isCome 133 = .ok (.iconst (-1), 1) := by decide +kernel
theorem dX12_isCome_134 : decode cX12_isCome 134 = .ok (.if_icmp .eq 7, 3) := by decide +kernel
theorem dX12_isCome_137 : decode cX12_isCome 137 = .ok (.iconst 1, 1) := by decide +kernel
theorem dX12_isCome_138 : decode cX12_isCome 138 = .ok (.goto 4, 3) := by decide +kernel
theorem dX12_isCome_141 : decode cX12_isCome 141 = .ok (.iconst 0, 1) := by decide +kernel
theorem dX12_isCome_142 : decode cX12_isCome 142 = .ok (.ireturn, 1) := by decide +kernel
theorem dX12_leastFor_0 : decode cX12_leastFor 0 = .ok (.aload_n 0, 1) := by decide +kernel
theorem dX12_leastFor_1 : decode cX12_leastFor 1 = .ok (.iload_n 2, 1) := by decide +kernel
theorem dX12_leastFor_2 : decode cX12_leastFor 2 = .ok (.invokevirtual 386, 3) := by decide +kernel
theorem dX12_leastFor_5 : decode cX12_leastFor 5 = .ok (.iconst 0, 1) := by decide +kernel
theorem dX12_leastFor_6 : decode cX12_leastFor 6 = .ok (.istore_n 3, 1) := by decide +kernel
theorem dX12_leastFor_7 : decode cX12_leastFor 7 = .ok (.iconst 2, 1) := by decide +kernel
theorem dX12_leastFor_8 : decode cX12_leastFor 8 = .ok (.iload_n 1, 1) := by decide +kernel
theorem dX12_leastFor_9 : decode cX12_leastFor 9 = .ok (.imul, 1) := by decide +kernel
theorem dX12_leastFor_10 : decode cX12_leastFor 10 = .ok (.iconst 1, 1) := by decide +kernel
theorem dX12_leastFor_11 : decode cX12_leastFor 11 = .ok (.iadd, 1) := by decide +kernel
theorem dX12_leastFor_12 : decode cX12_leastFor 12 = .ok (.istore 4, 2) := by decide +kernel
theorem dX12_leastFor_14 : decode cX12_leastFor 14 = .ok (.aload_n 0, 1) := by decide +kernel
theorem dX12_leastFor_15 : decode cX12_leastFor 15 = .ok (.iload 4, 2) := by decide +kernel
theorem dX12_leastFor_17 : decode cX12_leastFor 17 = .ok (.invokevirtual 389, 3) := by decide +kernel
theorem dX12_leastFor_20 : decode cX12_leastFor 20 = .ok (.ifCond .eq 156, 3) := by decide +kernel
theorem dX12_leastFor_23 : decode cX12_leastFor 23 = .ok (.ldc_w 385, 3) := by decide +kernel
theorem dX12_leastFor_26 : decode cX12_leastFor 26 = .ok (.istore 5, 2) := by decide +kernel
theorem dX12_leastFor_28 : decode cX12_leastFor 28 = .ok (.iload 4, 2) := by decide +kernel
theorem dX12_leastFor_30 : decode cX12_leastFor 30 = .ok (.istore 6, 2) := by decide +kernel
theorem dX12_leastFor_32 : decode cX12_leastFor 32 = .ok (.iload 6, 2) := by decide +kernel
theorem dX12_leastFor_34 : decode cX12_leastFor 34 = .ok (.bipush 50, 2) := by decide +kernel
theorem dX12_leastFor_36 : decode cX12_leastFor 36 = .ok (.if_icmp .eq 63, 3) := by decide +kernel
theorem dX12_leastFor_39 : decode cX12_leastFor 39 = .ok (.aload_n 0, 1) := by decide +kernel
theorem dX12_leastFor_40 : decode cX12_leastFor 40 = .ok (.getfield 45, 3) := by decide +kernel
theorem dX12_leastFor_43 : decode cX12_leastFor 43 = .ok (.bipush 51, 2) := by decide +kernel
theorem dX12_leastFor_45 : decode cX12_leastFor 45 = .ok (.aload_n 0, 1) := by decide +kernel
theorem dX12_leastFor_46 : decode cX12_leastFor 46 = .ok (.getfield 48, 3) := by decide +kernel
theorem dX12_leastFor_49 : decode cX12_leastFor 49 = .ok (.iload 6, 2) := by decide +kernel
theorem dX12_leastFor_51 : decode cX12_leastFor 51 = .ok (.iaload, 1) := by decide +kernel
theorem dX12_leastFor_52 : decode cX12_leastFor 52 = .ok (.imul, 1) := by decide +kernel
theorem dX12_leastFor_53 : decode cX12_leastFor 53 = .ok (.iload 6, 2) := by decide +kernel
theorem dX12_leastFor_55 : decode cX12_leastFor 55 = .ok (.iadd, 1) := by decide +kernel
theorem dX12_leastFor_56 : decode cX12_leastFor 56 = .ok (.iaload, 1) := by decide +kernel
theorem dX12_leastFor_57 : decode cX12_leastFor 57 = .ok (.iload 5, 2) := by decide +kernel
theorem dX12_leastFor_59 : decode cX12_leastFor 59 = .ok (.if_icmp .ge 24, 3) := by decide +kernel
theorem dX12_leastFor_62 : decode cX12_leastFor 62 = .ok (.aload_n 0, 1) := by decide +kernel
theorem dX12_leastFor_63 : decode cX12_leastFor 63 = .ok (.getfield 45, 3) := by decide +kernel
theorem dX12_leastFor_66 : decode cX12_leastFor 66 = .ok (.bipush 51, 2) := by decide +kernel
theorem dX12_leastFor_68 : decode cX12_leastFor 68 = .ok (.aload_n 0, 1) := by decide +kernel
theorem dX12_leastFor_69 : decode cX12_leastFor 69 = .ok (.getfield 48, 3) := by decide +kernel
theorem dX12_leastFor_72 : decode cX12_leastFor 72 = .ok (.iload 6, 2) := by decide +kernel
theorem dX12_leastFor_74 : decode cX12_leastFor 74 = .ok (.iaload, 1) := by decide +kernel
theorem dX12_leastFor_75 : decode cX12_leastFor 75 = .ok (.imul, 1) := by decide +kernel
theorem dX12_leastFor_76 : decode cX12_leastFor 76 = .ok (.iload 6, 2) := by decide +kernel
theorem dX12_leastFor_78 : decode cX12_leastFor 78 = .ok (.iadd, 1) := by decide +kernel
theorem dX12_leastFor_79 : decode cX12_leastFor 79 = .ok (.iaload, 1) := by decide +kernel
theorem dX12_leastFor_80 : decode cX12_leastFor 80 = .ok (.goto 5, 3) := by decide +kernel
theorem dX12_leastFor_83 : decode cX12_leastFor 83 = .ok (.iload 5, 2) := by decide +kernel
theorem dX12_leastFor_85 : decode cX12_leastFor 85 = .ok (.istore 5, 2) := by decide +kernel
theorem dX12_leastFor_87 : decode cX12_leastFor 87 = .ok (.aload_n 0, 1) := by decide +kernel
theorem dX12_leastFor_88 : decode cX12_leastFor 88 = .ok (.getfield 48, 3) := by decide +kernel
theorem dX12_leastFor_91 : decode cX12_leastFor 91 = .ok (.iload 6, 2) := by decide +kernel
theorem dX12_leastFor_93 : decode cX12_leastFor 93 = .ok (.iaload, 1) := by decide +kernel
theorem dX12_leastFor_94 : decode cX12_leastFor 94 = .ok (.istore 6, 2) := by decide +kernel
theorem dX12_leastFor_96 : decode cX12_leastFor 96 = .ok (.goto (-64), 3) := by decide +kernel
theorem dX12_leastFor_99 : decode cX12_leastFor 99 = .ok (.iload 4, 2) := by decide +kernel
theorem dX12_leastFor_101 : decode cX12_leastFor 101 = .ok (.istore 6, 2) := by decide +kernel
theorem dX12_leastFor_103 : decode cX12_leastFor 103 = .ok (.iload 6, 2) := by decide +kernel
theorem dX12_leastFor_105 : decode cX12_leastFor 105 = .ok (.bipush 50, 2) := by decide +kernel
theorem dX12_leastFor_107 : decode cX12_leastFor 107 = .ok (.if_icmp .eq 61, 3) := by decide +kernel
theorem dX12_leastFor_110 : decode cX12_leastFor 110 = .ok (.aload_n 0, 1) := by decide +kernel
theorem dX12_leastFor_111 : decode cX12_leastFor 111 = .ok (.getfield 45, 3) := by decide +kernel
theorem dX12_leastFor_114 : decode cX12_leastFor 114 = .ok (.bipush 51, 2) := by decide +kernel
theorem dX12_leastFor_116 : decode cX12_leastFor 116 = .ok (.aload_n 0, 1) := by decide +kernel
theorem dX12_leastFor_117 : decode cX12_leastFor 117 = .ok (.getfield 48, 3) := by decide +kernel
theorem dX12_leastFor_120 : decode cX12_leastFor 120 = .ok (.iload 6, 2) := by decide +kernel
theorem dX12_leastFor_122 : decode cX12_leastFor 122 = .ok (.iaload, 1) := by decide +kernel
theorem dX12_leastFor_123 : decode cX12_leastFor 123 = .ok (.imul, 1) := by decide +kernel
theorem dX12_leastFor_124 : decode cX12_leastFor 124 = .ok (.iload 6, 2) := by decide +kernel
theorem dX12_leastFor_126 : decode cX12_leastFor 126 = .ok (.iadd, 1) := by decide +kernel
theorem dX12_leastFor_127 : decode cX12_leastFor 127 = .ok (.dup2, 1) := by decide +kernel
theorem dX12_leastFor_128 : decode cX12_leastFor 128 = .ok (.iaload, 1) := by decide +kernel
theorem dX12_leastFor_129 : decode cX12_leastFor 129 = .ok (.iload 5, 2) := by decide +kernel
theorem dX12_leastFor_131 : decode cX12_leastFor 131 = .ok (.isub, 1) := by decide +kernel
theorem dX12_leastFor_132 : decode cX12_leastFor 132 = .ok (.iastore, 1) := by decide +kernel
theorem dX12_leastFor_133 : decode cX12_leastFor 133 = .ok (.aload_n 0, 1) := by decide +kernel
theorem dX12_leastFor_134 : decode cX12_leastFor 134 = .ok (.getfield 45, 3) := by decide +kernel
theorem dX12_leastFor_137 : decode cX12_leastFor 137 = .ok (.bipush 51, 2) := by decide +kernel
theorem dX12_leastFor_139 : decode cX12_leastFor 139 = .ok (.iload 6, 2) := by decide +kernel
theorem dX12_leastFor_141 : decode cX12_leastFor 141 = .ok (.imul, 1) := by decide +kernel
theorem dX12_leastFor_142 : decode cX12_leastFor 142 = .ok (.aload_n 0, 1) := by decide +kernel
theorem dX12_leastFor_143 : decode cX12_leastFor 143 = .ok (.getfield 48, 3) := by decide +kernel
theorem dX12_leastFor_146 : decode cX12_leastFor 146 = .ok (.iload 6, 2) := by decide +kernel
theorem dX12_leastFor_148 : decode cX12_leastFor 148 = .ok (.iaload, 1) := by decide +kernel
theorem dX12_leastFor_149 : decode cX12_leastFor 149 = .ok (.iadd, 1) := by decide +kernel
theorem dX12_leastFor_150 : decode cX12_leastFor 150 = .ok (.dup2, 1) := by decide +kernel
theorem dX12_leastFor_151 : decode cX12_leastFor 151 = .ok (.iaload, 1) := by decide +kernel
theorem dX12_leastFor_152 : decode cX12_leastFor 152 = .ok (.iload 5, 2) := by decide +kernel
theorem dX12_leastFor_154 : decode cX12_leastFor 154 = .ok (.iadd, 1) := by decide +kernel
theorem dX12_leastFor_155 : decode cX12_leastFor 155 = .ok (.iastore, 1) := by decide +kernel
theorem dX12_leastFor_156 : decode cX12_leastFor 156 = .ok (.aload_n 0, 1) := by decide +kernel
theorem dX12_leastFor_157 : decode cX12_leastFor 157 = .ok (.getfield 48, 3) := by decide +kernel
theorem dX12_leastFor_160 : decode cX12_leastFor 160 = .ok (.iload 6, 2) := by decide +kernel
theorem dX12_leastFor_162 : decode cX12_leastFor 162 = .ok (.iaload, 1) := by decide +kernel
theorem dX12_leastFor_163 : decode cX12_leastFor 163 = .ok (.istore 6, 2) := by decide +kernel
theorem dX12_leastFor_165 : decode cX12_leastFor 165 = .ok (.goto (-62), 3) := by decide +kernel
theorem dX12_leastFor_168 : decode cX12_leastFor 168 = .ok (.iload_n 3, 1) := by decide +kernel
theorem dX12_leastFor_169 : decode cX12_leastFor 169 = .ok (.iload 5, 2) := by decide +kernel
theorem dX12_leastFor_171 : decode cX12_leastFor 171 = .ok (.iadd, 1) := by decide +kernel
theorem dX12_leastFor_172 : decode cX12_leastFor 172 = .ok (.istore_n 3, 1) := by decide +kernel
theorem dX12_leastFor_173 : decode cX12_leastFor 173 = .ok (.goto (-159), 3) := by decide +kernel
theorem dX12_leastFor_176 : decode cX12_leastFor 176 = .ok (.iload_n 3, 1) := by decide +kernel
theorem dX12_leastFor_177 : decode cX12_leastFor 177 = .ok (.ireturn, 1) := by decide +kernel
theorem dX12_least_0 : decode cX12_least 0 = .ok (.aload_n 0, 1) := by decide +kernel
theorem dX12_least_1 : decode cX12_least 1 = .ok (.iconst 0, 1) := by decide +kernel
theorem dX12_least_2 : decode cX12_least 2 = .ok (.putfield 1, 3) := by decide +kernel
theorem dX12_least_5 : decode cX12_least 5 = .ok (.aload_n 0, 1) := by decide +kernel
theorem dX12_least_6 : decode cX12_least 6 = .ok (.iload_n 1, 1) := by decide +kernel
theorem dX12_least_7 : decode cX12_least 7 = .ok (.i2l, 1) := by decide +kernel
theorem dX12_least_8 : decode cX12_least 8 = .ok (.invokevirtual 230, 3) := by decide +kernel
theorem dX12_least_11 : decode cX12_least 11 = .ok (.ifCond .ne 6, 3) := by decide +kernel
theorem dX12_least_14 : decode cX12_least 14 = .ok (.bipush (-2), 2) := by decide +kernel
theorem dX12_least_16 : decode cX12_least 16 = .ok (.ireturn, 1) := by decide +kernel
theorem dX12_least_17 : decode cX12_least 17 = .ok (.iload_n 2, 1) := by decide +kernel
theorem dX12_least_18 : decode cX12_least 18 = .ok (.i2l, 1) := by decide +kernel
theorem dX12_least_19 : decode cX12_least 19 = .ok (.lconst 0, 1) := by decide +kernel
theorem dX12_least_20 : decode cX12_least 20 = .ok (.ldc2_w 285, 3) := by decide +kernel
theorem dX12_least_23 : decode cX12_least 23 = .ok (.invokestatic 145, 3) := by decide +kernel
theorem dX12_least_26 : decode cX12_least 26 = .ok (.ifCond .eq 12, 3) := by decide +kernel
theorem dX12_least_29 : decode cX12_least 29 = .ok (.aload_n 0, 1) := by decide +kernel
theorem dX12_least_30 : decode cX12_least 30 = .ok (.iload_n 1, 1) := by decide +kernel
theorem dX12_least_31 : decode cX12_least 31 = .ok (.iload_n 2, 1) := by decide +kernel
theorem dX12_least_32 : decode cX12_least 32 = .ok (.invokevirtual 392, 3) := by decide +kernel
theorem dX12_least_35 : decode cX12_least 35 = .ok (.goto 5, 3) := by decide +kernel
theorem dX12_least_38 : decode cX12_least 38 = .ok (.bipush (-3), 2) := by decide +kernel
theorem dX12_least_40 : decode cX12_least 40 = .ok (.ireturn, 1) := by decide +kernel
theorem dX12_safe_0 : decode cX12_safe 0 = .ok (.aload_n 0, 1) := by decide +kernel
theorem dX12_safe_1 : decode cX12_safe 1 = .ok (.iconst 0, 1) := by decide +kernel
theorem dX12_safe_2 : decode cX12_safe 2 = .ok (.putfield 1, 3) := by decide +kernel
theorem dX12_safe_5 : decode cX12_safe 5 = .ok (.aload_n 0, 1) := by decide +kernel
theorem dX12_safe_6 : decode cX12_safe 6 = .ok (.iload_n 1, 1) := by decide +kernel
theorem dX12_safe_7 : decode cX12_safe 7 = .ok (.i2l, 1) := by decide +kernel
theorem dX12_safe_8 : decode cX12_safe 8 = .ok (.invokevirtual 230, 3) := by decide +kernel
theorem dX12_safe_11 : decode cX12_safe 11 = .ok (.ifCond .ne 6, 3) := by decide +kernel
theorem dX12_safe_14 : decode cX12_safe 14 = .ok (.bipush (-2), 2) := by decide +kernel
theorem dX12_safe_16 : decode cX12_safe 16 = .ok (.ireturn, 1) := by decide +kernel
theorem dX12_safe_17 : decode cX12_safe 17 = .ok (.aload_n 0, 1) := by decide +kernel
theorem dX12_safe_18 : decode cX12_safe 18 = .ok (.invokevirtual 272, 3) := by decide +kernel
theorem dX12_safe_21 : decode cX12_safe 21 = .ok (.bipush 10, 2) := by decide +kernel
theorem dX12_safe_23 : decode cX12_safe 23 = .ok (.istore_n 2, 1) := by decide +kernel
theorem dX12_safe_24 : decode cX12_safe 24 = .ok (.aload_n 0, 1) := by decide +kernel
theorem dX12_safe_25 : decode cX12_safe 25 = .ok (.iload_n 2, 1) := by decide +kernel
theorem dX12_safe_26 : decode cX12_safe 26 = .ok (.invokevirtual 266, 3) := by decide +kernel
theorem dX12_safe_29 : decode cX12_safe 29 = .ok (.i2l, 1) := by decide +kernel
theorem dX12_safe_30 : decode cX12_safe 30 = .ok (.iload_n 1, 1) := by decide +kernel
theorem dX12_safe_31 : decode cX12_safe 31 = .ok (.invokestatic 253, 3) := by decide +kernel
theorem dX12_safe_34 : decode cX12_safe 34 = .ok (.ifCond .eq 9, 3) := by decide +kernel
theorem dX12_safe_37 : decode cX12_safe 37 = .ok (.iinc 2 (-1), 3) := by decide +kernel
theorem dX12_safe_40 : decode cX12_safe 40 = .ok (.goto (-16), 3) := by decide +kernel
theorem dX12_safe_43 : decode cX12_safe 43 = .ok (.iload_n 2, 1) := by decide +kernel
theorem dX12_safe_44 : decode cX12_safe 44 = .ok (.ireturn, 1) := by decide +kernel
theorem dX12_worst_0 : decode cX12_worst 0 = .ok (.aload_n 0, 1) := by decide +kernel
theorem dX12_worst_1 : decode cX12_worst 1 = .ok (.iconst 0, 1) := by decide +kernel
theorem dX12_worst_2 : decode cX12_worst 2 = .ok (.putfield 1, 3) := by decide +kernel
theorem dX12_worst_5 : decode cX12_worst 5 = .ok (.aload_n 0, 1) := by decide +kernel
theorem dX12_worst_6 : decode cX12_worst 6 = .ok (.invokevirtual 272, 3) := by decide +kernel
theorem dX12_worst_9 : decode cX12_worst 9 = .ok (.iconst 1, 1) := by decide +kernel
theorem dX12_worst_10 : decode cX12_worst 10 = .ok (.istore_n 1, 1) := by decide +kernel
theorem dX12_worst_11 : decode cX12_worst 11 = .ok (.iconst (-1), 1) := by decide +kernel
theorem dX12_worst_12 : decode cX12_worst 12 = .ok (.istore_n 2, 1) := by decide +kernel
theorem dX12_worst_13 : decode cX12_worst 13 = .ok (.iconst 1, 1) := by decide +kernel
theorem dX12_worst_14 : decode cX12_worst 14 = .ok (.istore_n 3, 1) := by decide +kernel
theorem dX12_worst_15 : decode cX12_worst 15 = .ok (.iload_n 3, 1) := by decide +kernel
theorem dX12_worst_16 : decode cX12_worst 16 = .ok (.bipush 10, 2) := by decide +kernel
theorem dX12_worst_18 : decode cX12_worst 18 = .ok (.if_icmp .gt 44, 3) := by decide +kernel
theorem dX12_worst_21 : decode cX12_worst 21 = .ok (.aload_n 0, 1) := by decide +kernel
theorem dX12_worst_22 : decode cX12_worst 22 = .ok (.iload_n 3, 1) := by decide +kernel
theorem dX12_worst_23 : decode cX12_worst 23 = .ok (.invokevirtual 266, 3) := by decide +kernel
theorem dX12_worst_26 : decode cX12_worst 26 = .ok (.invokestatic 260, 3) := by decide +kernel
theorem dX12_worst_29 : decode cX12_worst 29 = .ok (.aload_n 0, 1) := by decide +kernel
theorem dX12_worst_30 : decode cX12_worst 30 = .ok (.iload_n 3, 1) := by decide +kernel
theorem dX12_worst_31 : decode cX12_worst 31 = .ok (.iconst 1, 1) := by decide +kernel
theorem dX12_worst_32 : decode cX12_worst 32 = .ok (.isub, 1) := by decide +kernel
theorem dX12_worst_33 : decode cX12_worst 33 = .ok (.invokevirtual 266, 3) := by decide +kernel
theorem dX12_worst_36 : decode cX12_worst 36 = .ok (.invokestatic 260, 3) := by decide +kernel
theorem dX12_worst_39 : decode cX12_worst 39 = .ok (.isub, 1) := by decide +kernel
theorem dX12_worst_40 : decode cX12_worst 40 = .ok (.istore 4, 2) := by decide +kernel
theorem dX12_worst_42 : decode cX12_worst 42 = .ok (.iload 4, 2) := by decide +kernel
theorem dX12_worst_44 : decode cX12_worst 44 = .ok (.iload_n 2, 1) := by decide +kernel
theorem dX12_worst_45 : decode cX12_worst 45 = .ok (.if_icmp .gt 6, 3) := by decide +kernel
theorem dX12_worst_48 : decode cX12_worst 48 = .ok (.goto 8, 3) := by decide +kernel
theorem dX12_worst_51 : decode cX12_worst 51 = .ok (.iload_n 3, 1) := by decide +kernel
theorem dX12_worst_52 : decode cX12_worst 52 = .ok (.istore_n 1, 1) := by decide +kernel
theorem dX12_worst_53 : decode cX12_worst 53 = .ok (.iload 4, 2) := by decide +kernel
theorem dX12_worst_55 : decode cX12_worst 55 = .ok (.istore_n 2, 1) := by decide +kernel
theorem dX12_worst_56 : decode cX12_worst 56 = .ok (.iinc 3 1, 3) := by decide +kernel
theorem dX12_worst_59 : decode cX12_worst 59 = .ok (.goto (-44), 3) := by decide +kernel
theorem dX12_worst_62 : decode cX12_worst 62 = .ok (.iload_n 1, 1) := by decide +kernel
theorem dX12_worst_63 : decode cX12_worst 63 = .ok (.ireturn, 1) := by decide +kernel
theorem dX12_laysUntil_0 : decode cX12_laysUntil 0 = .ok (.iconst 0, 1) := by decide +kernel
theorem dX12_laysUntil_1 : decode cX12_laysUntil 1 = .ok (.istore_n 1, 1) := by decide +kernel
theorem dX12_laysUntil_2 : decode cX12_laysUntil 2 = .ok (.iload_n 1, 1) := by decide +kernel
theorem dX12_laysUntil_3 : decode cX12_laysUntil 3 = .ok (.aload_n 0, 1) := by decide +kernel
theorem dX12_laysUntil_4 : decode cX12_laysUntil 4 = .ok (.getfield 13, 3) := by decide +kernel
theorem dX12_laysUntil_7 : decode cX12_laysUntil 7 = .ok (.iconst 4, 1) := by decide +kernel
theorem dX12_laysUntil_8 : decode cX12_laysUntil 8 = .ok (.iaload, 1) := by decide +kernel
theorem dX12_laysUntil_9 : decode cX12_laysUntil 9 = .ok (.if_icmp .ge 44, 3) := by decide +kernel
theorem dX12_laysUntil_12 : decode cX12_laysUntil 12 = .ok (.aload_n 0, 1) := by decide +kernel
theorem dX12_laysUntil_13 : decode cX12_laysUntil 13 = .ok (.aload_n 0, 1) := by decide +kernel
theorem dX12_laysUntil_14 : decode cX12_laysUntil 14 = .ok (.getfield 13, 3) := by decide +kernel
theorem dX12_laysUntil_17 : decode cX12_laysUntil 17 = .ok (.bipush 13, 2) := by decide +kernel
theorem dX12_laysUntil_19 : decode cX12_laysUntil 19 = .ok (.iconst 3, 1) := by decide +kernel
theorem dX12_laysUntil_20 : decode cX12_laysUntil 20 = .ok (.iload_n 1, 1) := by decide +kernel
theorem dX12_laysUntil_21 : decode cX12_laysUntil 21 = .ok (.imul, 1) := by decide +kernel
theorem dX12_laysUntil_22 : decode cX12_laysUntil 22 = .ok (.iadd, 1) := by decide +kernel
theorem dX12_laysUntil_23 : decode cX12_laysUntil 23 = .ok (.iaload, 1) := by decide +kernel
theorem dX12_laysUntil_24 : decode cX12_laysUntil 24 = .ok (.invokevirtual 382, 3) := by decide +kernel
theorem dX12_laysUntil_27 : decode cX12_laysUntil 27 = .ok (.istore_n 2, 1) := by decide +kernel
theorem dX12_laysUntil_28 : decode cX12_laysUntil 28 = .ok (.aload_n 0, 1) := by decide +kernel
theorem dX12_laysUntil_29 : decode cX12_laysUntil 29 = .ok (.getfield 54, 3) := by decide +kernel
theorem dX12_laysUntil_32 : decode cX12_laysUntil 32 = .ok (.iload_n 1, 1) := by decide +kernel
theorem dX12_laysUntil_33 : decode cX12_laysUntil 33 = .ok (.iload_n 2, 1) := by decide +kernel
theorem dX12_laysUntil_34 : decode cX12_laysUntil 34 = .ok (.iconst (-1), 1) := by decide +kernel
theorem dX12_laysUntil_35 : decode cX12_laysUntil 35 = .ok (.if_icmp .ne 8, 3) := by decide +kernel
theorem dX12_laysUntil_38 : decode cX12_laysUntil 38 = .ok (.bipush 60, 2) := by decide +kernel
theorem dX12_laysUntil_40 : decode cX12_laysUntil 40 = .ok (.goto 6, 3) := by decide +kernel
theorem dX12_laysUntil_43 : decode cX12_laysUntil 43 = .ok (.iload_n 2, 1) := by decide +kernel
theorem dX12_laysUntil_44 : decode cX12_laysUntil 44 = .ok (.iconst 1, 1) := by decide +kernel
theorem dX12_laysUntil_45 : decode cX12_laysUntil 45 = .ok (.isub, 1) := by decide +kernel
theorem dX12_laysUntil_46 : decode cX12_laysUntil 46 = .ok (.iastore, 1) := by decide +kernel
theorem dX12_laysUntil_47 : decode cX12_laysUntil 47 = .ok (.iinc 1 1, 3) := by decide +kernel
theorem dX12_laysUntil_50 : decode cX12_laysUntil 50 = .ok (.goto (-48), 3) := by decide +kernel
theorem dX12_laysUntil_53 : decode cX12_laysUntil 53 = .ok (.return_, 1) := by decide +kernel
theorem dX12_canBuild_0 : decode cX12_canBuild 0 = .ok (.iload_n 2, 1) := by decide +kernel
theorem dX12_canBuild_1 : decode cX12_canBuild 1 = .ok (.istore_n 3, 1) := by decide +kernel
theorem dX12_canBuild_2 : decode cX12_canBuild 2 = .ok (.iconst 0, 1) := by decide +kernel
theorem dX12_canBuild_3 : decode cX12_canBuild 3 = .ok (.istore 4, 2) := by decide +kernel
theorem dX12_canBuild_5 : decode cX12_canBuild 5 = .ok (.iload 4, 2) := by decide +kernel
theorem dX12_canBuild_7 : decode cX12_canBuild 7 = .ok (.bipush 60, 2) := by decide +kernel
theorem dX12_canBuild_9 : decode cX12_canBuild 9 = .ok (.if_icmp .gt 79, 3) := by decide +kernel
theorem dX12_canBuild_12 : decode cX12_canBuild 12 = .ok (.iconst 0, 1) := by decide +kernel
theorem dX12_canBuild_13 : decode cX12_canBuild 13 = .ok (.istore 5, 2) := by decide +kernel
theorem dX12_canBuild_15 : decode cX12_canBuild 15 = .ok (.iload 5, 2) := by decide +kernel
theorem dX12_canBuild_17 : decode cX12_canBuild 17 = .ok (.aload_n 0, 1) := by decide +kernel
theorem dX12_canBuild_18 : decode cX12_canBuild 18 = .ok (.getfield 13, 3) := by decide +kernel
theorem dX12_canBuild_21 : decode cX12_canBuild 21 = .ok (.iconst 4, 1) := by decide +kernel
theorem dX12_canBuild_22 : decode cX12_canBuild 22 = .ok (.iaload, 1) := by decide +kernel
theorem dX12_canBuild_23 : decode cX12_canBuild 23 = .ok (.if_icmp .ge 59, 3) := by decide +kernel
theorem dX12_canBuild_26 : decode cX12_canBuild 26 = .ok (.iload_n 1, 1) := by decide +kernel
theorem dX12_canBuild_27 : decode cX12_canBuild 27 = .ok (.i2l, 1) := by decide +kernel
theorem dX12_canBuild_28 : decode cX12_canBuild 28 = .ok (.iload 5, 2) := by decide +kernel
theorem dX12_canBuild_30 : decode cX12_canBuild 30 = .ok (.invokestatic 253, 3) := by decide +kernel
theorem dX12_canBuild_33 : decode cX12_canBuild 33 = .ok (.ifCond .eq 43, 3) := by decide +kernel
theorem dX12_canBuild_36 : decode cX12_canBuild 36 = .ok (.aload_n 0, 1) := by decide +kernel
theorem dX12_canBuild_37 : decode cX12_canBuild 37 = .ok (.getfield 54, 3) := by decide +kernel
theorem dX12_canBuild_40 : decode cX12_canBuild 40 = .ok (.iload 5, 2) := by decide +kernel
theorem dX12_canBuild_42 : decode cX12_canBuild 42 = .ok (.iaload, 1) := by decide +kernel
theorem dX12_canBuild_43 : decode cX12_canBuild 43 = .ok (.iload 4, 2) := by decide +kernel
theorem dX12_canBuild_45 : decode cX12_canBuild 45 = .ok (.if_icmp .eq 6, 3) := by decide +kernel
theorem dX12_canBuild_48 : decode cX12_canBuild 48 = .ok (.goto 28, 3) := by decide +kernel
theorem dX12_canBuild_51 : decode cX12_canBuild 51 = .ok (.iload_n 3, 1) := by decide +kernel
theorem dX12_canBuild_52 : decode cX12_canBuild 52 = .ok (.aload_n 0, 1) := by decide +kernel
theorem dX12_canBuild_53 : decode cX12_canBuild 53 = .ok (.getfield 13, 3) := by decide +kernel
theorem dX12_canBuild_56 : decode cX12_canBuild 56 = .ok (.bipush 13, 2) := by decide +kernel
theorem dX12_canBuild_58 : decode cX12_canBuild 58 = .ok (.iconst 3, 1) := by decide +kernel
theorem dX12_canBuild_59 : decode cX12_canBuild 59 = .ok (.iload 5, 2) := by decide +kernel
theorem dX12_canBuild_61 : decode cX12_canBuild 61 = .ok (.imul, 1) := by decide +kernel
theorem dX12_canBuild_62 : decode cX12_canBuild 62 = .ok (.iadd, 1) := by decide +kernel
theorem dX12_canBuild_63 : decode cX12_canBuild 63 = .ok (.iconst 1, 1) := by decide +kernel
theorem dX12_canBuild_64 : decode cX12_canBuild 64 = .ok (.iadd, 1) := by decide +kernel
theorem dX12_canBuild_65 : decode cX12_canBuild 65 = .ok (.iaload, 1) := by decide +kernel
theorem dX12_canBuild_66 : decode cX12_canBuild 66 = .ok (.iadd, 1) := by decide +kernel
theorem dX12_canBuild_67 : decode cX12_canBuild 67 = .ok (.istore_n 3, 1) := by decide +kernel
theorem dX12_canBuild_68 : decode cX12_canBuild 68 = .ok (.iload_n 3, 1) := by decide +kernel
theorem dX12_canBuild_69 : decode cX12_canBuild 69 = .ok (.iload 4, 2) := by decide +kernel
theorem dX12_canBuild_71 : decode cX12_canBuild 71 = .ok (.if_icmp .le 5, 3) := by decide +kernel
theorem dX12_canBuild_74 : decode cX12_canBuild 74 = .ok (.iconst 0, 1) := by decide +kernel
theorem dX12_canBuild_75 : decode cX12_canBuild 75 = .ok (.ireturn, 1) := by decide +kernel
theorem dX12_canBuild_76 : decode cX12_canBuild 76 = .ok (.iinc 5 1, 3) := by decide +kernel
theorem dX12_canBuild_79 : decode cX12_canBuild 79 = .ok (.goto (-64), 3) := by decide +kernel
theorem dX12_canBuild_82 : decode cX12_canBuild 82 = .ok (.iinc 4 1, 3) := by decide +kernel
theorem dX12_canBuild_85 : decode cX12_canBuild 85 = .ok (.goto (-80), 3) := by decide +kernel
theorem dX12_canBuild_88 : decode cX12_canBuild 88 = .ok (.iconst 1, 1) := by decide +kernel
theorem dX12_canBuild_89 : decode cX12_canBuild 89 = .ok (.ireturn, 1) := by decide +kernel
theorem dX12_worthOf_0 : decode cX12_worthOf 0 = .ok (.iconst 0, 1) := by decide +kernel
theorem dX12_worthOf_1 : decode cX12_worthOf 1 = .ok (.istore_n 2, 1) := by decide +kernel
theorem dX12_worthOf_2 : decode cX12_worthOf 2 = .ok (.iconst 0, 1) := by decide +kernel
theorem dX12_worthOf_3 : decode cX12_worthOf 3 = .ok (.istore_n 3, 1) := by decide +kernel
theorem dX12_worthOf_4 : decode cX12_worthOf 4 = .ok (.iload_n 3, 1) := by decide +kernel
theorem dX12_worthOf_5 : decode cX12_worthOf 5 = .ok (.aload_n 0, 1) := by decide +kernel
theorem dX12_worthOf_6 : decode cX12_worthOf 6 = .ok (.getfield 13, 3) := by decide +kernel
theorem dX12_worthOf_9 : decode cX12_worthOf 9 = .ok (.iconst 4, 1) := by decide +kernel
theorem dX12_worthOf_10 : decode cX12_worthOf 10 = .ok (.iaload, 1) := by decide +kernel
theorem dX12_worthOf_11 : decode cX12_worthOf 11 = .ok (.if_icmp .ge 38, 3) := by decide +kernel
theorem dX12_worthOf_14 : decode cX12_worthOf 14 = .ok (.iload_n 2, 1) := by decide +kernel
theorem dX12_worthOf_15 : decode cX12_worthOf 15 = .ok (.iload_n 1, 1) := by decide +kernel
theorem dX12_worthOf_16 : decode cX12_worthOf 16 = .ok (.i2l, 1) := by decide +kernel
theorem dX12_worthOf_17 : decode cX12_worthOf 17 = .ok (.iload_n 3, 1) := by decide +kernel
theorem dX12_worthOf_18 : decode cX12_worthOf 18 = .ok (.invokestatic 253, 3) := by decide +kernel
theorem dX12_worthOf_21 : decode cX12_worthOf 21 = .ok (.ifCond .eq 19, 3) := by decide +kernel
theorem dX12_worthOf_24 : decode cX12_worthOf 24 = .ok (.aload_n 0, 1) := by decide +kernel
theorem dX12_worthOf_25 : decode cX12_worthOf 25 = .ok (.getfield 13, 3) := by decide +kernel
theorem dX12_worthOf_28 : decode cX12_worthOf 28 = .ok (.bipush 13, 2) := by decide +kernel
theorem dX12_worthOf_30 : decode cX12_worthOf 30 = .ok (.iconst 3, 1) := by decide +kernel
theorem dX12_worthOf_31 : decode cX12_worthOf 31 = .ok (.iload_n 3, 1) := by decide +kernel
theorem dX12_worthOf_32 : decode cX12_worthOf 32 = .ok (.imul, 1) := by decide +kernel
theorem dX12_worthOf_33 : decode cX12_worthOf 33 = .ok (.iadd, 1) := by decide +kernel
theorem dX12_worthOf_34 : decode cX12_worthOf 34 = .ok (.iconst 2, 1) := by decide +kernel
theorem dX12_worthOf_35 : decode cX12_worthOf 35 = .ok (.iadd, 1) := by decide +kernel
theorem dX12_worthOf_36 : decode cX12_worthOf 36 = .ok (.iaload, 1) := by decide +kernel
theorem dX12_worthOf_37 : decode cX12_worthOf 37 = .ok (.goto 4, 3) := by decide +kernel
theorem dX12_worthOf_40 : decode cX12_worthOf 40 = .ok (.iconst 0, 1) := by decide +kernel
theorem dX12_worthOf_41 : decode cX12_worthOf 41 = .ok (.iadd, 1) := by decide +kernel
theorem dX12_worthOf_42 : decode cX12_worthOf 42 = .ok (.istore_n 2, 1) := by decide +kernel
theorem dX12_worthOf_43 : decode cX12_worthOf 43 = .ok (.iinc 3 1, 3) := by decide +kernel
theorem dX12_worthOf_46 : decode cX12_worthOf 46 = .ok (.goto (-42), 3) := by decide +kernel
theorem dX12_worthOf_49 : decode cX12_worthOf 49 = .ok (.iload_n 2, 1) := by decide +kernel
theorem dX12_worthOf_50 : decode cX12_worthOf 50 = .ok (.ireturn, 1) := by decide +kernel
theorem dX12_bestPlots_0 : decode cX12_bestPlots 0 = .ok (.aload_n 0, 1) := by decide +kernel
theorem dX12_bestPlots_1 : decode cX12_bestPlots 1 = .ok (.invokevirtual 395, 3) := by decide +kernel
theorem dX12_bestPlots_4 : decode cX12_bestPlots 4 = .ok (.iconst 0, 1) := by decide +kernel
theorem dX12_bestPlots_5 : decode cX12_bestPlots 5 = .ok (.istore_n 1, 1) := by decide +kernel
theorem dX12_bestPlots_6 : decode cX12_bestPlots 6 = .ok (.iconst 1, 1) := by decide +kernel
theorem dX12_bestPlots_7 : decode cX12_bestPlots 7 = .ok (.istore_n 2, 1) := by decide +kernel
theorem dX12_bestPlots_8 : decode cX12_bestPlots 8 = .ok (.iload_n 2, 1) := by decide +kernel
theorem dX12_bestPlots_9 : decode cX12_bestPlots 9 = .ok (.iconst 1, 1) := by decide +kernel
theorem dX12_bestPlots_10 : decode cX12_bestPlots 10 = .ok (.aload_n 0, 1) := by decide +kernel
theorem dX12_bestPlots_11 : decode cX12_bestPlots 11 = .ok (.getfield 13, 3) := by decide +kernel
theorem dX12_bestPlots_14 : decode cX12_bestPlots 14 = .ok (.iconst 4, 1) := by decide +kernel
theorem dX12_bestPlots_15 : decode cX12_bestPlots 15 = .ok (.iaload, 1) := by decide +kernel
theorem dX12_bestPlots_16 : decode cX12_bestPlots 16 = .ok (.ishl, 1) := by decide +kernel
theorem dX12_bestPlots_17 : decode cX12_bestPlots 17 = .ok (.if_icmp .ge 33, 3) := by decide +kernel
theorem dX12_bestPlots_20 : decode cX12_bestPlots 20 = .ok (.aload_n 0, 1) := by decide +kernel
theorem dX12_bestPlots_21 : decode cX12_bestPlots 21 = .ok (.iload_n 2, 1) := by decide +kernel
theorem dX12_bestPlots_22 : decode cX12_bestPlots 22 = .ok (.invokevirtual 398, 3) := by decide +kernel
theorem dX12_bestPlots_25 : decode cX12_bestPlots 25 = .ok (.aload_n 0, 1) := by decide +kernel
theorem dX12_bestPlots_26 : decode cX12_bestPlots 26 = .ok (.iload_n 1, 1) := by decide +kernel
theorem dX12_bestPlots_27 : decode cX12_bestPlots 27 = .ok (.invokevirtual 398, 3) := by decide +kernel
theorem dX12_bestPlots_30 : decode cX12_bestPlots 30 = .ok (.if_icmp .le 14, 3) := by decide +kernel
theorem dX12_bestPlots_33 : decode cX12_bestPlots 33 = .ok (.aload_n 0, 1) := by decide +kernel
theorem dX12_bestPlots_34 : decode cX12_bestPlots 34 = .ok (.iload_n 2, 1) := by decide +kernel
theorem dX12_bestPlots_35 : decode cX12_bestPlots 35 = .ok (.iconst 0, 1) := by decide +kernel
theorem dX12_bestPlots_36 : decode cX12_bestPlots 36 = .ok (.invokevirtual 401, 3) := by decide +kernel
theorem dX12_bestPlots_39 : decode cX12_bestPlots 39 = .ok (.ifCond .eq 5, 3) := by decide +kernel
theorem dX12_bestPlots_42 : decode cX12_bestPlots 42 = .ok (.iload_n 2, 1) := by decide +kernel
theorem dX12_bestPlots_43 : decode cX12_bestPlots 43 = .ok (.istore_n 1, 1) := by decide +kernel
theorem dX12_bestPlots_44 : decode cX12_bestPlots 44 = .ok (.iinc 2 1, 3) := by decide +kernel
theorem dX12_bestPlots_47 : decode cX12_bestPlots 47 = .ok (.goto (-39), 3) := by decide +kernel
theorem dX12_bestPlots_50 : decode cX12_bestPlots 50 = .ok (.iload_n 1, 1) := by decide +kernel
theorem dX12_bestPlots_51 : decode cX12_bestPlots 51 = .ok (.ireturn, 1) := by decide +kernel
theorem dX12_plan_0 : decode cX12_plan 0 = .ok (.aload_n 0, 1) := by decide +kernel
theorem dX12_plan_1 : decode cX12_plan 1 = .ok (.iconst 0, 1) := by decide +kernel
theorem dX12_plan_2 : decode cX12_plan 2 = .ok (.putfield 1, 3) := by decide +kernel
theorem dX12_plan_5 : decode cX12_plan 5 = .ok (.iload_n 1, 1) := by decide +kernel
theorem dX12_plan_6 : decode cX12_plan 6 = .ok (.i2l, 1) := by decide +kernel
theorem dX12_plan_7 : decode cX12_plan 7 = .ok (.lconst 0, 1) := by decide +kernel
theorem dX12_plan_8 : decode cX12_plan 8 = .ok (.lconst 1, 1) := by decide +kernel
theorem dX12_plan_9 : decode cX12_plan 9 = .ok (.invokestatic 145, 3) := by decide +kernel
theorem dX12_plan_12 : decode cX12_plan 12 = .ok (.ifCond .ne 6, 3) := by decide +kernel
theorem dX12_plan_15 : decode cX12_plan 15 = .ok (.bipush (-2), 2) := by decide +kernel
theorem dX12_plan_17 : decode cX12_plan 17 = .ok (.ireturn, 1) := by decide +kernel
theorem dX12_plan_18 : decode cX12_plan 18 = .ok (.aload_n 0, 1) := by decide +kernel
theorem dX12_plan_19 : decode cX12_plan 19 = .ok (.invokevirtual 405, 3) := by decide +kernel
theorem dX12_plan_22 : decode cX12_plan 22 = .ok (.istore_n 2, 1) := by decide +kernel
theorem dX12_plan_23 : decode cX12_plan 23 = .ok (.iload_n 1, 1) := by decide +kernel
theorem dX12_plan_24 : decode cX12_plan 24 = .ok (.ifCond .ne 11, 3) := by decide +kernel
theorem dX12_plan_27 : decode cX12_plan 27 = .ok (.aload_n 0, 1) := by decide +kernel
theorem dX12_plan_28 : decode cX12_plan 28 = .ok (.iload_n 2, 1) := by decide +kernel
theorem dX12_plan_29 : decode cX12_plan 29 = .ok (.invokevirtual 398, 3) := by decide +kernel
theorem dX12_plan_32 : decode cX12_plan 32 = .ok (.goto 4, 3) := by decide +kernel
theorem dX12_plan_35 : decode cX12_plan 35 = .ok (.iload_n 2, 1) := by decide +kernel
theorem dX12_plan_36 : decode cX12_plan 36 = .ok (.ireturn, 1) := by decide +kernel
theorem dX12_order_0 : decode cX12_order 0 = .ok (.aload_n 0, 1) := by decide +kernel
theorem dX12_order_1 : decode cX12_order 1 = .ok (.iconst 0, 1) := by decide +kernel
theorem dX12_order_2 : decode cX12_order 2 = .ok (.putfield 1, 3) := by decide +kernel
theorem dX12_order_5 : decode cX12_order 5 = .ok (.iload_n 1, 1) := by decide +kernel
theorem dX12_order_6 : decode cX12_order 6 = .ok (.ifCond .ge 6, 3) := by decide +kernel
theorem dX12_order_9 : decode cX12_order 9 = .ok (.bipush (-3), 2) := by decide +kernel
theorem dX12_order_11 : decode cX12_order 11 = .ok (.ireturn, 1) := by decide +kernel
theorem dX12_order_12 : decode cX12_order 12 = .ok (.aload_n 0, 1) := by decide +kernel
theorem dX12_order_13 : decode cX12_order 13 = .ok (.invokevirtual 405, 3) := by decide +kernel
theorem dX12_order_16 : decode cX12_order 16 = .ok (.istore_n 2, 1) := by decide +kernel
theorem dX12_order_17 : decode cX12_order 17 = .ok (.iconst 0, 1) := by decide +kernel
theorem dX12_order_18 : decode cX12_order 18 = .ok (.istore_n 3, 1) := by decide +kernel
theorem dX12_order_19 : decode cX12_order 19 = .ok (.iconst 0, 1) := by decide +kernel
theorem dX12_order_20 : decode cX12_order 20 = .ok (.istore 4, 2) := by decide +kernel
theorem dX12_order_22 : decode cX12_order 22 = .ok (.iload_n 2, 1) := by decide +kernel
theorem dX12_order_23 : decode cX12_order 23 = .ok (.ifCond .eq 120, 3) := by decide +kernel
theorem dX12_order_26 : decode cX12_order 26 = .ok (.iconst 0, 1) := by decide +kernel
theorem dX12_order_27 : decode cX12_order 27 = .ok (.istore 5, 2) := by decide +kernel
theorem dX12_order_29 : decode cX12_order 29 = .ok (.iload_n 2, 1) := by decide +kernel
theorem dX12_order_30 : decode cX12_order 30 = .ok (.i2l, 1) := by decide +kernel
theorem dX12_order_31 : decode cX12_order 31 = .ok (.iload 5, 2) := by decide +kernel
theorem dX12_order_33 : decode cX12_order 33 = .ok (.invokestatic 253, 3) := by decide +kernel
theorem dX12_order_36 : decode cX12_order 36 = .ok (.ifCond .eq 60, 3) := by decide +kernel
theorem dX12_order_39 : decode cX12_order 39 = .ok (.iload_n 3, 1) := by decide +kernel
theorem dX12_order_40 : decode cX12_order 40 = .ok (.aload_n 0, 1) := by decide +kernel
theorem dX12_order_41 : decode cX12_order 41 = .ok (.getfield 13, 3) := by decide +kernel
theorem dX12_order_44 : decode cX12_order 44 = .ok (.bipush 13, 2) := by decide +kernel
theorem dX12_order_46 : decode cX12_order 46 = .ok (.iconst 3, 1) := by decide +kernel
theorem dX12_order_47 : decode cX12_order 47 = .ok (.iload 5, 2) := by decide +kernel
theorem dX12_order_49 : decode cX12_order 49 = .ok (.imul, 1) := by decide +kernel
theorem dX12_order_50 : decode cX12_order 50 = .ok (.iadd, 1) := by decide +kernel
theorem dX12_order_51 : decode cX12_order 51 = .ok (.iconst 1, 1) := by decide +kernel
theorem dX12_order_52 : decode cX12_order 52 = .ok (.iadd, 1) := by decide +kernel
theorem dX12_order_53 : decode cX12_order 53 = .ok (.iaload, 1) := by decide +kernel
theorem dX12_order_54 : decode cX12_order 54 = .ok (.iadd, 1) := by decide +kernel
theorem dX12_order_55 : decode cX12_order 55 = .ok (.aload_n 0, 1) := by decide +kernel
theorem dX12_order_56 : decode cX12_order 56 = .ok (.getfield 54, 3) := by decide +kernel
theorem dX12_order_59 : decode cX12_order 59 = .ok (.iload 5, 2) := by decide +kernel
theorem dX12_order_61 : decode cX12_order 61 = .ok (.iaload, 1) := by decide +kernel
theorem dX12_order_62 : decode cX12_order 62 = .ok (.if_icmp .gt 34, 3) := by decide +kernel
theorem dX12_order_65 : decode cX12_order 65 = .ok (.aload_n 0, 1) := by decide +kernel
theorem dX12_order_66 : decode cX12_order 66 = .ok (.iload_n 2, 1) := by decide +kernel
theorem dX12_order_67 : decode cX12_order 67 = .ok (.iconst 1, 1) := by decide +kernel
theorem dX12_order_68 : decode cX12_order 68 = .ok (.iload 5, 2) := by decide +kernel
theorem dX12_order_70 : decode cX12_order 70 = .ok (.ishl, 1) := by decide +kernel
theorem dX12_order_71 : decode cX12_order 71 = .ok (.iconst (-1), 1) := by decide +kernel
theorem dX12_order_72 : decode cX12_order 72 = .ok (.ixor, 1) := by decide +kernel
theorem dX12_order_73 : decode cX12_order 73 = .ok (.iand, 1) := by decide +kernel
theorem dX12_order_74 : decode cX12_order 74 = .ok (.iload_n 3, 1) := by decide +kernel
theorem dX12_order_75 : decode cX12_order 75 = .ok (.aload_n 0, 1) := by decide +kernel
theorem dX12_order_76 : decode cX12_order 76 = .ok (.getfield 13, 3) := by decide +kernel
theorem dX12_order_79 : decode cX12_order 79 = .ok (.bipush 13, 2) := by decide +kernel
theorem dX12_order_81 : decode cX12_order 81 = .ok (.iconst 3, 1) := by decide +kernel
theorem dX12_order_82 : decode cX12_order 82 = .ok (.iload 5, 2) := by decide +kernel
theorem dX12_order_84 : decode cX12_order 84 = .ok (.imul, 1) := by decide +kernel
theorem dX12_order_85 : decode cX12_order 85 = .ok (.iadd, 1) := by decide +kernel
theorem dX12_order_86 : decode cX12_order 86 = .ok (.iconst 1, 1) := by decide +kernel
theorem dX12_order_87 : decode cX12_order 87 = .ok (.iadd, 1) := by decide +kernel
theorem dX12_order_88 : decode cX12_order 88 = .ok (.iaload, 1) := by decide +kernel
theorem dX12_order_89 : decode cX12_order 89 = .ok (.iadd, 1) := by decide +kernel
theorem dX12_order_90 : decode cX12_order 90 = .ok (.invokevirtual 401, 3) := by decide +kernel
theorem dX12_order_93 : decode cX12_order 93 = .ok (.ifCond .ne 9, 3) := by decide +kernel
theorem dX12_order_96 : decode cX12_order 96 = .ok (.iinc 5 1, 3) := by decide +kernel
theorem dX12_order_99 : decode cX12_order 99 = .ok (.goto (-70), 3) := by decide +kernel
theorem dX12_order_102 : decode cX12_order 102 = .ok (.iload 4, 2) := by decide +kernel
theorem dX12_order_104 : decode cX12_order 104 = .ok (.iload_n 1, 1) := by decide +kernel
theorem dX12_order_105 : decode cX12_order 105 = .ok (.if_icmp .ne 6, 3) := by decide +kernel
theorem dX12_order_108 : decode cX12_order 108 = .ok (.iload 5, 2) := by decide +kernel
theorem dX12_order_110 : decode cX12_order 110 = .ok (.ireturn, 1) := by decide +kernel
theorem dX12_order_111 : decode cX12_order 111 = .ok (.iload_n 2, 1) := by decide +kernel
theorem dX12_order_112 : decode cX12_order 112 = .ok (.iconst 1, 1) := by decide +kernel
theorem dX12_order_113 : decode cX12_order 113 = .ok (.iload 5, 2) := by decide +kernel
theorem dX12_order_115 : decode cX12_order 115 = .ok (.ishl, 1) := by decide +kernel
theorem dX12_order_116 : decode cX12_order 116 = .ok (.iconst (-1), 1) := by decide +kernel
theorem dX12_order_117 : decode cX12_order 117 = .ok (.ixor, 1) := by decide +kernel
theorem dX12_order_118 : decode cX12_order 118 = .ok (.iand, 1) := by decide +kernel
theorem dX12_order_119 : decode cX12_order 119 = .ok (.istore_n 2, 1) := by decide +kernel
theorem dX12_order_120 : decode cX12_order 120 = .ok (.iload_n 3, 1) := by decide +kernel
theorem dX12_order_121 : decode cX12_order 121 = .ok (.aload_n 0, 1) := by decide +kernel
theorem dX12_order_122 : decode cX12_order 122 = .ok (.getfield 13, 3) := by decide +kernel
theorem dX12_order_125 : decode cX12_order 125 = .ok (.bipush 13, 2) := by decide +kernel
theorem dX12_order_127 : decode cX12_order 127 = .ok (.iconst 3, 1) := by decide +kernel
theorem dX12_order_128 : decode cX12_order 128 = .ok (.iload 5, 2) := by decide +kernel
theorem dX12_order_130 : decode cX12_order 130 = .ok (.imul, 1) := by decide +kernel
theorem dX12_order_131 : decode cX12_order 131 = .ok (.iadd, 1) := by decide +kernel
theorem dX12_order_132 : decode cX12_order 132 = .ok (.iconst 1, 1) := by decide +kernel
theorem dX12_order_133 : decode cX12_order 133 = .ok (.iadd, 1) := by decide +kernel
theorem dX12_order_134 : decode cX12_order 134 = .ok (.iaload, 1) := by decide +kernel
theorem dX12_order_135 : decode cX12_order 135 = .ok (.iadd, 1) := by decide +kernel
theorem dX12_order_136 : decode cX12_order 136 = .ok (.istore_n 3, 1) := by decide +kernel
theorem dX12_order_137 : decode cX12_order 137 = .ok (.iinc 4 1, 3) := by decide +kernel
theorem dX12_order_140 : decode cX12_order 140 = .ok (.goto (-118), 3) := by decide +kernel
theorem dX12_order_143 : decode cX12_order 143 = .ok (.iconst (-1), 1) := by decide +kernel
theorem dX12_order_144 : decode cX12_order 144 = .ok (.ireturn, 1) := by decide +kernel
theorem dX12_isOver_0 : decode cX12_isOver 0 = .ok (.aload_n 0, 1) := by decide +kernel
theorem dX12_isOver_1 : decode cX12_isOver 1 = .ok (.getfield 13, 3) := by decide +kernel
theorem dX12_isOver_4 : decode cX12_isOver 4 = .ok (.bipush 31, 2) := by decide +kernel
theorem dX12_isOver_6 : decode cX12_isOver 6 = .ok (.iconst 2, 1) := by decide +kernel
theorem dX12_isOver_7 : decode cX12_isOver 7 = .ok (.iload_n 1, 1) := by decide +kernel
theorem dX12_isOver_8 : decode cX12_isOver 8 = .ok (.imul, 1) := by decide +kernel
theorem dX12_isOver_9 : decode cX12_isOver 9 = .ok (.iadd, 1) := by decide +kernel
theorem dX12_isOver_10 : decode cX12_isOver 10 = .ok (.iaload, 1) := by decide +kernel
theorem dX12_isOver_11 : decode cX12_isOver 11 = .ok (.istore_n 3, 1) := by decide +kernel
theorem dX12_isOver_12 : decode cX12_isOver 12 = .ok (.aload_n 0, 1) := by decide +kernel
theorem dX12_isOver_13 : decode cX12_isOver 13 = .ok (.getfield 13, 3) := by decide +kernel
theorem dX12_isOver_16 : decode cX12_isOver 16 = .ok (.bipush 31, 2) := by decide +kernel
theorem dX12_isOver_18 : decode cX12_isOver 18 = .ok (.iconst 2, 1) := by decide +kernel
theorem dX12_isOver_19 : decode cX12_isOver 19 = .ok (.iload_n 1, 1) := by decide +kernel
theorem dX12_isOver_20 : decode cX12_isOver 20 = .ok (.imul, 1) := by decide +kernel
theorem dX12_isOver_21 : decode cX12_isOver 21 = .ok (.iadd, 1) := by decide +kernel
theorem dX12_isOver_22 : decode cX12_isOver 22 = .ok (.iconst 1, 1) := by decide +kernel
theorem dX12_isOver_23 : decode cX12_isOver 23 = .ok (.iadd, 1) := by decide +kernel
theorem dX12_isOver_24 : decode cX12_isOver 24 = .ok (.iaload, 1) := by decide +kernel
theorem dX12_isOver_25 : decode cX12_isOver 25 = .ok (.istore 4, 2) := by decide +kernel
theorem dX12_isOver_27 : decode cX12_isOver 27 = .ok (.iload_n 2, 1) := by decide +kernel
theorem dX12_isOver_28 : decode cX12_isOver 28 = .ok (.aload_n 0, 1) := by decide +kernel
theorem dX12_isOver_29 : decode cX12_isOver 29 = .ok (.getfield 13, 3) := by decide +kernel
theorem dX12_isOver_32 : decode cX12_isOver 32 = .ok (.iconst 2, 1) := by decide +kernel
theorem dX12_isOver_33 : decode cX12_isOver 33 = .ok (.iaload, 1) := by decide +kernel
theorem dX12_isOver_34 : decode cX12_isOver 34 = .ok (.idiv, 1) := by decide +kernel
theorem dX12_isOver_35 : decode cX12_isOver 35 = .ok (.iload_n 3, 1) := by decide +kernel
theorem dX12_isOver_36 : decode cX12_isOver 36 = .ok (.aload_n 0, 1) := by decide +kernel
theorem dX12_isOver_37 : decode cX12_isOver 37 = .ok (.getfield 13, 3) := by decide +kernel
theorem dX12_isOver_40 : decode cX12_isOver 40 = .ok (.iconst 2, 1) := by decide +kernel
theorem dX12_isOver_41 : decode cX12_isOver 41 = .ok (.iaload, 1) := by decide +kernel
theorem dX12_isOver_42 : decode cX12_isOver 42 = .ok (.idiv, 1) := by decide +kernel
theorem dX12_isOver_43 : decode cX12_isOver 43 = .ok (.iload 4, 2) := by decide +kernel
theorem dX12_isOver_45 : decode cX12_isOver 45 = .ok (.aload_n 0, 1) := by decide +kernel
theorem dX12_isOver_46 : decode cX12_isOver 46 = .ok (.getfield 13, 3) := by decide +kernel
theorem dX12_isOver_49 : decode cX12_isOver 49 = .ok (.iconst 2, 1) := by decide +kernel
theorem dX12_isOver_50 : decode cX12_isOver 50 = .ok (.iaload, 1) := by decide +kernel
theorem dX12_isOver_51 : decode cX12_isOver 51 = .ok (.idiv, 1) := by decide +kernel
theorem dX12_isOver_52 : decode cX12_isOver 52 = .ok (.invokestatic 408, 3) := by decide +kernel
theorem dX12_isOver_55 : decode cX12_isOver 55 = .ok (.ifCond .eq 38, 3) := by decide +kernel
theorem dX12_isOver_58 : decode cX12_isOver 58 = .ok (.iload_n 2, 1) := by decide +kernel
theorem dX12_isOver_59 : decode cX12_isOver 59 = .ok (.aload_n 0, 1) := by decide +kernel
theorem dX12_isOver_60 : decode cX12_isOver 60 = .ok (.getfield 13, 3) := by decide +kernel
theorem dX12_isOver_63 : decode cX12_isOver 63 = .ok (.iconst 2, 1) := by decide +kernel
theorem dX12_isOver_64 : decode cX12_isOver 64 = .ok (.iaload, 1) := by decide +kernel
theorem dX12_isOver_65 : decode cX12_isOver 65 = .ok (.irem, 1) := by decide +kernel
theorem dX12_isOver_66 : decode cX12_isOver 66 = .ok (.iload_n 3, 1) := by decide +kernel
theorem dX12_isOver_67 : decode cX12_isOver 67 = .ok (.aload_n 0, 1) := by decide +kernel
theorem dX12_isOver_68 : decode cX12_isOver 68 = .ok (.getfield 13, 3) := by decide +kernel
theorem dX12_isOver_71 : decode cX12_isOver 71 = .ok (.iconst 2, 1) := by decide +kernel
theorem dX12_isOver_72 : decode cX12_isOver 72 = .ok (.iaload, 1) := by decide +kernel
theorem dX12_isOver_73 : decode cX12_isOver 73 = .ok (.irem, 1) := by decide +kernel
theorem dX12_isOver_74 : decode cX12_isOver 74 = .ok (.iload 4, 2) := by decide +kernel
theorem dX12_isOver_76 : decode cX12_isOver 76 = .ok (.aload_n 0, 1) := by decide +kernel
theorem dX12_isOver_77 : decode cX12_isOver 77 = .ok (.getfield 13, 3) := by decide +kernel
theorem dX12_isOver_80 : decode cX12_isOver 80 = .ok (.iconst 2, 1) := by decide +kernel
theorem dX12_isOver_81 : decode cX12_isOver 81 = .ok (.iaload, 1) := by decide +kernel
theorem dX12_isOver_82 : decode cX12_isOver 82 = .ok (.irem, 1) := by decide +kernel
theorem dX12_isOver_83 : decode cX12_isOver 83 = .ok (.invokestatic 408, 3) := by decide +kernel
theorem dX12_isOver_86 : decode cX12_isOver 86 = .ok (.ifCond .eq 7, 3) := by decide +kernel
theorem dX12_isOver_89 : decode cX12_isOver 89 = .ok (.iconst 1, 1) := by decide +kernel
theorem dX12_isOver_90 : decode cX12_isOver 90 = .ok (.goto 4, 3) := by decide +kernel
theorem dX12_isOver_93 : decode cX12_isOver 93 = .ok (.iconst 0, 1) := by decide +kernel
theorem dX12_isOver_94 : decode cX12_isOver 94 = .ok (.ireturn, 1) := by decide +kernel
theorem dX12_isAmid_0 : decode cX12_isAmid 0 = .ok (.iload_n 0, 1) := by decide +kernel
theorem dX12_isAmid_1 : decode cX12_isAmid 1 = .ok (.i2l, 1) := by decide +kernel
theorem dX12_isAmid_2 : decode cX12_isAmid 2 = .ok (.iload_n 1, 1) := by decide +kernel
theorem dX12_isAmid_3 : decode cX12_isAmid 3 = .ok (.iload_n 2, 1) := by decide +kernel
theorem dX12_isAmid_4 : decode cX12_isAmid 4 = .ok (.if_icmp .ge 8, 3) := by decide +kernel
theorem dX12_isAmid_7 : decode cX12_isAmid 7 = .ok (.iload_n 1, 1) := by decide +kernel
theorem dX12_isAmid_8 : decode cX12_isAmid 8 = .ok (.i2l, 1) := by decide +kernel
theorem dX12_isAmid_9 : decode cX12_isAmid 9 = .ok (.goto 5, 3) := by decide +kernel
theorem dX12_isAmid_12 : decode cX12_isAmid 12 = .ok (.iload_n 2, 1) := by decide +kernel
theorem dX12_isAmid_13 : decode cX12_isAmid 13 = .ok (.i2l, 1) := by decide +kernel
theorem dX12_isAmid_14 : decode cX12_isAmid 14 = .ok (.iload_n 1, 1) := by decide +kernel
theorem dX12_isAmid_15 : decode cX12_isAmid 15 = .ok (.iload_n 2, 1) := by decide +kernel
theorem dX12_isAmid_16 : decode cX12_isAmid 16 = .ok (.if_icmp .ge 8, 3) := by decide +kernel
theorem dX12_isAmid_19 : decode cX12_isAmid 19 = .ok (.iload_n 2, 1) := by decide +kernel
theorem dX12_isAmid_20 : decode cX12_isAmid 20 = .ok (.i2l, 1) := by decide +kernel
theorem dX12_isAmid_21 : decode cX12_isAmid 21 = .ok (.goto 5, 3) := by decide +kernel
theorem dX12_isAmid_24 : decode cX12_isAmid 24 = .ok (.iload_n 1, 1) := by decide +kernel
theorem dX12_isAmid_25 : decode cX12_isAmid 25 = .ok (.i2l, 1) := by decide +kernel
theorem dX12_isAmid_26 : decode cX12_isAmid 26 = .ok (.invokestatic 145, 3) := by decide +kernel
theorem dX12_isAmid_29 : decode cX12_isAmid 29 = .ok (.ireturn, 1) := by decide +kernel
theorem dX12_overlap_0 : decode cX12_overlap 0 = .ok (.iconst 0, 1) := by decide +kernel
theorem dX12_overlap_1 : decode cX12_overlap 1 = .ok (.istore_n 3, 1) := by decide +kernel
theorem dX12_overlap_2 : decode cX12_overlap 2 = .ok (.aload_n 0, 1) := by decide +kernel
theorem dX12_overlap_3 : decode cX12_overlap 3 = .ok (.iload_n 3, 1) := by decide +kernel
theorem dX12_overlap_4 : decode cX12_overlap 4 = .ok (.i2l, 1) := by decide +kernel
theorem dX12_overlap_5 : decode cX12_overlap 5 = .ok (.invokevirtual 230, 3) := by decide +kernel
theorem dX12_overlap_8 : decode cX12_overlap 8 = .ok (.ifCond .eq 29, 3) := by decide +kernel
theorem dX12_overlap_11 : decode cX12_overlap 11 = .ok (.aload_n 0, 1) := by decide +kernel
theorem dX12_overlap_12 : decode cX12_overlap 12 = .ok (.iload_n 1, 1) := by decide +kernel
theorem dX12_overlap_13 : decode cX12_overlap 13 = .ok (.iload_n 3, 1) := by decide +kernel
theorem dX12_overlap_14 : decode cX12_overlap 14 = .ok (.invokevirtual 412, 3) := by decide +kernel
theorem dX12_overlap_17 : decode cX12_overlap 17 = .ok (.ifCond .eq 14, 3) := by decide +kernel
theorem dX12_overlap_20 : decode cX12_overlap 20 = .ok (.aload_n 0, 1) := by decide +kernel
theorem dX12_overlap_21 : decode cX12_overlap 21 = .ok (.iload_n 2, 1) := by decide +kernel
theorem dX12_overlap_22 : decode cX12_overlap 22 = .ok (.iload_n 3, 1) := by decide +kernel
theorem dX12_overlap_23 : decode cX12_overlap 23 = .ok (.invokevirtual 412, 3) := by decide +kernel
theorem dX12_overlap_26 : decode cX12_overlap 26 = .ok (.ifCond .eq 5, 3) := by decide +kernel
theorem dX12_overlap_29 : decode cX12_overlap 29 = .ok (.iconst 1, 1) := by decide +kernel
theorem dX12_overlap_30 : decode cX12_overlap 30 = .ok (.ireturn, 1) := by decide +kernel
theorem dX12_overlap_31 : decode cX12_overlap 31 = .ok (.iinc 3 1, 3) := by decide +kernel
theorem dX12_overlap_34 : decode cX12_overlap 34 = .ok (.goto (-32), 3) := by decide +kernel
theorem dX12_overlap_37 : decode cX12_overlap 37 = .ok (.iconst 0, 1) := by decide +kernel
theorem dX12_overlap_38 : decode cX12_overlap 38 = .ok (.ireturn, 1) := by decide +kernel
theorem dX12_canColour_0 : decode cX12_canColour 0 = .ok (.iload_n 1, 1) := by decide +kernel
theorem dX12_canColour_1 : decode cX12_canColour 1 = .ok (.aload_n 0, 1) := by decide +kernel
theorem dX12_canColour_2 : decode cX12_canColour 2 = .ok (.getfield 13, 3) := by decide +kernel
theorem dX12_canColour_5 : decode cX12_canColour 5 = .ok (.iconst 5, 1) := by decide +kernel
theorem dX12_canColour_6 : decode cX12_canColour 6 = .ok (.iaload, 1) := by decide +kernel
theorem dX12_canColour_7 : decode cX12_canColour 7 = .ok (.if_icmp .ne 5, 3) := by decide +kernel
theorem dX12_canColour_10 : decode cX12_canColour 10 = .ok (.iconst 1, 1) := by decide +kernel
theorem dX12_canColour_11 : decode cX12_canColour 11 = .ok (.ireturn, 1) := by decide +kernel
theorem dX12_canColour_12 : decode cX12_canColour 12 = .ok (.iconst 0, 1) := by decide +kernel
theorem dX12_canColour_13 : decode cX12_canColour 13 = .ok (.istore_n 3, 1) := by decide +kernel
theorem dX12_canColour_14 : decode cX12_canColour 14 = .ok (.iload_n 3, 1) := by decide +kernel
theorem dX12_canColour_15 : decode cX12_canColour 15 = .ok (.iload_n 2, 1) := by decide +kernel
theorem dX12_canColour_16 : decode cX12_canColour 16 = .ok (.if_icmp .ge 86, 3) := by decide +kernel
theorem dX12_canColour_19 : decode cX12_canColour 19 = .ok (.iconst 1, 1) := by decide +kernel
theorem dX12_canColour_20 : decode cX12_canColour 20 = .ok (.istore 4, 2) := by decide +kernel
theorem dX12_canColour_22 : decode cX12_canColour 22 = .ok (.iconst 0, 1) := by decide +kernel
theorem dX12_canColour_23 : decode cX12_canColour 23 = .ok (.istore 5, 2) := by decide +kernel
theorem dX12_canColour_25 : decode cX12_canColour 25 = .ok (.iload 5, 2) := by decide +kernel
theorem dX12_canColour_27 : decode cX12_canColour 27 = .ok (.iload_n 1, 1) := by decide +kernel
theorem dX12_canColour_28 : decode cX12_canColour 28 = .ok (.if_icmp .ge 40, 3) := by decide +kernel
theorem dX12_canColour_31 : decode cX12_canColour 31 = .ok (.iload 4, 2) := by decide +kernel
theorem dX12_canColour_33 : decode cX12_canColour 33 = .ok (.aload_n 0, 1) := by decide +kernel
theorem dX12_canColour_34 : decode cX12_canColour 34 = .ok (.getfield 57, 3) := by decide +kernel
theorem dX12_canColour_37 : decode cX12_canColour 37 = .ok (.iload 5, 2) := by decide +kernel
theorem dX12_canColour_39 : decode cX12_canColour 39 = .ok (.iaload, 1) := by decide +kernel
theorem dX12_canColour_40 : decode cX12_canColour 40 = .ok (.iload_n 3, 1) := by decide +kernel
theorem dX12_canColour_41 : decode cX12_canColour 41 = .ok (.if_icmp .ne 13, 3) := by decide +kernel
theorem dX12_canColour_44 : decode cX12_canColour 44 = .ok (.aload_n 0, 1) := by decide +kernel
theorem dX12_canColour_45 : decode cX12_canColour 45 = .ok (.iload_n 1, 1) := by decide +kernel
theorem dX12_canColour_46 : decode cX12_canColour 46 = .ok (.iload 5, 2) := by decide +kernel
theorem dX12_canColour_48 : decode cX12_canColour 48 = .ok (.invokevirtual 415, 3) := by decide +kernel
theorem dX12_canColour_51 : decode cX12_canColour 51 = .ok (.ifCond .ne 7, 3) := by decide +kernel
theorem dX12_canColour_54 : decode cX12_canColour 54 = .ok (.iconst 1, 1) := by decide +kernel
theorem dX12_canColour_55 : decode cX12_canColour 55 = .ok (.goto 4, 3) := by decide +kernel
theorem dX12_canColour_58 : decode cX12_canColour 58 = .ok (.iconst 0, 1) := by decide +kernel
theorem dX12_canColour_59 : decode cX12_canColour 59 = .ok (.iand, 1) := by decide +kernel
theorem dX12_canColour_60 : decode cX12_canColour 60 = .ok (.istore 4, 2) := by decide +kernel
theorem dX12_canColour_62 : decode cX12_canColour 62 = .ok (.iinc 5 1, 3) := by decide +kernel
theorem dX12_canColour_65 : decode cX12_canColour 65 = .ok (.goto (-40), 3) := by decide +kernel
theorem dX12_canColour_68 : decode cX12_canColour 68 = .ok (.iload 4, 2) := by decide +kernel
theorem dX12_canColour_70 : decode cX12_canColour 70 = .ok (.ifCond .ne 6, 3) := by decide +kernel
theorem dX12_canColour_73 : decode cX12_canColour 73 = .ok (.goto 23, 3) := by decide +kernel
theorem dX12_canColour_76 : decode cX12_canColour 76 = .ok (.aload_n 0, 1) := by decide +kernel
theorem dX12_canColour_77 : decode cX12_canColour 77 = .ok (.getfield 57, 3) := by decide +kernel
theorem dX12_canColour_80 : decode cX12_canColour 80 = .ok (.iload_n 1, 1) := by decide +kernel
theorem dX12_canColour_81 : decode cX12_canColour 81 = .ok (.iload_n 3, 1) := by decide +kernel
theorem dX12_canColour_82 : decode cX12_canColour 82 = .ok (.iastore, 1) := by decide +kernel
theorem dX12_canColour_83 : decode cX12_canColour 83 = .ok (.aload_n 0, 1) := by decide +kernel
theorem dX12_canColour_84 : decode cX12_canColour 84 = .ok (.iload_n 1, 1) := by decide +kernel
theorem dX12_canColour_85 : decode cX12_canColour 85 = .ok (.iconst 1, 1) := by decide +kernel
theorem dX12_canColour_86 : decode cX12_canColour 86 = .ok (.iadd, 1) := by decide +kernel
theorem dX12_canColour_87 : decode cX12_canColour 87 = .ok (.iload_n 2, 1) := by decide +kernel
theorem dX12_canColour_88 : decode cX12_canColour 88 = .ok (.invokevirtual 418, 3) := by decide +kernel
theorem dX12_canColour_91 : decode cX12_canColour 91 = .ok (.ifCond .eq 5, 3) := by decide +kernel
theorem dX12_canColour_94 : decode cX12_canColour 94 = .ok (.iconst 1, 1) := by decide +kernel
theorem dX12_canColour_95 : decode cX12_canColour 95 = .ok (.ireturn, 1) := by decide +kernel
theorem dX12_canColour_96 : decode cX12_canColour 96 = .ok (.iinc 3 1, 3) := by decide +kernel
theorem dX12_canColour_99 : decode cX12_canColour 99 = .ok (.goto (-85), 3) := by decide +kernel
theorem dX12_canColour_102 : decode cX12_canColour 102 = .ok (.iconst 0, 1) := by decide +kernel
theorem dX12_canColour_103 : decode cX12_canColour 103 = .ok (.ireturn, 1) := by decide +kernel
theorem dX12_colours_0 : decode cX12_colours 0 = .ok (.aload_n 0, 1) := by decide +kernel
theorem dX12_colours_1 : decode cX12_colours 1 = .ok (.iconst 0, 1) := by decide +kernel
theorem dX12_colours_2 : decode cX12_colours 2 = .ok (.putfield 1, 3) := by decide +kernel
theorem dX12_colours_5 : decode cX12_colours 5 = .ok (.iload_n 1, 1) := by decide +kernel
theorem dX12_colours_6 : decode cX12_colours 6 = .ok (.ifCond .eq 27, 3) := by decide +kernel
theorem dX12_colours_9 : decode cX12_colours 9 = .ok (.iload_n 1, 1) := by decide +kernel
theorem dX12_colours_10 : decode cX12_colours 10 = .ok (.i2l, 1) := by decide +kernel
theorem dX12_colours_11 : decode cX12_colours 11 = .ok (.ldc2_w 285, 3) := by decide +kernel
theorem dX12_colours_14 : decode cX12_colours 14 = .ok (.bipush 9, 2) := by decide +kernel
theorem dX12_colours_16 : decode cX12_colours 16 = .ok (.aload_n 0, 1) := by decide +kernel
theorem dX12_colours_17 : decode cX12_colours 17 = .ok (.getfield 13, 3) := by decide +kernel
theorem dX12_colours_20 : decode cX12_colours 20 = .ok (.iconst 5, 1) := by decide +kernel
theorem dX12_colours_21 : decode cX12_colours 21 = .ok (.iaload, 1) := by decide +kernel
theorem dX12_colours_22 : decode cX12_colours 22 = .ok (.iadd, 1) := by decide +kernel
theorem dX12_colours_23 : decode cX12_colours 23 = .ok (.i2l, 1) := by decide +kernel
theorem dX12_colours_24 : decode cX12_colours 24 = .ok (.invokestatic 145, 3) := by decide +kernel
theorem dX12_colours_27 : decode cX12_colours 27 = .ok (.ifCond .ne 6, 3) := by decide +kernel
theorem dX12_colours_30 : decode cX12_colours 30 = .ok (.bipush (-2), 2) := by decide +kernel
theorem dX12_colours_32 : decode cX12_colours 32 = .ok (.ireturn, 1) := by decide +kernel
theorem dX12_colours_33 : decode cX12_colours 33 = .ok (.iconst 0, 1) := by decide +kernel
theorem dX12_colours_34 : decode cX12_colours 34 = .ok (.istore_n 2, 1) := by decide +kernel
theorem dX12_colours_35 : decode cX12_colours 35 = .ok (.aload_n 0, 1) := by decide +kernel
theorem dX12_colours_36 : decode cX12_colours 36 = .ok (.iconst 0, 1) := by decide +kernel
theorem dX12_colours_37 : decode cX12_colours 37 = .ok (.iload_n 2, 1) := by decide +kernel
theorem dX12_colours_38 : decode cX12_colours 38 = .ok (.invokevirtual 418, 3) := by decide +kernel
theorem dX12_colours_41 : decode cX12_colours 41 = .ok (.ifCond .ne 9, 3) := by decide +kernel
theorem dX12_colours_44 : decode cX12_colours 44 = .ok (.iinc 2 1, 3) := by decide +kernel
theorem dX12_colours_47 : decode cX12_colours 47 = .ok (.goto (-12), 3) := by decide +kernel
theorem dX12_colours_50 : decode cX12_colours 50 = .ok (.iload_n 1, 1) := by decide +kernel
theorem dX12_colours_51 : decode cX12_colours 51 = .ok (.ifCond .ne 7, 3) := by decide +kernel
theorem dX12_colours_54 : decode cX12_colours 54 = .ok (.iload_n 2, 1) := by decide +kernel
theorem dX12_colours_55 : decode cX12_colours 55 = .ok (.goto 12, 3) := by decide +kernel
theorem dX12_colours_58 : decode cX12_colours 58 = .ok (.aload_n 0, 1) := by decide +kernel
theorem dX12_colours_59 : decode cX12_colours 59 = .ok (.getfield 57, 3) := by decide +kernel
theorem dX12_colours_62 : decode cX12_colours 62 = .ok (.iload_n 1, 1) := by decide +kernel
theorem dX12_colours_63 : decode cX12_colours 63 = .ok (.bipush 10, 2) := by decide +kernel
theorem dX12_colours_65 : decode cX12_colours 65 = .ok (.isub, 1) := by decide +kernel
theorem dX12_colours_66 : decode cX12_colours 66 = .ok (.iaload, 1) := by decide +kernel
theorem dX12_colours_67 : decode cX12_colours 67 = .ok (.ireturn, 1) := by decide +kernel
theorem dX12_isClique_0 : decode cX12_isClique 0 = .ok (.iconst 0, 1) := by decide +kernel
theorem dX12_isClique_1 : decode cX12_isClique 1 = .ok (.istore_n 2, 1) := by decide +kernel
theorem dX12_isClique_2 : decode cX12_isClique 2 = .ok (.iload_n 2, 1) := by decide +kernel
theorem dX12_isClique_3 : decode cX12_isClique 3 = .ok (.aload_n 0, 1) := by decide +kernel
theorem dX12_isClique_4 : decode cX12_isClique 4 = .ok (.getfield 13, 3) := by decide +kernel
theorem dX12_isClique_7 : decode cX12_isClique 7 = .ok (.iconst 5, 1) := by decide +kernel
theorem dX12_isClique_8 : decode cX12_isClique 8 = .ok (.iaload, 1) := by decide +kernel
theorem dX12_isClique_9 : decode cX12_isClique 9 = .ok (.if_icmp .ge 51, 3) := by decide +kernel
theorem dX12_isClique_12 : decode cX12_isClique 12 = .ok (.iconst 0, 1) := by decide +kernel
theorem dX12_isClique_13 : decode cX12_isClique 13 = .ok (.istore_n 3, 1) := by decide +kernel
theorem dX12_isClique_14 : decode cX12_isClique 14 = .ok (.iload_n 3, 1) := by decide +kernel
theorem dX12_isClique_15 : decode cX12_isClique 15 = .ok (.iload_n 2, 1) := by decide +kernel
theorem dX12_isClique_16 : decode cX12_isClique 16 = .ok (.if_icmp .ge 38, 3) := by decide +kernel
theorem dX12_isClique_19 : decode cX12_isClique 19 = .ok (.iload_n 1, 1) := by decide +kernel
theorem dX12_isClique_20 : decode cX12_isClique 20 = .ok (.i2l, 1) := by decide +kernel
theorem dX12_isClique_21 : decode cX12_isClique 21 = .ok (.iload_n 2, 1) := by decide +kernel
theorem dX12_isClique_22 : decode cX12_isClique 22 = .ok (.invokestatic 253, 3) := by decide +kernel
theorem dX12_isClique_25 : decode cX12_isClique 25 = .ok (.ifCond .eq 23, 3) := by decide +kernel
theorem dX12_isClique_28 : decode cX12_isClique 28 = .ok (.iload_n 1, 1) := by decide +kernel
theorem dX12_isClique_29 : decode cX12_isClique 29 = .ok (.i2l, 1) := by decide +kernel
theorem dX12_isClique_30 : decode cX12_isClique 30 = .ok (.iload_n 3, 1) := by decide +kernel
theorem dX12_isClique_31 : decode cX12_isClique 31 = .ok (.invokestatic 253, 3) := by decide +kernel
theorem dX12_isClique_34 : decode cX12_isClique 34 = .ok (.ifCond .eq 14, 3) := by decide +kernel
theorem dX12_isClique_37 : decode cX12_isClique 37 = .ok (.aload_n 0, 1) := by decide +kernel
theorem dX12_isClique_38 : decode cX12_isClique 38 = .ok (.iload_n 2, 1) := by decide +kernel
theorem dX12_isClique_39 : decode cX12_isClique 39 = .ok (.iload_n 3, 1) := by decide +kernel
theorem dX12_isClique_40 : decode cX12_isClique 40 = .ok (.invokevirtual 415, 3) := by decide +kernel
theorem dX12_isClique_43 : decode cX12_isClique 43 = .ok (.ifCond .ne 5, 3) := by decide +kernel
theorem dX12_isClique_46 : decode cX12_isClique 46 = .ok (.iconst 0, 1) := by decide +kernel
theorem dX12_isClique_47 : decode cX12_isClique 47 = .ok (.ireturn, 1) := by decide +kernel
theorem dX12_isClique_48 : decode cX12_isClique 48 = .ok (.iinc 3 1, 3) := by decide +kernel
theorem dX12_isClique_51 : decode cX12_isClique 51 = .ok (.goto (-37), 3) := by decide +kernel
theorem dX12_isClique_54 : decode cX12_isClique 54 = .ok (.iinc 2 1, 3) := by decide +kernel
theorem dX12_isClique_57 : decode cX12_isClique 57 = .ok (.goto (-55), 3) := by decide +kernel
theorem dX12_isClique_60 : decode cX12_isClique 60 = .ok (.iconst 1, 1) := by decide +kernel
theorem dX12_isClique_61 : decode cX12_isClique 61 = .ok (.ireturn, 1) := by decide +kernel
theorem dX12_clique_0 : decode cX12_clique 0 = .ok (.aload_n 0, 1) := by decide +kernel
theorem dX12_clique_1 : decode cX12_clique 1 = .ok (.iconst 0, 1) := by decide +kernel
theorem dX12_clique_2 : decode cX12_clique 2 = .ok (.putfield 1, 3) := by decide +kernel
theorem dX12_clique_5 : decode cX12_clique 5 = .ok (.iload_n 1, 1) := by decide +kernel
theorem dX12_clique_6 : decode cX12_clique 6 = .ok (.i2l, 1) := by decide +kernel
theorem dX12_clique_7 : decode cX12_clique 7 = .ok (.lconst 0, 1) := by decide +kernel
theorem dX12_clique_8 : decode cX12_clique 8 = .ok (.lconst 1, 1) := by decide +kernel
theorem dX12_clique_9 : decode cX12_clique 9 = .ok (.invokestatic 145, 3) := by decide +kernel
theorem dX12_clique_12 : decode cX12_clique 12 = .ok (.ifCond .ne 6, 3) := by decide +kernel
theorem dX12_clique_15 : decode cX12_clique 15 = .ok (.bipush (-2), 2) := by decide +kernel
theorem dX12_clique_17 : decode cX12_clique 17 = .ok (.ireturn, 1) := by decide +kernel
theorem dX12_clique_18 : decode cX12_clique 18 = .ok (.iconst 0, 1) := by decide +kernel
theorem dX12_clique_19 : decode cX12_clique 19 = .ok (.istore_n 2, 1) := by decide +kernel
theorem dX12_clique_20 : decode cX12_clique 20 = .ok (.iconst 1, 1) := by decide +kernel
theorem dX12_clique_21 : decode cX12_clique 21 = .ok (.istore_n 3, 1) := by decide +kernel
theorem dX12_clique_22 : decode cX12_clique 22 = .ok (.iload_n 3, 1) := by decide +kernel
theorem dX12_clique_23 : decode cX12_clique 23 = .ok (.iconst 1, 1) := by decide +kernel
theorem dX12_clique_24 : decode cX12_clique 24 = .ok (.aload_n 0, 1) := by decide +kernel
theorem dX12_clique_25 : decode cX12_clique 25 = .ok (.getfield 13, 3) := by decide +kernel
theorem dX12_clique_28 : decode cX12_clique 28 = .ok (.iconst 5, 1) := by decide +kernel
theorem dX12_clique_29 : decode cX12_clique 29 = .ok (.iaload, 1) := by decide +kernel
theorem dX12_clique_30 : decode cX12_clique 30 = .ok (.ishl, 1) := by decide +kernel
theorem dX12_clique_31 : decode cX12_clique 31 = .ok (.if_icmp .ge 30, 3) := by decide +kernel
theorem dX12_clique_34 : decode cX12_clique 34 = .ok (.iload_n 3, 1) := by decide +kernel
theorem dX12_clique_35 : decode cX12_clique 35 = .ok (.invokestatic 260, 3) := by decide +kernel
theorem dX12_clique_38 : decode cX12_clique 38 = .ok (.iload_n 2, 1) := by decide +kernel
theorem dX12_clique_39 : decode cX12_clique 39 = .ok (.invokestatic 260, 3) := by decide +kernel
theorem dX12_clique_42 : decode cX12_clique 42 = .ok (.if_icmp .le 13, 3) := by decide +kernel
theorem dX12_clique_45 : decode cX12_clique 45 = .ok (.aload_n 0, 1) := by decide +kernel
theorem dX12_clique_46 : decode cX12_clique 46 = .ok (.iload_n 3, 1) := by decide +kernel
theorem dX12_clique_47 : decode cX12_clique 47 = .ok (.invokevirtual 421, 3) := by decide +kernel
theorem dX12_clique_50 : decode cX12_clique 50 = .ok (.ifCond .eq 5, 3) := by decide +kernel
theorem dX12_clique_53 : decode cX12_clique 53 = .ok (.iload_n 3, 1) := by decide +kernel
theorem dX12_clique_54 : decode cX12_clique 54 = .ok (.istore_n 2, 1) := by decide +kernel
theorem dX12_clique_55 : decode cX12_clique 55 = .ok (.iinc 3 1, 3) := by decide +kernel
theorem dX12_clique_58 : decode cX12_clique 58 = .ok (.goto (-36), 3) := by decide +kernel
theorem dX12_clique_61 : decode cX12_clique 61 = .ok (.iload_n 1, 1) := by decide +kernel
theorem dX12_clique_62 : decode cX12_clique 62 = .ok (.ifCond .ne 10, 3) := by decide +kernel
theorem dX12_clique_65 : decode cX12_clique 65 = .ok (.iload_n 2, 1) := by decide +kernel
theorem dX12_clique_66 : decode cX12_clique 66 = .ok (.invokestatic 260, 3) := by decide +kernel
theorem dX12_clique_69 : decode cX12_clique 69 = .ok (.goto 4, 3) := by decide +kernel
theorem dX12_clique_72 : decode cX12_clique 72 = .ok (.iload_n 2, 1) := by decide +kernel
theorem dX12_clique_73 : decode cX12_clique 73 = .ok (.ireturn, 1) := by decide +kernel
theorem dX12_papers_0 : decode cX12_papers 0 = .ok (.aload_n 0, 1) := by decide +kernel
theorem dX12_papers_1 : decode cX12_papers 1 = .ok (.iconst 0, 1) := by decide +kernel
theorem dX12_papers_2 : decode cX12_papers 2 = .ok (.putfield 1, 3) := by decide +kernel
theorem dX12_papers_5 : decode cX12_papers 5 = .ok (.aload_n 0, 1) := by decide +kernel
theorem dX12_papers_6 : decode cX12_papers 6 = .ok (.iload_n 1, 1) := by decide +kernel
theorem dX12_papers_7 : decode cX12_papers 7 = .ok (.i2l, 1) := by decide +kernel
theorem dX12_papers_8 : decode cX12_papers 8 = .ok (.invokevirtual 230, 3) := by decide +kernel
theorem dX12_papers_11 : decode cX12_papers 11 = .ok (.ifCond .ne 6, 3) := by decide +kernel
theorem dX12_papers_14 : decode cX12_papers 14 = .ok (.bipush (-2), 2) := by decide +kernel
theorem dX12_papers_16 : decode cX12_papers 16 = .ok (.ireturn, 1) := by decide +kernel
theorem dX12_papers_17 : decode cX12_papers 17 = .ok (.iconst 0, 1) := by decide +kernel
theorem dX12_papers_18 : decode cX12_papers 18 = .ok (.istore_n 2, 1) := by decide +kernel
theorem dX12_papers_19 : decode cX12_papers 19 = .ok (.iconst 0, 1) := by decide +kernel
theorem dX12_papers_20 : decode cX12_papers 20 = .ok (.istore_n 3, 1) := by decide +kernel
theorem dX12_papers_21 : decode cX12_papers 21 = .ok (.iload_n 3, 1) := by decide +kernel
theorem dX12_papers_22 : decode cX12_papers 22 = .ok (.aload_n 0, 1) := by decide +kernel
theorem dX12_papers_23 : decode cX12_papers 23 = .ok (.getfield 13, 3) := by decide +kernel
theorem dX12_papers_26 : decode cX12_papers 26 = .ok (.iconst 5, 1) := by decide +kernel
theorem dX12_papers_27 : decode cX12_papers 27 = .ok (.iaload, 1) := by decide +kernel
theorem dX12_papers_28 : decode cX12_papers 28 = .ok (.if_icmp .ge 28, 3) := by decide +kernel
theorem dX12_papers_31 : decode cX12_papers 31 = .ok (.iload_n 2, 1) := by decide +kernel
theorem dX12_papers_32 : decode cX12_papers 32 = .ok (.aload_n 0, 1) := by decide +kernel
theorem dX12_papers_33 : decode cX12_papers 33 = .ok (.iload_n 3, 1) := by decide +kernel
theorem dX12_papers_34 : decode cX12_papers 34 = .ok (.iload_n 1, 1) := by decide +kernel
theorem dX12_papers_35 : decode cX12_papers 35 = .ok (.invokevirtual 412, 3) := by decide +kernel
theorem dX12_papers_38 : decode cX12_papers 38 = .ok (.ifCond .eq 9, 3) := by decide +kernel
theorem dX12_papers_41 : decode cX12_papers 41 = .ok (.iconst 1, 1) := by decide +kernel
theorem dX12_papers_42 : decode cX12_papers 42 = .ok (.iload_n 3, 1) := by decide +kernel
theorem dX12_papers_43 : decode cX12_papers 43 = .ok (.ishl, 1) := by decide +kernel
theorem dX12_papers_44 : decode cX12_papers 44 = .ok (.goto 4, 3) := by decide +kernel
theorem dX12_papers_47 : decode cX12_papers 47 = .ok (.iconst 0, 1) := by decide +kernel
theorem dX12_papers_48 : decode cX12_papers 48 = .ok (.ior, 1) := by decide +kernel
theorem dX12_papers_49 : decode cX12_papers 49 = .ok (.istore_n 2, 1) := by decide +kernel
theorem dX12_papers_50 : decode cX12_papers 50 = .ok (.iinc 3 1, 3) := by decide +kernel
theorem dX12_papers_53 : decode cX12_papers 53 = .ok (.goto (-32), 3) := by decide +kernel
theorem dX12_papers_56 : decode cX12_papers 56 = .ok (.iload_n 2, 1) := by decide +kernel
theorem dX12_papers_57 : decode cX12_papers 57 = .ok (.ireturn, 1) := by decide +kernel
theorem dX12_balanceOf_0 : decode cX12_balanceOf 0 = .ok (.iconst 0, 1) := by decide +kernel
theorem dX12_balanceOf_1 : decode cX12_balanceOf 1 = .ok (.istore_n 2, 1) := by decide +kernel
theorem dX12_balanceOf_2 : decode cX12_balanceOf 2 = .ok (.bipush 43, 2) := by decide +kernel
theorem dX12_balanceOf_4 : decode cX12_balanceOf 4 = .ok (.istore_n 3, 1) := by decide +kernel
theorem dX12_balanceOf_5 : decode cX12_balanceOf 5 = .ok (.iload_n 3, 1) := by decide +kernel
theorem dX12_balanceOf_6 : decode cX12_balanceOf 6 = .ok (.bipush 43, 2) := by decide +kernel
theorem dX12_balanceOf_8 : decode cX12_balanceOf 8 = .ok (.iconst 3, 1) := by decide +kernel
theorem dX12_balanceOf_9 : decode cX12_balanceOf 9 = .ok (.aload_n 0, 1) := by decide +kernel
theorem dX12_balanceOf_10 : decode cX12_balanceOf 10 = .ok (.getfield 13, 3) := by decide +kernel
theorem dX12_balanceOf_13 : decode cX12_balanceOf 13 = .ok (.bipush 6, 2) := by decide +kernel
theorem dX12_balanceOf_15 : decode cX12_balanceOf 15 = .ok (.iaload, 1) := by decide +kernel
theorem dX12_balanceOf_16 : decode cX12_balanceOf 16 = .ok (.imul, 1) := by decide +kernel
theorem dX12_balanceOf_17 : decode cX12_balanceOf 17 = .ok (.iadd, 1) := by decide +kernel
theorem dX12_balanceOf_18 : decode cX12_balanceOf 18 = .ok (.if_icmp .ge 58, 3) := by decide +kernel
theorem dX12_balanceOf_21 : decode cX12_balanceOf 21 = .ok (.iload_n 2, 1) := by decide +kernel
theorem dX12_balanceOf_22 : decode cX12_balanceOf 22 = .ok (.aload_n 0, 1) := by decide +kernel
theorem dX12_balanceOf_23 : decode cX12_balanceOf 23 = .ok (.getfield 13, 3) := by decide +kernel
theorem dX12_balanceOf_26 : decode cX12_balanceOf 26 = .ok (.iload_n 3, 1) := by decide +kernel
theorem dX12_balanceOf_27 : decode cX12_balanceOf 27 = .ok (.iconst 1, 1) := by decide +kernel
theorem dX12_balanceOf_28 : decode cX12_balanceOf 28 = .ok (.iadd, 1) := by decide +kernel
theorem dX12_balanceOf_29 : decode cX12_balanceOf 29 = .ok (.iaload, 1) := by decide +kernel
theorem dX12_balanceOf_30 : decode cX12_balanceOf 30 = .ok (.iload_n 1, 1) := by decide +kernel
theorem dX12_balanceOf_31 : decode cX12_balanceOf 31 = .ok (.if_icmp .ne 14, 3) := by decide +kernel
theorem dX12_balanceOf_34 : decode cX12_balanceOf 34 = .ok (.aload_n 0, 1) := by decide +kernel
theorem dX12_balanceOf_35 : decode cX12_balanceOf 35 = .ok (.getfield 13, 3) := by decide +kernel
theorem dX12_balanceOf_38 : decode cX12_balanceOf 38 = .ok (.iload_n 3, 1) := by decide +kernel
theorem dX12_balanceOf_39 : decode cX12_balanceOf 39 = .ok (.iconst 2, 1) := by decide +kernel
theorem dX12_balanceOf_40 : decode cX12_balanceOf 40 = .ok (.iadd, 1) := by decide +kernel
theorem dX12_balanceOf_41 : decode cX12_balanceOf 41 = .ok (.iaload, 1) := by decide +kernel
theorem dX12_balanceOf_42 : decode cX12_balanceOf 42 = .ok (.goto 26, 3) := by decide +kernel
theorem dX12_balanceOf_45 : decode cX12_balanceOf 45 = .ok (.aload_n 0, 1) := by decide +kernel
theorem dX12_balanceOf_46 : decode cX12_balanceOf 46 = .ok (.getfield 13, 3) := by decide +kernel
theorem dX12_balanceOf_49 : decode cX12_balanceOf 49 = .ok (.iload_n 3, 1) := by decide +kernel
theorem dX12_balanceOf_50 : decode cX12_balanceOf 50 = .ok (.iaload, 1) := by decide +kernel
theorem dX12_balanceOf_51 : decode cX12_balanceOf 51 = .ok (.iload_n 1, 1) := by decide +kernel
theorem dX12_balanceOf_52 : decode cX12_balanceOf 52 = .ok (.if_icmp .ne 15, 3) := by decide +kernel
theorem dX12_balanceOf_55 : decode cX12_balanceOf 55 = .ok (.aload_n 0, 1) := by decide +kernel
theorem dX12_balanceOf_56 : decode cX12_balanceOf 56 = .ok (.getfield 13, 3) := by decide +kernel
theorem dX12_balanceOf_59 : decode cX12_balanceOf 59 = .ok (.iload_n 3, 1) := by decide +kernel
theorem dX12_balanceOf_60 : decode cX12_balanceOf 60 = .ok (.iconst 2, 1) := by decide +kernel
theorem dX12_balanceOf_61 : decode cX12_balanceOf 61 = .ok (.iadd, 1) := by decide +kernel
theorem dX12_balanceOf_62 : decode cX12_balanceOf 62 = .ok (.iaload, 1) := by decide +kernel
theorem dX12_balanceOf_63 : decode cX12_balanceOf 63 = .ok (.ineg, 1) := by decide +kernel
theorem dX12_balanceOf_64 : decode cX12_balanceOf 64 = .ok (.goto 4, 3) := by decide +kernel
theorem dX12_balanceOf_67 : decode cX12_balanceOf 67 = .ok (.iconst 0, 1) := by decide +kernel
theorem dX12_balanceOf_68 : decode cX12_balanceOf 68 = .ok (.iadd, 1) := by decide +kernel
theorem dX12_balanceOf_69 : decode cX12_balanceOf 69 = .ok (.istore_n 2, 1) := by decide +kernel
theorem dX12_balanceOf_70 : decode cX12_balanceOf 70 = .ok (.iinc 3 3, 3) := by decide +kernel
theorem dX12_balanceOf_73 : decode cX12_balanceOf 73 = .ok (.goto (-68), 3) := by decide +kernel
theorem dX12_balanceOf_76 : decode cX12_balanceOf 76 = .ok (.iload_n 2, 1) := by decide +kernel
theorem dX12_balanceOf_77 : decode cX12_balanceOf 77 = .ok (.ireturn, 1) := by decide +kernel
theorem dX12_balance_0 : decode cX12_balance 0 = .ok (.aload_n 0, 1) := by decide +kernel
theorem dX12_balance_1 : decode cX12_balance 1 = .ok (.iconst 0, 1) := by decide +kernel
theorem dX12_balance_2 : decode cX12_balance 2 = .ok (.putfield 1, 3) := by decide +kernel
theorem dX12_balance_5 : decode cX12_balance 5 = .ok (.iload_n 1, 1) := by decide +kernel
theorem dX12_balance_6 : decode cX12_balance 6 = .ok (.i2l, 1) := by decide +kernel
theorem dX12_balance_7 : decode cX12_balance 7 = .ok (.lconst 0, 1) := by decide +kernel
theorem dX12_balance_8 : decode cX12_balance 8 = .ok (.ldc2_w 311, 3) := by decide +kernel
theorem dX12_balance_11 : decode cX12_balance 11 = .ok (.invokestatic 145, 3) := by decide +kernel
theorem dX12_balance_14 : decode cX12_balance 14 = .ok (.ifCond .eq 11, 3) := by decide +kernel
theorem dX12_balance_17 : decode cX12_balance 17 = .ok (.aload_n 0, 1) := by decide +kernel
theorem dX12_balance_18 : decode cX12_balance 18 = .ok (.iload_n 1, 1) := by decide +kernel
theorem dX12_balance_19 : decode cX12_balance 19 = .ok (.invokevirtual 424, 3) := by decide +kernel
theorem dX12_balance_22 : decode cX12_balance 22 = .ok (.goto 6, 3) := by decide +kernel
theorem dX12_balance_25 : decode cX12_balance 25 = .ok (.ldc_w 427, 3) := by decide +kernel
theorem dX12_balance_28 : decode cX12_balance 28 = .ok (.ireturn, 1) := by decide +kernel
theorem dX12_partsOf_0 : decode cX12_partsOf 0 = .ok (.iconst 0, 1) := by decide +kernel
theorem dX12_partsOf_1 : decode cX12_partsOf 1 = .ok (.istore_n 2, 1) := by decide +kernel
theorem dX12_partsOf_2 : decode cX12_partsOf 2 = .ok (.iload_n 1, 1) := by decide +kernel
theorem dX12_partsOf_3 : decode cX12_partsOf 3 = .ok (.istore_n 3, 1) := by decide +kernel
theorem dX12_partsOf_4 : decode cX12_partsOf 4 = .ok (.iload_n 3, 1) := by decide +kernel
theorem dX12_partsOf_5 : decode cX12_partsOf 5 = .ok (.ifCond .le 89, 3) := by decide +kernel
theorem dX12_partsOf_8 : decode cX12_partsOf 8 = .ok (.iconst 0, 1) := by decide +kernel
theorem dX12_partsOf_9 : decode cX12_partsOf 9 = .ok (.istore 4, 2) := by decide +kernel
theorem dX12_partsOf_11 : decode cX12_partsOf 11 = .ok (.iconst 0, 1) := by decide +kernel
theorem dX12_partsOf_12 : decode cX12_partsOf 12 = .ok (.istore 5, 2) := by decide +kernel
theorem dX12_partsOf_14 : decode cX12_partsOf 14 = .ok (.iload 5, 2) := by decide +kernel
theorem dX12_partsOf_16 : decode cX12_partsOf 16 = .ok (.iconst 5, 1) := by decide +kernel
theorem dX12_partsOf_17 : decode cX12_partsOf 17 = .ok (.if_icmp .ge 34, 3) := by decide +kernel
theorem dX12_partsOf_20 : decode cX12_partsOf 20 = .ok (.iload 4, 2) := by decide +kernel
theorem dX12_partsOf_22 : decode cX12_partsOf 22 = .ok (.iload_n 3, 1) := by decide +kernel
theorem dX12_partsOf_23 : decode cX12_partsOf 23 = .ok (.i2l, 1) := by decide +kernel
theorem dX12_partsOf_24 : decode cX12_partsOf 24 = .ok (.iload 5, 2) := by decide +kernel
theorem dX12_partsOf_26 : decode cX12_partsOf 26 = .ok (.invokestatic 253, 3) := by decide +kernel
theorem dX12_partsOf_29 : decode cX12_partsOf 29 = .ok (.ifCond .eq 12, 3) := by decide +kernel
theorem dX12_partsOf_32 : decode cX12_partsOf 32 = .ok (.aload_n 0, 1) := by decide +kernel
theorem dX12_partsOf_33 : decode cX12_partsOf 33 = .ok (.iload 5, 2) := by decide +kernel
theorem dX12_partsOf_35 : decode cX12_partsOf 35 = .ok (.invokevirtual 424, 3) := by decide +kernel
theorem dX12_partsOf_38 : decode cX12_partsOf 38 = .ok (.goto 4, 3) := by decide +kernel
theorem dX12_partsOf_41 : decode cX12_partsOf 41 = .ok (.iconst 0, 1) := by decide +kernel
theorem dX12_partsOf_42 : decode cX12_partsOf 42 = .ok (.iadd, 1) := by decide +kernel
theorem dX12_partsOf_43 : decode cX12_partsOf 43 = .ok (.istore 4, 2) := by decide +kernel
theorem dX12_partsOf_45 : decode cX12_partsOf 45 = .ok (.iinc 5 1, 3) := by decide +kernel
theorem dX12_partsOf_48 : decode cX12_partsOf 48 = .ok (.goto (-34), 3) := by decide +kernel
theorem dX12_partsOf_51 : decode cX12_partsOf 51 = .ok (.iload 4, 2) := by decide +kernel
theorem dX12_partsOf_53 : decode cX12_partsOf 53 = .ok (.ifCond .eq 6, 3) := by decide +kernel
theorem dX12_partsOf_56 : decode cX12_partsOf 56 = .ok (.goto 29, 3) := by decide +kernel
theorem dX12_partsOf_59 : decode cX12_partsOf 59 = .ok (.iconst 1, 1) := by decide +kernel
theorem dX12_partsOf_60 : decode cX12_partsOf 60 = .ok (.aload_n 0, 1) := by decide +kernel
theorem dX12_partsOf_61 : decode cX12_partsOf 61 = .ok (.iload_n 1, 1) := by decide +kernel
theorem dX12_partsOf_62 : decode cX12_partsOf 62 = .ok (.iload_n 3, 1) := by decide +kernel
theorem dX12_partsOf_63 : decode cX12_partsOf 63 = .ok (.iconst (-1), 1) := by decide +kernel
theorem dX12_partsOf_64 : decode cX12_partsOf 64 = .ok (.ixor, 1) := by decide +kernel
theorem dX12_partsOf_65 : decode cX12_partsOf 65 = .ok (.iand, 1) := by decide +kernel
theorem dX12_partsOf_66 : decode cX12_partsOf 66 = .ok (.invokevirtual 428, 3) := by decide +kernel
theorem dX12_partsOf_69 : decode cX12_partsOf 69 = .ok (.iadd, 1) := by decide +kernel
theorem dX12_partsOf_70 : decode cX12_partsOf 70 = .ok (.istore 5, 2) := by decide +kernel
theorem dX12_partsOf_72 : decode cX12_partsOf 72 = .ok (.iload 5, 2) := by decide +kernel
theorem dX12_partsOf_74 : decode cX12_partsOf 74 = .ok (.iload_n 2, 1) := by decide +kernel
theorem dX12_partsOf_75 : decode cX12_partsOf 75 = .ok (.if_icmp .le 8, 3) := by decide +kernel
theorem dX12_partsOf_78 : decode cX12_partsOf 78 = .ok (.iload 5, 2) := by decide +kernel
theorem dX12_partsOf_80 : decode cX12_partsOf 80 = .ok (.goto 4, 3) := by decide +kernel
theorem dX12_partsOf_83 : decode cX12_partsOf 83 = .ok (.iload_n 2, 1) := by decide +kernel
theorem dX12_partsOf_84 : decode cX12_partsOf 84 = .ok (.istore_n 2, 1) := by decide +kernel
theorem dX12_partsOf_85 : decode cX12_partsOf 85 = .ok (.iload_n 3, 1) := by decide +kernel
theorem dX12_partsOf_86 : decode cX12_partsOf 86 = .ok (.iconst 1, 1) := by decide +kernel
theorem dX12_partsOf_87 : decode cX12_partsOf 87 = .ok (.isub, 1) := by decide +kernel
theorem dX12_partsOf_88 : decode cX12_partsOf 88 = .ok (.iload_n 1, 1) := by decide +kernel
theorem dX12_partsOf_89 : decode cX12_partsOf 89 = .ok (.iand, 1) := by decide +kernel
theorem dX12_partsOf_90 : decode cX12_partsOf 90 = .ok (.istore_n 3, 1) := by decide +kernel
theorem dX12_partsOf_91 : decode cX12_partsOf 91 = .ok (.goto (-87), 3) := by decide +kernel
theorem dX12_partsOf_94 : decode cX12_partsOf 94 = .ok (.iload_n 2, 1) := by decide +kernel
theorem dX12_partsOf_95 : decode cX12_partsOf 95 = .ok (.ireturn, 1) := by decide +kernel
theorem dX12_payments_0 : decode cX12_payments 0 = .ok (.aload_n 0, 1) := by decide +kernel
theorem dX12_payments_1 : decode cX12_payments 1 = .ok (.iconst 0, 1) := by decide +kernel
theorem dX12_payments_2 : decode cX12_payments 2 = .ok (.putfield 1, 3) := by decide +kernel
theorem dX12_payments_5 : decode cX12_payments 5 = .ok (.iconst 0, 1) := by decide +kernel
theorem dX12_payments_6 : decode cX12_payments 6 = .ok (.istore_n 1, 1) := by decide +kernel
theorem dX12_payments_7 : decode cX12_payments 7 = .ok (.iconst 0, 1) := by decide +kernel
theorem dX12_payments_8 : decode cX12_payments 8 = .ok (.istore_n 2, 1) := by decide +kernel
theorem dX12_payments_9 : decode cX12_payments 9 = .ok (.iload_n 2, 1) := by decide +kernel
theorem dX12_payments_10 : decode cX12_payments 10 = .ok (.iconst 5, 1) := by decide +kernel
theorem dX12_payments_11 : decode cX12_payments 11 = .ok (.if_icmp .ge 27, 3) := by decide +kernel
theorem dX12_payments_14 : decode cX12_payments 14 = .ok (.iload_n 1, 1) := by decide +kernel
theorem dX12_payments_15 : decode cX12_payments 15 = .ok (.aload_n 0, 1) := by decide +kernel
theorem dX12_payments_16 : decode cX12_payments 16 = .ok (.iload_n 2, 1) := by decide +kernel
theorem dX12_payments_17 : decode cX12_payments 17 = .ok (.invokevirtual 424, 3) := by decide +kernel
theorem dX12_payments_20 : decode cX12_payments 20 = .ok (.ifCond .eq 9, 3) := by decide +kernel
theorem dX12_payments_23 : decode cX12_payments 23 = .ok (.iconst 1, 1) := by decide +kernel
theorem dX12_payments_24 : decode cX12_payments 24 = .ok (.iload_n 2, 1) := by decide +kernel
theorem dX12_payments_25 : decode cX12_payments 25 = .ok (.ishl, 1) := by decide +kernel
theorem dX12_payments_26 : decode cX12_payments 26 = .ok (.goto 4, 3) := by decide +kernel
theorem dX12_payments_29 : decode cX12_payments 29 = .ok (.iconst 0, 1) := by decide +kernel
theorem dX12_payments_30 : decode cX12_payments 30 = .ok (.ior, 1) := by decide +kernel
theorem dX12_payments_31 : decode cX12_payments 31 = .ok (.istore_n 1, 1) := by decide +kernel
theorem dX12_payments_32 : decode cX12_payments 32 = .ok (.iinc 2 1, 3) := by decide +kernel
theorem dX12_payments_35 : decode cX12_payments 35 = .ok (.goto (-26), 3) := by decide +kernel
theorem dX12_payments_38 : decode cX12_payments 38 = .ok (.iload_n 1, 1) := by decide +kernel
theorem dX12_payments_39 : decode cX12_payments 39 = .ok (.invokestatic 260, 3) := by decide +kernel
theorem dX12_payments_42 : decode cX12_payments 42 = .ok (.aload_n 0, 1) := by decide +kernel
theorem dX12_payments_43 : decode cX12_payments 43 = .ok (.iload_n 1, 1) := by decide +kernel
theorem dX12_payments_44 : decode cX12_payments 44 = .ok (.invokevirtual 428, 3) := by decide +kernel
theorem dX12_payments_47 : decode cX12_payments 47 = .ok (.isub, 1) := by decide +kernel
theorem dX12_payments_48 : decode cX12_payments 48 = .ok (.ireturn, 1) := by decide +kernel
theorem dX12_noLooked_0 : decode cX12_noLooked 0 = .ok (.aload_n 0, 1) := by decide +kernel
theorem dX12_noLooked_1 : decode cX12_noLooked 1 = .ok (.iload_n 1, 1) := by decide +kernel
theorem dX12_noLooked_2 : decode cX12_noLooked 2 = .ok (.invokevirtual 350, 3) := by decide +kernel
theorem dX12_noLooked_5 : decode cX12_noLooked 5 = .ok (.istore_n 2, 1) := by decide +kernel
theorem dX12_noLooked_6 : decode cX12_noLooked 6 = .ok (.iload_n 2, 1) := by decide +kernel
theorem dX12_noLooked_7 : decode cX12_noLooked 7 = .ok (.ifCond .eq 5, 3) := by decide +kernel
theorem dX12_noLooked_10 : decode cX12_noLooked 10 = .ok (.iload_n 2, 1) := by decide +kernel
theorem dX12_noLooked_11 : decode cX12_noLooked 11 = .ok (.ireturn, 1) := by decide +kernel
theorem dX12_noLooked_12 : decode cX12_noLooked 12 = .ok (.aload_n 0, 1) := by decide +kernel
theorem dX12_noLooked_13 : decode cX12_noLooked 13 = .ok (.getfield 73, 3) := by decide +kernel
theorem dX12_noLooked_16 : decode cX12_noLooked 16 = .ok (.iload_n 1, 1) := by decide +kernel
theorem dX12_noLooked_17 : decode cX12_noLooked 17 = .ok (.iaload, 1) := by decide +kernel
theorem dX12_noLooked_18 : decode cX12_noLooked 18 = .ok (.i2l, 1) := by decide +kernel
theorem dX12_noLooked_19 : decode cX12_noLooked 19 = .ok (.lconst 1, 1) := by decide +kernel
theorem dX12_noLooked_20 : decode cX12_noLooked 20 = .ok (.ldc2_w 431, 3) := by decide +kernel
theorem dX12_noLooked_23 : decode cX12_noLooked 23 = .ok (.invokestatic 145, 3) := by decide +kernel
theorem dX12_noLooked_26 : decode cX12_noLooked 26 = .ok (.ifCond .ne 6, 3) := by decide +kernel
theorem dX12_noLooked_29 : decode cX12_noLooked 29 = .ok (.bipush (-4), 2) := by decide +kernel
theorem dX12_noLooked_31 : decode cX12_noLooked 31 = .ok (.ireturn, 1) := by decide +kernel
theorem dX12_noLooked_32 : decode cX12_noLooked 32 = .ok (.iconst 0, 1) := by decide +kernel
theorem dX12_noLooked_33 : decode cX12_noLooked 33 = .ok (.istore_n 3, 1) := by decide +kernel
theorem dX12_noLooked_34 : decode cX12_noLooked 34 = .ok (.iload_n 3, 1) := by decide +kernel
theorem dX12_noLooked_35 : decode cX12_noLooked 35 = .ok (.aload_n 0, 1) := by decide +kernel
theorem dX12_noLooked_36 : decode cX12_noLooked 36 = .ok (.getfield 73, 3) := by decide +kernel
theorem dX12_noLooked_39 : decode cX12_noLooked 39 = .ok (.iload_n 1, 1) := by decide +kernel
theorem dX12_noLooked_40 : decode cX12_noLooked 40 = .ok (.iaload, 1) := by decide +kernel
theorem dX12_noLooked_41 : decode cX12_noLooked 41 = .ok (.if_icmp .ge 33, 3) := by decide +kernel
theorem dX12_noLooked_44 : decode cX12_noLooked 44 = .ok (.aload_n 0, 1) := by decide +kernel
theorem dX12_noLooked_45 : decode cX12_noLooked 45 = .ok (.getfield 76, 3) := by decide +kernel
theorem dX12_noLooked_48 : decode cX12_noLooked 48 = .ok (.bipush 40, 2) := by decide +kernel
theorem dX12_noLooked_50 : decode cX12_noLooked 50 = .ok (.iload_n 1, 1) := by decide +kernel
theorem dX12_noLooked_51 : decode cX12_noLooked 51 = .ok (.imul, 1) := by decide +kernel
theorem dX12_noLooked_52 : decode cX12_noLooked 52 = .ok (.iload_n 3, 1) := by decide +kernel
theorem dX12_noLooked_53 : decode cX12_noLooked 53 = .ok (.iadd, 1) := by decide +kernel
theorem dX12_noLooked_54 : decode cX12_noLooked 54 = .ok (.laload, 1) := by decide +kernel
theorem dX12_noLooked_55 : decode cX12_noLooked 55 = .ok (.lconst 0, 1) := by decide +kernel
theorem dX12_noLooked_56 : decode cX12_noLooked 56 = .ok (.ldc2_w 433, 3) := by decide +kernel
theorem dX12_noLooked_59 : decode cX12_noLooked 59 = .ok (.invokestatic 145, 3) := by decide +kernel
theorem dX12_noLooked_62 : decode cX12_noLooked 62 = .ok (.ifCond .ne 6, 3) := by decide +kernel
theorem dX12_noLooked_65 : decode cX12_noLooked 65 = .ok (.bipush (-3), 2) := by decide +kernel
theorem dX12_noLooked_67 : decode cX12_noLooked 67 = .ok (.ireturn, 1) := by decide +kernel
theorem dX12_noLooked_68 : decode cX12_noLooked 68 = .ok (.iinc 3 1, 3) := by decide +kernel
theorem dX12_noLooked_71 : decode cX12_noLooked 71 = .ok (.goto (-37), 3) := by decide +kernel
theorem dX12_noLooked_74 : decode cX12_noLooked 74 = .ok (.iconst 0, 1) := by decide +kernel
theorem dX12_noLooked_75 : decode cX12_noLooked 75 = .ok (.ireturn, 1) := by decide +kernel
theorem dX12_moonsOf_0 : decode cX12_moonsOf 0 = .ok (.iconst 0, 1) := by decide +kernel
theorem dX12_moonsOf_1 : decode cX12_moonsOf 1 = .ok (.istore_n 2, 1) := by decide +kernel
theorem dX12_moonsOf_2 : decode cX12_moonsOf 2 = .ok (.iconst 0, 1) := by decide +kernel
theorem dX12_moonsOf_3 : decode cX12_moonsOf 3 = .ok (.istore_n 3, 1) := by decide +kernel
theorem dX12_moonsOf_4 : decode cX12_moonsOf 4 = .ok (.iload_n 3, 1) := by decide +kernel
theorem dX12_moonsOf_5 : decode cX12_moonsOf 5 = .ok (.bipush 10, 2) := by decide +kernel
theorem dX12_moonsOf_7 : decode cX12_moonsOf 7 = .ok (.if_icmp .ge 98, 3) := by decide +kernel
theorem dX12_moonsOf_10 : decode cX12_moonsOf 10 = .ok (.iconst 1, 1) := by decide +kernel
theorem dX12_moonsOf_11 : decode cX12_moonsOf 11 = .ok (.istore 4, 2) := by decide +kernel
theorem dX12_moonsOf_13 : decode cX12_moonsOf 13 = .ok (.iconst 0, 1) := by decide +kernel
theorem dX12_moonsOf_14 : decode cX12_moonsOf 14 = .ok (.istore 5, 2) := by decide +kernel
theorem dX12_moonsOf_16 : decode cX12_moonsOf 16 = .ok (.iload 5, 2) := by decide +kernel
theorem dX12_moonsOf_18 : decode cX12_moonsOf 18 = .ok (.aload_n 0, 1) := by decide +kernel
theorem dX12_moonsOf_19 : decode cX12_moonsOf 19 = .ok (.getfield 73, 3) := by decide +kernel
theorem dX12_moonsOf_22 : decode cX12_moonsOf 22 = .ok (.iload_n 1, 1) := by decide +kernel
theorem dX12_moonsOf_23 : decode cX12_moonsOf 23 = .ok (.iaload, 1) := by decide +kernel
theorem dX12_moonsOf_24 : decode cX12_moonsOf 24 = .ok (.if_icmp .ge 60, 3) := by decide +kernel
theorem dX12_moonsOf_27 : decode cX12_moonsOf 27 = .ok (.aload_n 0, 1) := by decide +kernel
theorem dX12_moonsOf_28 : decode cX12_moonsOf 28 = .ok (.getfield 76, 3) := by decide +kernel
theorem dX12_moonsOf_31 : decode cX12_moonsOf 31 = .ok (.bipush 40, 2) := by decide +kernel
theorem dX12_moonsOf_33 : decode cX12_moonsOf 33 = .ok (.iload_n 1, 1) := by decide +kernel
theorem dX12_moonsOf_34 : decode cX12_moonsOf 34 = .ok (.imul, 1) := by decide +kernel
theorem dX12_moonsOf_35 : decode cX12_moonsOf 35 = .ok (.iload 5, 2) := by decide +kernel
theorem dX12_moonsOf_37 : decode cX12_moonsOf 37 = .ok (.iadd, 1) := by decide +kernel
theorem dX12_moonsOf_38 : decode cX12_moonsOf 38 = .ok (.laload, 1) := by decide +kernel
theorem dX12_moonsOf_39 : decode cX12_moonsOf 39 = .ok (.l2i, 1) := by decide +kernel
theorem dX12_moonsOf_40 : decode cX12_moonsOf 40 = .ok (.istore 6, 2) := by decide +kernel
theorem dX12_moonsOf_42 : decode cX12_moonsOf 42 = .ok (.iload 4, 2) := by decide +kernel
theorem dX12_moonsOf_44 : decode cX12_moonsOf 44 = .ok (.aload_n 0, 1) := by decide +kernel
theorem dX12_moonsOf_45 : decode cX12_moonsOf 45 = .ok (.aload_n 0, 1) := by decide +kernel
theorem dX12_moonsOf_46 : decode cX12_moonsOf 46 = .ok (.getfield 13, 3) := by decide +kernel
theorem dX12_moonsOf_49 : decode cX12_moonsOf 49 = .ok (.bipush 107, 2) := by decide +kernel
theorem dX12_moonsOf_51 : decode cX12_moonsOf 51 = .ok (.iaload, 1) := by decide +kernel
theorem dX12_moonsOf_52 : decode cX12_moonsOf 52 = .ok (.iload 6, 2) := by decide +kernel
theorem dX12_moonsOf_54 : decode cX12_moonsOf 54 = .ok (.bipush 100, 2) := by decide +kernel
theorem dX12_moonsOf_56 : decode cX12_moonsOf 56 = .ok (.irem, 1) := by decide +kernel
theorem dX12_moonsOf_57 : decode cX12_moonsOf 57 = .ok (.iadd, 1) := by decide +kernel
theorem dX12_moonsOf_58 : decode cX12_moonsOf 58 = .ok (.iload_n 3, 1) := by decide +kernel
theorem dX12_moonsOf_59 : decode cX12_moonsOf 59 = .ok (.invokevirtual 263, 3) := by decide +kernel
theorem dX12_moonsOf_62 : decode cX12_moonsOf 62 = .ok (.iload 6, 2) := by decide +kernel
theorem dX12_moonsOf_64 : decode cX12_moonsOf 64 = .ok (.bipush 100, 2) := by decide +kernel
theorem dX12_moonsOf_66 : decode cX12_moonsOf 66 = .ok (.idiv, 1) := by decide +kernel
theorem dX12_moonsOf_67 : decode cX12_moonsOf 67 = .ok (.if_icmp .ne 7, 3) := by decide +kernel
theorem dX12_moonsOf_70 : decode cX12_moonsOf 70 = .ok (.iconst 1, 1) := by decide +kernel
theorem dX12_moonsOf_71 : decode cX12_moonsOf 71 = .ok (.goto 4, 3) := by decide +kernel
theorem dX12_moonsOf_74 : decode cX12_moonsOf 74 = .ok (.iconst 0, 1) := by decide +kernel
theorem dX12_moonsOf_75 : decode cX12_moonsOf 75 = .ok (.iand, 1) := by decide +kernel
theorem dX12_moonsOf_76 : decode cX12_moonsOf 76 = .ok (.istore 4, 2) := by decide +kernel
theorem dX12_moonsOf_78 : decode cX12_moonsOf 78 = .ok (.iinc 5 1, 3) := by decide +kernel
theorem dX12_moonsOf_81 : decode cX12_moonsOf 81 = .ok (.goto (-65), 3) := by decide +kernel
theorem dX12_moonsOf_84 : decode cX12_moonsOf 84 = .ok (.iload_n 2, 1) := by decide +kernel
theorem dX12_moonsOf_85 : decode cX12_moonsOf 85 = .ok (.iload 4, 2) := by decide +kernel
theorem dX12_moonsOf_87 : decode cX12_moonsOf 87 = .ok (.ifCond .eq 9, 3) := by decide +kernel
theorem dX12_moonsOf_90 : decode cX12_moonsOf 90 = .ok (.iconst 1, 1) := by decide +kernel
theorem dX12_moonsOf_91 : decode cX12_moonsOf 91 = .ok (.iload_n 3, 1) := by decide +kernel
theorem dX12_moonsOf_92 : decode cX12_moonsOf 92 = .ok (.ishl, 1) := by decide +kernel
theorem dX12_moonsOf_93 : decode cX12_moonsOf 93 = .ok (.goto 4, 3) := by decide +kernel
theorem dX12_moonsOf_96 : decode cX12_moonsOf 96 = .ok (.iconst 0, 1) := by decide +kernel
theorem dX12_moonsOf_97 : decode cX12_moonsOf 97 = .ok (.ior, 1) := by decide +kernel
theorem dX12_moonsOf_98 : decode cX12_moonsOf 98 = .ok (.istore_n 2, 1) := by decide +kernel
theorem dX12_moonsOf_99 : decode cX12_moonsOf 99 = .ok (.iinc 3 1, 3) := by decide +kernel
theorem dX12_moonsOf_102 : decode cX12_moonsOf 102 = .ok (.goto (-98), 3) := by decide +kernel
theorem dX12_moonsOf_105 : decode cX12_moonsOf 105 = .ok (.iload_n 2, 1) := by decide +kernel
theorem dX12_moonsOf_106 : decode cX12_moonsOf 106 = .ok (.ireturn, 1) := by decide +kernel
theorem dX12_moons_0 : decode cX12_moons 0 = .ok (.aload_n 0, 1) := by decide +kernel
theorem dX12_moons_1 : decode cX12_moons 1 = .ok (.iconst 0, 1) := by decide +kernel
theorem dX12_moons_2 : decode cX12_moons 2 = .ok (.putfield 1, 3) := by decide +kernel
theorem dX12_moons_5 : decode cX12_moons 5 = .ok (.aload_n 0, 1) := by decide +kernel
theorem dX12_moons_6 : decode cX12_moons 6 = .ok (.iload_n 1, 1) := by decide +kernel
theorem dX12_moons_7 : decode cX12_moons 7 = .ok (.invokevirtual 435, 3) := by decide +kernel
theorem dX12_moons_10 : decode cX12_moons 10 = .ok (.istore_n 2, 1) := by decide +kernel
theorem dX12_moons_11 : decode cX12_moons 11 = .ok (.iload_n 2, 1) := by decide +kernel
theorem dX12_moons_12 : decode cX12_moons 12 = .ok (.ifCond .eq 7, 3) := by decide +kernel
theorem dX12_moons_15 : decode cX12_moons 15 = .ok (.iload_n 2, 1) := by decide +kernel
theorem dX12_moons_16 : decode cX12_moons 16 = .ok (.goto 8, 3) := by decide +kernel
theorem dX12_moons_19 : decode cX12_moons 19 = .ok (.aload_n 0, 1) := by decide +kernel
theorem dX12_moons_20 : decode cX12_moons 20 = .ok (.iload_n 1, 1) := by decide +kernel
theorem dX12_moons_21 : decode cX12_moons 21 = .ok (.invokevirtual 438, 3) := by decide +kernel
theorem dX12_moons_24 : decode cX12_moons 24 = .ok (.ireturn, 1) := by decide +kernel
theorem dX12_mostOften_0 : decode cX12_mostOften 0 = .ok (.iconst 0, 1) := by decide +kernel
theorem dX12_mostOften_1 : decode cX12_mostOften 1 = .ok (.istore_n 3, 1) := by decide +kernel
theorem dX12_mostOften_2 : decode cX12_mostOften 2 = .ok (.iconst 0, 1) := by decide +kernel
theorem dX12_mostOften_3 : decode cX12_mostOften 3 = .ok (.istore 4, 2) := by decide +kernel
theorem dX12_mostOften_5 : decode cX12_mostOften 5 = .ok (.iload 4, 2) := by decide +kernel
theorem dX12_mostOften_7 : decode cX12_mostOften 7 = .ok (.bipush 10, 2) := by decide +kernel
theorem dX12_mostOften_9 : decode cX12_mostOften 9 = .ok (.if_icmp .gt 17, 3) := by decide +kernel
theorem dX12_mostOften_12 : decode cX12_mostOften 12 = .ok (.aload_n 0, 1) := by decide +kernel
theorem dX12_mostOften_13 : decode cX12_mostOften 13 = .ok (.getfield 60, 3) := by decide +kernel
theorem dX12_mostOften_16 : decode cX12_mostOften 16 = .ok (.iload 4, 2) := by decide +kernel
theorem dX12_mostOften_18 : decode cX12_mostOften 18 = .ok (.iconst 0, 1) := by decide +kernel
theorem dX12_mostOften_19 : decode cX12_mostOften 19 = .ok (.iastore, 1) := by decide +kernel
theorem dX12_mostOften_20 : decode cX12_mostOften 20 = .ok (.iinc 4 1, 3) := by decide +kernel
theorem dX12_mostOften_23 : decode cX12_mostOften 23 = .ok (.goto (-18), 3) := by decide +kernel
theorem dX12_mostOften_26 : decode cX12_mostOften 26 = .ok (.iconst 0, 1) := by decide +kernel
theorem dX12_mostOften_27 : decode cX12_mostOften 27 = .ok (.istore 4, 2) := by decide +kernel
theorem dX12_mostOften_29 : decode cX12_mostOften 29 = .ok (.iload 4, 2) := by decide +kernel
theorem dX12_mostOften_31 : decode cX12_mostOften 31 = .ok (.bipush 10, 2) := by decide +kernel
theorem dX12_mostOften_33 : decode cX12_mostOften 33 = .ok (.if_icmp .ge 73, 3) := by decide +kernel
theorem dX12_mostOften_36 : decode cX12_mostOften 36 = .ok (.iload_n 2, 1) := by decide +kernel
theorem dX12_mostOften_37 : decode cX12_mostOften 37 = .ok (.i2l, 1) := by decide +kernel
theorem dX12_mostOften_38 : decode cX12_mostOften 38 = .ok (.iload 4, 2) := by decide +kernel
theorem dX12_mostOften_40 : decode cX12_mostOften 40 = .ok (.invokestatic 253, 3) := by decide +kernel
theorem dX12_mostOften_43 : decode cX12_mostOften 43 = .ok (.ifCond .ne 6, 3) := by decide +kernel
theorem dX12_mostOften_46 : decode cX12_mostOften 46 = .ok (.goto 54, 3) := by decide +kernel
theorem dX12_mostOften_49 : decode cX12_mostOften 49 = .ok (.aload_n 0, 1) := by decide +kernel
theorem dX12_mostOften_50 : decode cX12_mostOften 50 = .ok (.aload_n 0, 1) := by decide +kernel
theorem dX12_mostOften_51 : decode cX12_mostOften 51 = .ok (.getfield 13, 3) := by decide +kernel
theorem dX12_mostOften_54 : decode cX12_mostOften 54 = .ok (.bipush 107, 2) := by decide +kernel
theorem dX12_mostOften_56 : decode cX12_mostOften 56 = .ok (.iaload, 1) := by decide +kernel
theorem dX12_mostOften_57 : decode cX12_mostOften 57 = .ok (.iload_n 1, 1) := by decide +kernel
theorem dX12_mostOften_58 : decode cX12_mostOften 58 = .ok (.iadd, 1) := by decide +kernel
theorem dX12_mostOften_59 : decode cX12_mostOften 59 = .ok (.iload 4, 2) := by decide +kernel
theorem dX12_mostOften_61 : decode cX12_mostOften 61 = .ok (.invokevirtual 263, 3) := by decide +kernel
theorem dX12_mostOften_64 : decode cX12_mostOften 64 = .ok (.istore 5, 2) := by decide +kernel
theorem dX12_mostOften_66 : decode cX12_mostOften 66 = .ok (.aload_n 0, 1) := by decide +kernel
theorem dX12_mostOften_67 : decode cX12_mostOften 67 = .ok (.getfield 60, 3) := by decide +kernel
theorem dX12_mostOften_70 : decode cX12_mostOften 70 = .ok (.iload 5, 2) := by decide +kernel
theorem dX12_mostOften_72 : decode cX12_mostOften 72 = .ok (.dup2, 1) := by decide +kernel
theorem dX12_mostOften_73 : decode cX12_mostOften 73 = .ok (.iaload, 1) := by decide +kernel
theorem dX12_mostOften_74 : decode cX12_mostOften 74 = .ok (.iconst 1, 1) := by decide +kernel
theorem dX12_mostOften_75 : decode cX12_mostOften 75 = .ok (.iadd, 1) := by decide +kernel
theorem dX12_mostOften_76 : decode cX12_mostOften 76 = .ok (.iastore, 1) := by decide +kernel
theorem dX12_mostOften_77 : decode cX12_mostOften 77 = .ok (.aload_n 0, 1) := by decide +kernel
theorem dX12_mostOften_78 : decode cX12_mostOften 78 = .ok (.getfield 60, 3) := by decide +kernel
theorem dX12_mostOften_81 : decode cX12_mostOften 81 = .ok (.iload 5, 2) := by decide +kernel
theorem dX12_mostOften_83 : decode cX12_mostOften 83 = .ok (.iaload, 1) := by decide +kernel
theorem dX12_mostOften_84 : decode cX12_mostOften 84 = .ok (.iload_n 3, 1) := by decide +kernel
theorem dX12_mostOften_85 : decode cX12_mostOften 85 = .ok (.if_icmp .le 13, 3) := by decide +kernel
theorem dX12_mostOften_88 : decode cX12_mostOften 88 = .ok (.aload_n 0, 1) := by decide +kernel
theorem dX12_mostOften_89 : decode cX12_mostOften 89 = .ok (.getfield 60, 3) := by decide +kernel
theorem dX12_mostOften_92 : decode cX12_mostOften 92 = .ok (.iload 5, 2) := by decide +kernel
theorem dX12_mostOften_94 : decode cX12_mostOften 94 = .ok (.iaload, 1) := by decide +kernel
theorem dX12_mostOften_95 : decode cX12_mostOften 95 = .ok (.goto 4, 3) := by decide +kernel
theorem dX12_mostOften_98 : decode cX12_mostOften 98 = .ok (.iload_n 3, 1) := by decide +kernel
theorem dX12_mostOften_99 : decode cX12_mostOften 99 = .ok (.istore_n 3, 1) := by decide +kernel
theorem dX12_mostOften_100 : decode cX12_mostOften 100 = .ok (.iinc 4 1, 3) := by decide +kernel
theorem dX12_mostOften_103 : decode cX12_mostOften 103 = .ok (.goto (-74), 3) := by decide +kernel
theorem dX12_mostOften_106 : decode cX12_mostOften 106 = .ok (.iload_n 3, 1) := by decide +kernel
theorem dX12_mostOften_107 : decode cX12_mostOften 107 = .ok (.ireturn, 1) := by decide +kernel
theorem dX12_look_0 : decode cX12_look 0 = .ok (.aload_n 0, 1) := by decide +kernel
theorem dX12_look_1 : decode cX12_look 1 = .ok (.iconst 0, 1) := by decide +kernel
theorem dX12_look_2 : decode cX12_look 2 = .ok (.putfield 1, 3) := by decide +kernel
theorem dX12_look_5 : decode cX12_look 5 = .ok (.aload_n 0, 1) := by decide +kernel
theorem dX12_look_6 : decode cX12_look 6 = .ok (.iload_n 1, 1) := by decide +kernel
theorem dX12_look_7 : decode cX12_look 7 = .ok (.invokevirtual 435, 3) := by decide +kernel
theorem dX12_look_10 : decode cX12_look 10 = .ok (.istore_n 2, 1) := by decide +kernel
theorem dX12_look_11 : decode cX12_look 11 = .ok (.iload_n 2, 1) := by decide +kernel
theorem dX12_look_12 : decode cX12_look 12 = .ok (.ifCond .eq 5, 3) := by decide +kernel
theorem dX12_look_15 : decode cX12_look 15 = .ok (.iload_n 2, 1) := by decide +kernel
theorem dX12_look_16 : decode cX12_look 16 = .ok (.ireturn, 1) := by decide +kernel
theorem dX12_look_17 : decode cX12_look 17 = .ok (.aload_n 0, 1) := by decide +kernel
theorem dX12_look_18 : decode cX12_look 18 = .ok (.iload_n 1, 1) := by decide +kernel
theorem dX12_look_19 : decode cX12_look 19 = .ok (.invokevirtual 438, 3) := by decide +kernel
theorem dX12_look_22 : decode cX12_look 22 = .ok (.istore_n 3, 1) := by decide +kernel
theorem dX12_look_23 : decode cX12_look 23 = .ok (.iconst (-1), 1) := by decide +kernel
theorem dX12_look_24 : decode cX12_look 24 = .ok (.istore 4, 2) := by decide +kernel
theorem dX12_look_26 : decode cX12_look 26 = .ok (.ldc_w 385, 3) := by decide +kernel
theorem dX12_look_29 : decode cX12_look 29 = .ok (.istore 5, 2) := by decide +kernel
theorem dX12_look_31 : decode cX12_look 31 = .ok (.iconst 0, 1) := by decide +kernel
theorem dX12_look_32 : decode cX12_look 32 = .ok (.istore 6, 2) := by decide +kernel
theorem dX12_look_34 : decode cX12_look 34 = .ok (.iload 6, 2) := by decide +kernel
theorem dX12_look_36 : decode cX12_look 36 = .ok (.bipush 100, 2) := by decide +kernel
theorem dX12_look_38 : decode cX12_look 38 = .ok (.if_icmp .ge 40, 3) := by decide +kernel
theorem dX12_look_41 : decode cX12_look 41 = .ok (.iload_n 3, 1) := by decide +kernel
theorem dX12_look_42 : decode cX12_look 42 = .ok (.ifCond .eq 36, 3) := by decide +kernel
theorem dX12_look_45 : decode cX12_look 45 = .ok (.aload_n 0, 1) := by decide +kernel
theorem dX12_look_46 : decode cX12_look 46 = .ok (.iload 6, 2) := by decide +kernel
theorem dX12_look_48 : decode cX12_look 48 = .ok (.iload_n 3, 1) := by decide +kernel
theorem dX12_look_49 : decode cX12_look 49 = .ok (.invokevirtual 441, 3) := by decide +kernel
theorem dX12_look_52 : decode cX12_look 52 = .ok (.istore 7, 2) := by decide +kernel
theorem dX12_look_54 : decode cX12_look 54 = .ok (.iload 7, 2) := by decide +kernel
theorem dX12_look_56 : decode cX12_look 56 = .ok (.iload 5, 2) := by decide +kernel
theorem dX12_look_58 : decode cX12_look 58 = .ok (.if_icmp .lt 6, 3) := by decide +kernel
theorem dX12_look_61 : decode cX12_look 61 = .ok (.goto 11, 3) := by decide +kernel
theorem dX12_look_64 : decode cX12_look 64 = .ok (.iload 6, 2) := by decide +kernel
theorem dX12_look_66 : decode cX12_look 66 = .ok (.istore 4, 2) := by decide +kernel
theorem dX12_look_68 : decode cX12_look 68 = .ok (.iload 7, 2) := by decide +kernel
theorem dX12_look_70 : decode cX12_look 70 = .ok (.istore 5, 2) := by decide +kernel
theorem dX12_look_72 : decode cX12_look 72 = .ok (.iinc 6 1, 3) := by decide +kernel
theorem dX12_look_75 : decode cX12_look 75 = .ok (.goto (-41), 3) := by decide +kernel
theorem dX12_look_78 : decode cX12_look 78 = .ok (.iload 4, 2) := by decide +kernel
theorem dX12_look_80 : decode cX12_look 80 = .ok (.ireturn, 1) := by decide +kernel
theorem dX12_freeIn_0 : decode cX12_freeIn 0 = .ok (.iconst 0, 1) := by decide +kernel
theorem dX12_freeIn_1 : decode cX12_freeIn 1 = .ok (.istore_n 2, 1) := by decide +kernel
theorem dX12_freeIn_2 : decode cX12_freeIn 2 = .ok (.iconst 0, 1) := by decide +kernel
theorem dX12_freeIn_3 : decode cX12_freeIn 3 = .ok (.istore_n 3, 1) := by decide +kernel
theorem dX12_freeIn_4 : decode cX12_freeIn 4 = .ok (.iload_n 3, 1) := by decide +kernel
theorem dX12_freeIn_5 : decode cX12_freeIn 5 = .ok (.aload_n 0, 1) := by decide +kernel
theorem dX12_freeIn_6 : decode cX12_freeIn 6 = .ok (.getfield 13, 3) := by decide +kernel
theorem dX12_freeIn_9 : decode cX12_freeIn 9 = .ok (.iconst 2, 1) := by decide +kernel
theorem dX12_freeIn_10 : decode cX12_freeIn 10 = .ok (.iaload, 1) := by decide +kernel
theorem dX12_freeIn_11 : decode cX12_freeIn 11 = .ok (.if_icmp .ge 90, 3) := by decide +kernel
theorem dX12_freeIn_14 : decode cX12_freeIn 14 = .ok (.aload_n 0, 1) := by decide +kernel
theorem dX12_freeIn_15 : decode cX12_freeIn 15 = .ok (.getfield 13, 3) := by decide +kernel
theorem dX12_freeIn_18 : decode cX12_freeIn 18 = .ok (.iconst 2, 1) := by decide +kernel
theorem dX12_freeIn_19 : decode cX12_freeIn 19 = .ok (.iaload, 1) := by decide +kernel
theorem dX12_freeIn_20 : decode cX12_freeIn 20 = .ok (.iload_n 1, 1) := by decide +kernel
theorem dX12_freeIn_21 : decode cX12_freeIn 21 = .ok (.imul, 1) := by decide +kernel
theorem dX12_freeIn_22 : decode cX12_freeIn 22 = .ok (.iload_n 3, 1) := by decide +kernel
theorem dX12_freeIn_23 : decode cX12_freeIn 23 = .ok (.iadd, 1) := by decide +kernel
theorem dX12_freeIn_24 : decode cX12_freeIn 24 = .ok (.istore 4, 2) := by decide +kernel
theorem dX12_freeIn_26 : decode cX12_freeIn 26 = .ok (.aload_n 0, 1) := by decide +kernel
theorem dX12_freeIn_27 : decode cX12_freeIn 27 = .ok (.iload 4, 2) := by decide +kernel
theorem dX12_freeIn_29 : decode cX12_freeIn 29 = .ok (.invokevirtual 313, 3) := by decide +kernel
theorem dX12_freeIn_32 : decode cX12_freeIn 32 = .ok (.ifCond .ne 45, 3) := by decide +kernel
theorem dX12_freeIn_35 : decode cX12_freeIn 35 = .ok (.iload_n 3, 1) := by decide +kernel
theorem dX12_freeIn_36 : decode cX12_freeIn 36 = .ok (.ifCond .le 14, 3) := by decide +kernel
theorem dX12_freeIn_39 : decode cX12_freeIn 39 = .ok (.aload_n 0, 1) := by decide +kernel
theorem dX12_freeIn_40 : decode cX12_freeIn 40 = .ok (.iload 4, 2) := by decide +kernel
theorem dX12_freeIn_42 : decode cX12_freeIn 42 = .ok (.iconst 1, 1) := by decide +kernel
theorem dX12_freeIn_43 : decode cX12_freeIn 43 = .ok (.isub, 1) := by decide +kernel
theorem dX12_freeIn_44 : decode cX12_freeIn 44 = .ok (.invokevirtual 313, 3) := by decide +kernel
theorem dX12_freeIn_47 : decode cX12_freeIn 47 = .ok (.ifCond .ne 30, 3) := by decide +kernel
theorem dX12_freeIn_50 : decode cX12_freeIn 50 = .ok (.iload_n 3, 1) := by decide +kernel
theorem dX12_freeIn_51 : decode cX12_freeIn 51 = .ok (.aload_n 0, 1) := by decide +kernel
theorem dX12_freeIn_52 : decode cX12_freeIn 52 = .ok (.getfield 13, 3) := by decide +kernel
theorem dX12_freeIn_55 : decode cX12_freeIn 55 = .ok (.iconst 2, 1) := by decide +kernel
theorem dX12_freeIn_56 : decode cX12_freeIn 56 = .ok (.iaload, 1) := by decide +kernel
theorem dX12_freeIn_57 : decode cX12_freeIn 57 = .ok (.iconst 1, 1) := by decide +kernel
theorem dX12_freeIn_58 : decode cX12_freeIn 58 = .ok (.isub, 1) := by decide +kernel
theorem dX12_freeIn_59 : decode cX12_freeIn 59 = .ok (.if_icmp .ge 14, 3) := by decide +kernel
theorem dX12_freeIn_62 : decode cX12_freeIn 62 = .ok (.aload_n 0, 1) := by decide +kernel
theorem dX12_freeIn_63 : decode cX12_freeIn 63 = .ok (.iload 4, 2) := by decide +kernel
theorem dX12_freeIn_65 : decode cX12_freeIn 65 = .ok (.iconst 1, 1) := by decide +kernel
theorem dX12_freeIn_66 : decode cX12_freeIn 66 = .ok (.iadd, 1) := by decide +kernel
theorem dX12_freeIn_67 : decode cX12_freeIn 67 = .ok (.invokevirtual 313, 3) := by decide +kernel
theorem dX12_freeIn_70 : decode cX12_freeIn 70 = .ok (.ifCond .ne 7, 3) := by decide +kernel
theorem dX12_freeIn_73 : decode cX12_freeIn 73 = .ok (.iconst 1, 1) := by decide +kernel
theorem dX12_freeIn_74 : decode cX12_freeIn 74 = .ok (.goto 4, 3) := by decide +kernel
theorem dX12_freeIn_77 : decode cX12_freeIn 77 = .ok (.iconst 0, 1) := by decide +kernel
theorem dX12_freeIn_78 : decode cX12_freeIn 78 = .ok (.istore 5, 2) := by decide +kernel
theorem dX12_freeIn_80 : decode cX12_freeIn 80 = .ok (.iload_n 2, 1) := by decide +kernel
theorem dX12_freeIn_81 : decode cX12_freeIn 81 = .ok (.iload 5, 2) := by decide +kernel
theorem dX12_freeIn_83 : decode cX12_freeIn 83 = .ok (.ifCond .eq 9, 3) := by decide +kernel
theorem dX12_freeIn_86 : decode cX12_freeIn 86 = .ok (.iconst 1, 1) := by decide +kernel
theorem dX12_freeIn_87 : decode cX12_freeIn 87 = .ok (.iload_n 3, 1) := by decide +kernel
theorem dX12_freeIn_88 : decode cX12_freeIn 88 = .ok (.ishl, 1) := by decide +kernel
theorem dX12_freeIn_89 : decode cX12_freeIn 89 = .ok (.goto 4, 3) := by decide +kernel
theorem dX12_freeIn_92 : decode cX12_freeIn 92 = .ok (.iconst 0, 1) := by decide +kernel
theorem dX12_freeIn_93 : decode cX12_freeIn 93 = .ok (.ior, 1) := by decide +kernel
theorem dX12_freeIn_94 : decode cX12_freeIn 94 = .ok (.istore_n 2, 1) := by decide +kernel
theorem dX12_freeIn_95 : decode cX12_freeIn 95 = .ok (.iinc 3 1, 3) := by decide +kernel
theorem dX12_freeIn_98 : decode cX12_freeIn 98 = .ok (.goto (-94), 3) := by decide +kernel
theorem dX12_freeIn_101 : decode cX12_freeIn 101 = .ok (.iload_n 2, 1) := by decide +kernel
theorem dX12_freeIn_102 : decode cX12_freeIn 102 = .ok (.ireturn, 1) := by decide +kernel
theorem dX12_putTo_0 : decode cX12_putTo 0 = .ok (.iload_n 0, 1) := by decide +kernel
theorem dX12_putTo_1 : decode cX12_putTo 1 = .ok (.iconst 1, 1) := by decide +kernel
theorem dX12_putTo_2 : decode cX12_putTo 2 = .ok (.iload_n 1, 1) := by decide +kernel
theorem dX12_putTo_3 : decode cX12_putTo 3 = .ok (.ishl, 1) := by decide +kernel
theorem dX12_putTo_4 : decode cX12_putTo 4 = .ok (.iconst (-1), 1) := by decide +kernel
theorem dX12_putTo_5 : decode cX12_putTo 5 = .ok (.ixor, 1) := by decide +kernel
theorem dX12_putTo_6 : decode cX12_putTo 6 = .ok (.iand, 1) := by decide +kernel
theorem dX12_putTo_7 : decode cX12_putTo 7 = .ok (.iconst 1, 1) := by decide +kernel
theorem dX12_putTo_8 : decode cX12_putTo 8 = .ok (.iload_n 1, 1) := by decide +kernel
theorem dX12_putTo_9 : decode cX12_putTo 9 = .ok (.iconst 1, 1) := by decide +kernel
theorem dX12_putTo_10 : decode cX12_putTo 10 = .ok (.iadd, 1) := by decide +kernel
theorem dX12_putTo_11 : decode cX12_putTo 11 = .ok (.ishl, 1) := by decide +kernel
theorem dX12_putTo_12 : decode cX12_putTo 12 = .ok (.iconst (-1), 1) := by decide +kernel
theorem dX12_putTo_13 : decode cX12_putTo 13 = .ok (.ixor, 1) := by decide +kernel
theorem dX12_putTo_14 : decode cX12_putTo 14 = .ok (.iand, 1) := by decide +kernel
theorem dX12_putTo_15 : decode cX12_putTo 15 = .ok (.iconst 1, 1) := by decide +kernel
theorem dX12_putTo_16 : decode cX12_putTo 16 = .ok (.iload_n 1, 1) := by decide +kernel
theorem dX12_putTo_17 : decode cX12_putTo 17 = .ok (.ishl, 1) := by decide +kernel
theorem dX12_putTo_18 : decode cX12_putTo 18 = .ok (.iconst 1, 1) := by decide +kernel
theorem dX12_putTo_19 : decode cX12_putTo 19 = .ok (.ishr, 1) := by decide +kernel
theorem dX12_putTo_20 : decode cX12_putTo 20 = .ok (.iconst (-1), 1) := by decide +kernel
theorem dX12_putTo_21 : decode cX12_putTo 21 = .ok (.ixor, 1) := by decide +kernel
theorem dX12_putTo_22 : decode cX12_putTo 22 = .ok (.iand, 1) := by decide +kernel
theorem dX12_putTo_23 : decode cX12_putTo 23 = .ok (.ireturn, 1) := by decide +kernel
theorem dX12_nimOf_0 : decode cX12_nimOf 0 = .ok (.iconst 0, 1) := by decide +kernel
theorem dX12_nimOf_1 : decode cX12_nimOf 1 = .ok (.istore_n 2, 1) := by decide +kernel
theorem dX12_nimOf_2 : decode cX12_nimOf 2 = .ok (.iconst 0, 1) := by decide +kernel
theorem dX12_nimOf_3 : decode cX12_nimOf 3 = .ok (.istore_n 3, 1) := by decide +kernel
theorem dX12_nimOf_4 : decode cX12_nimOf 4 = .ok (.iload_n 3, 1) := by decide +kernel
theorem dX12_nimOf_5 : decode cX12_nimOf 5 = .ok (.iconst 5, 1) := by decide +kernel
theorem dX12_nimOf_6 : decode cX12_nimOf 6 = .ok (.if_icmp .ge 32, 3) := by decide +kernel
theorem dX12_nimOf_9 : decode cX12_nimOf 9 = .ok (.iload_n 1, 1) := by decide +kernel
theorem dX12_nimOf_10 : decode cX12_nimOf 10 = .ok (.i2l, 1) := by decide +kernel
theorem dX12_nimOf_11 : decode cX12_nimOf 11 = .ok (.iload_n 3, 1) := by decide +kernel
theorem dX12_nimOf_12 : decode cX12_nimOf 12 = .ok (.invokestatic 253, 3) := by decide +kernel
theorem dX12_nimOf_15 : decode cX12_nimOf 15 = .ok (.ifCond .eq 17, 3) := by decide +kernel
theorem dX12_nimOf_18 : decode cX12_nimOf 18 = .ok (.iload_n 2, 1) := by decide +kernel
theorem dX12_nimOf_19 : decode cX12_nimOf 19 = .ok (.iconst 1, 1) := by decide +kernel
theorem dX12_nimOf_20 : decode cX12_nimOf 20 = .ok (.aload_n 0, 1) := by decide +kernel
theorem dX12_nimOf_21 : decode cX12_nimOf 21 = .ok (.iload_n 1, 1) := by decide +kernel
theorem dX12_nimOf_22 : decode cX12_nimOf 22 = .ok (.iload_n 3, 1) := by decide +kernel
theorem dX12_nimOf_23 : decode cX12_nimOf 23 = .ok (.invokestatic 444, 3) := by decide +kernel
theorem dX12_nimOf_26 : decode cX12_nimOf 26 = .ok (.invokevirtual 447, 3) := by decide +kernel
theorem dX12_nimOf_29 : decode cX12_nimOf 29 = .ok (.ishl, 1) := by decide +kernel
theorem dX12_nimOf_30 : decode cX12_nimOf 30 = .ok (.ior, 1) := by decide +kernel
theorem dX12_nimOf_31 : decode cX12_nimOf 31 = .ok (.istore_n 2, 1) := by decide +kernel
theorem dX12_nimOf_32 : decode cX12_nimOf 32 = .ok (.iinc 3 1, 3) := by decide +kernel
theorem dX12_nimOf_35 : decode cX12_nimOf 35 = .ok (.goto (-31), 3) := by decide +kernel
theorem dX12_nimOf_38 : decode cX12_nimOf 38 = .ok (.iconst 0, 1) := by decide +kernel
theorem dX12_nimOf_39 : decode cX12_nimOf 39 = .ok (.istore_n 3, 1) := by decide +kernel
theorem dX12_nimOf_40 : decode cX12_nimOf 40 = .ok (.iload_n 2, 1) := by decide +kernel
theorem dX12_nimOf_41 : decode cX12_nimOf 41 = .ok (.i2l, 1) := by decide +kernel
theorem dX12_nimOf_42 : decode cX12_nimOf 42 = .ok (.iload_n 3, 1) := by decide +kernel
theorem dX12_nimOf_43 : decode cX12_nimOf 43 = .ok (.invokestatic 253, 3) := by decide +kernel
theorem dX12_nimOf_46 : decode cX12_nimOf 46 = .ok (.ifCond .eq 9, 3) := by decide +kernel
theorem dX12_nimOf_49 : decode cX12_nimOf 49 = .ok (.iinc 3 1, 3) := by decide +kernel
theorem dX12_nimOf_52 : decode cX12_nimOf 52 = .ok (.goto (-12), 3) := by decide +kernel
theorem dX12_nimOf_55 : decode cX12_nimOf 55 = .ok (.iload_n 3, 1) := by decide +kernel
theorem dX12_nimOf_56 : decode cX12_nimOf 56 = .ok (.ireturn, 1) := by decide +kernel
theorem dX12_puts_0 : decode cX12_puts 0 = .ok (.aload_n 0, 1) := by decide +kernel
theorem dX12_puts_1 : decode cX12_puts 1 = .ok (.iconst 0, 1) := by decide +kernel
theorem dX12_puts_2 : decode cX12_puts 2 = .ok (.putfield 1, 3) := by decide +kernel
theorem dX12_puts_5 : decode cX12_puts 5 = .ok (.iload_n 1, 1) := by decide +kernel
theorem dX12_puts_6 : decode cX12_puts 6 = .ok (.i2l, 1) := by decide +kernel
theorem dX12_puts_7 : decode cX12_puts 7 = .ok (.lconst 0, 1) := by decide +kernel
theorem dX12_puts_8 : decode cX12_puts 8 = .ok (.aload_n 0, 1) := by decide +kernel
theorem dX12_puts_9 : decode cX12_puts 9 = .ok (.getfield 13, 3) := by decide +kernel
theorem dX12_puts_12 : decode cX12_puts 12 = .ok (.iconst 1, 1) := by decide +kernel
theorem dX12_puts_13 : decode cX12_puts 13 = .ok (.iaload, 1) := by decide +kernel
theorem dX12_puts_14 : decode cX12_puts 14 = .ok (.iconst 1, 1) := by decide +kernel
theorem dX12_puts_15 : decode cX12_puts 15 = .ok (.isub, 1) := by decide +kernel
theorem dX12_puts_16 : decode cX12_puts 16 = .ok (.i2l, 1) := by decide +kernel
theorem dX12_puts_17 : decode cX12_puts 17 = .ok (.invokestatic 145, 3) := by decide +kernel
theorem dX12_puts_20 : decode cX12_puts 20 = .ok (.ifCond .ne 6, 3) := by decide +kernel
theorem dX12_puts_23 : decode cX12_puts 23 = .ok (.bipush (-2), 2) := by decide +kernel
theorem dX12_puts_25 : decode cX12_puts 25 = .ok (.ireturn, 1) := by decide +kernel
theorem dX12_puts_26 : decode cX12_puts 26 = .ok (.aload_n 0, 1) := by decide +kernel
theorem dX12_puts_27 : decode cX12_puts 27 = .ok (.iload_n 1, 1) := by decide +kernel
theorem dX12_puts_28 : decode cX12_puts 28 = .ok (.invokevirtual 450, 3) := by decide +kernel
theorem dX12_puts_31 : decode cX12_puts 31 = .ok (.istore_n 2, 1) := by decide +kernel
theorem dX12_puts_32 : decode cX12_puts 32 = .ok (.iconst 0, 1) := by decide +kernel
theorem dX12_puts_33 : decode cX12_puts 33 = .ok (.istore_n 3, 1) := by decide +kernel
theorem dX12_puts_34 : decode cX12_puts 34 = .ok (.iload_n 3, 1) := by decide +kernel
theorem dX12_puts_35 : decode cX12_puts 35 = .ok (.aload_n 0, 1) := by decide +kernel
theorem dX12_puts_36 : decode cX12_puts 36 = .ok (.getfield 13, 3) := by decide +kernel
theorem dX12_puts_39 : decode cX12_puts 39 = .ok (.iconst 2, 1) := by decide +kernel
theorem dX12_puts_40 : decode cX12_puts 40 = .ok (.iaload, 1) := by decide +kernel
theorem dX12_puts_41 : decode cX12_puts 41 = .ok (.if_icmp .ge 41, 3) := by decide +kernel
theorem dX12_puts_44 : decode cX12_puts 44 = .ok (.iload_n 2, 1) := by decide +kernel
theorem dX12_puts_45 : decode cX12_puts 45 = .ok (.i2l, 1) := by decide +kernel
theorem dX12_puts_46 : decode cX12_puts 46 = .ok (.iload_n 3, 1) := by decide +kernel
theorem dX12_puts_47 : decode cX12_puts 47 = .ok (.invokestatic 253, 3) := by decide +kernel
theorem dX12_puts_50 : decode cX12_puts 50 = .ok (.ifCond .eq 26, 3) := by decide +kernel
theorem dX12_puts_53 : decode cX12_puts 53 = .ok (.aload_n 0, 1) := by decide +kernel
theorem dX12_puts_54 : decode cX12_puts 54 = .ok (.iload_n 2, 1) := by decide +kernel
theorem dX12_puts_55 : decode cX12_puts 55 = .ok (.iload_n 3, 1) := by decide +kernel
theorem dX12_puts_56 : decode cX12_puts 56 = .ok (.invokestatic 444, 3) := by decide +kernel
theorem dX12_puts_59 : decode cX12_puts 59 = .ok (.invokevirtual 447, 3) := by decide +kernel
theorem dX12_puts_62 : decode cX12_puts 62 = .ok (.ifCond .ne 14, 3) := by decide +kernel
theorem dX12_puts_65 : decode cX12_puts 65 = .ok (.aload_n 0, 1) := by decide +kernel
theorem dX12_puts_66 : decode cX12_puts 66 = .ok (.getfield 13, 3) := by decide +kernel
theorem dX12_puts_69 : decode cX12_puts 69 = .ok (.iconst 2, 1) := by decide +kernel
theorem dX12_puts_70 : decode cX12_puts 70 = .ok (.iaload, 1) := by decide +kernel
theorem dX12_puts_71 : decode cX12_puts 71 = .ok (.iload_n 1, 1) := by decide +kernel
theorem dX12_puts_72 : decode cX12_puts 72 = .ok (.imul, 1) := by decide +kernel
theorem dX12_puts_73 : decode cX12_puts 73 = .ok (.iload_n 3, 1) := by decide +kernel
theorem dX12_puts_74 : decode cX12_puts 74 = .ok (.iadd, 1) := by decide +kernel
theorem dX12_puts_75 : decode cX12_puts 75 = .ok (.ireturn, 1) := by decide +kernel
theorem dX12_puts_76 : decode cX12_puts 76 = .ok (.iinc 3 1, 3) := by decide +kernel
theorem dX12_puts_79 : decode cX12_puts 79 = .ok (.goto (-45), 3) := by decide +kernel
theorem dX12_puts_82 : decode cX12_puts 82 = .ok (.iconst (-1), 1) := by decide +kernel
theorem dX12_puts_83 : decode cX12_puts 83 = .ok (.ireturn, 1) := by decide +kernel
theorem dX12_wins_0 : decode cX12_wins 0 = .ok (.aload_n 0, 1) := by decide +kernel
theorem dX12_wins_1 : decode cX12_wins 1 = .ok (.iconst 0, 1) := by decide +kernel
theorem dX12_wins_2 : decode cX12_wins 2 = .ok (.putfield 1, 3) := by decide +kernel
theorem dX12_wins_5 : decode cX12_wins 5 = .ok (.iconst 0, 1) := by decide +kernel
theorem dX12_wins_6 : decode cX12_wins 6 = .ok (.istore_n 1, 1) := by decide +kernel
theorem dX12_wins_7 : decode cX12_wins 7 = .ok (.iconst 0, 1) := by decide +kernel
theorem dX12_wins_8 : decode cX12_wins 8 = .ok (.istore_n 2, 1) := by decide +kernel
theorem dX12_wins_9 : decode cX12_wins 9 = .ok (.iload_n 2, 1) := by decide +kernel
theorem dX12_wins_10 : decode cX12_wins 10 = .ok (.aload_n 0, 1) := by decide +kernel
theorem dX12_wins_11 : decode cX12_wins 11 = .ok (.getfield 13, 3) := by decide +kernel
theorem dX12_wins_14 : decode cX12_wins 14 = .ok (.iconst 1, 1) := by decide +kernel
theorem dX12_wins_15 : decode cX12_wins 15 = .ok (.iaload, 1) := by decide +kernel
theorem dX12_wins_16 : decode cX12_wins 16 = .ok (.if_icmp .ge 21, 3) := by decide +kernel
theorem dX12_wins_19 : decode cX12_wins 19 = .ok (.iload_n 1, 1) := by decide +kernel
theorem dX12_wins_20 : decode cX12_wins 20 = .ok (.aload_n 0, 1) := by decide +kernel
theorem dX12_wins_21 : decode cX12_wins 21 = .ok (.aload_n 0, 1) := by decide +kernel
theorem dX12_wins_22 : decode cX12_wins 22 = .ok (.iload_n 2, 1) := by decide +kernel
theorem dX12_wins_23 : decode cX12_wins 23 = .ok (.invokevirtual 450, 3) := by decide +kernel
theorem dX12_wins_26 : decode cX12_wins 26 = .ok (.invokevirtual 447, 3) := by decide +kernel
theorem dX12_wins_29 : decode cX12_wins 29 = .ok (.ixor, 1) := by decide +kernel
theorem dX12_wins_30 : decode cX12_wins 30 = .ok (.istore_n 1, 1) := by decide +kernel
theorem dX12_wins_31 : decode cX12_wins 31 = .ok (.iinc 2 1, 3) := by decide +kernel
theorem dX12_wins_34 : decode cX12_wins 34 = .ok (.goto (-25), 3) := by decide +kernel
theorem dX12_wins_37 : decode cX12_wins 37 = .ok (.iload_n 1, 1) := by decide +kernel
theorem dX12_wins_38 : decode cX12_wins 38 = .ok (.ifCond .ne 7, 3) := by decide +kernel
theorem dX12_wins_41 : decode cX12_wins 41 = .ok (.iconst 0, 1) := by decide +kernel
theorem dX12_wins_42 : decode cX12_wins 42 = .ok (.goto 4, 3) := by decide +kernel
theorem dX12_wins_45 : decode cX12_wins 45 = .ok (.iconst 1, 1) := by decide +kernel
theorem dX12_wins_46 : decode cX12_wins 46 = .ok (.ireturn, 1) := by decide +kernel
theorem dX12_goesGale_0 : decode cX12_goesGale 0 = .ok (.iload_n 1, 1) := by decide +kernel
theorem dX12_goesGale_1 : decode cX12_goesGale 1 = .ok (.ifCond .ne 53, 3) := by decide +kernel
theorem dX12_goesGale_4 : decode cX12_goesGale 4 = .ok (.iconst 0, 1) := by decide +kernel
theorem dX12_goesGale_5 : decode cX12_goesGale 5 = .ok (.istore 4, 2) := by decide +kernel
