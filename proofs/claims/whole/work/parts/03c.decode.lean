theorem dX11_refusedLooks_39 : decode cX11_refusedLooks 39 = .ok (.iconst 0, 1) := by decide +kernel
theorem dX11_refusedLooks_40 : decode cX11_refusedLooks 40 = .ok (.istore 4, 2) := by decide +kernel
theorem dX11_refusedLooks_42 : decode cX11_refusedLooks 42 = .ok (.iload 4, 2) := by decide +kernel
theorem dX11_refusedLooks_44 : decode cX11_refusedLooks 44 = .ok (.aload_n 3, 1) := by decide +kernel
theorem dX11_refusedLooks_45 : decode cX11_refusedLooks 45 = .ok (.getfield 232, 3) := by decide +kernel
theorem dX11_refusedLooks_48 : decode cX11_refusedLooks 48 = .ok (.if_icmp .ge 41, 3) := by decide +kernel
theorem dX11_refusedLooks_51 : decode cX11_refusedLooks 51 = .ok (.aload_n 3, 1) := by decide +kernel
theorem dX11_refusedLooks_52 : decode cX11_refusedLooks 52 = .ok (.getfield 233, 3) := by decide +kernel
theorem dX11_refusedLooks_55 : decode cX11_refusedLooks 55 = .ok (.iload 4, 2) := by decide +kernel
theorem dX11_refusedLooks_57 : decode cX11_refusedLooks 57 = .ok (.laload, 1) := by decide +kernel
theorem dX11_refusedLooks_58 : decode cX11_refusedLooks 58 = .ok (.lconst 0, 1) := by decide +kernel
theorem dX11_refusedLooks_59 : decode cX11_refusedLooks 59 = .ok (.lcmp, 1) := by decide +kernel
theorem dX11_refusedLooks_60 : decode cX11_refusedLooks 60 = .ok (.ifCond .lt 20, 3) := by decide +kernel
theorem dX11_refusedLooks_63 : decode cX11_refusedLooks 63 = .ok (.aload_n 3, 1) := by decide +kernel
theorem dX11_refusedLooks_64 : decode cX11_refusedLooks 64 = .ok (.getfield 233, 3) := by decide +kernel
theorem dX11_refusedLooks_67 : decode cX11_refusedLooks 67 = .ok (.iload 4, 2) := by decide +kernel
theorem dX11_refusedLooks_69 : decode cX11_refusedLooks 69 = .ok (.laload, 1) := by decide +kernel
theorem dX11_refusedLooks_70 : decode cX11_refusedLooks 70 = .ok (.ldc2_w 371, 3) := by decide +kernel
theorem dX11_refusedLooks_73 : decode cX11_refusedLooks 73 = .ok (.ldiv, 1) := by decide +kernel
theorem dX11_refusedLooks_74 : decode cX11_refusedLooks 74 = .ok (.invokestatic 170, 3) := by decide +kernel
theorem dX11_refusedLooks_77 : decode cX11_refusedLooks 77 = .ok (.ifCond .ne 6, 3) := by decide +kernel
theorem dX11_refusedLooks_80 : decode cX11_refusedLooks 80 = .ok (.bipush (-3), 2) := by decide +kernel
theorem dX11_refusedLooks_82 : decode cX11_refusedLooks 82 = .ok (.ireturn, 1) := by decide +kernel
theorem dX11_refusedLooks_83 : decode cX11_refusedLooks 83 = .ok (.iinc 4 1, 3) := by decide +kernel
theorem dX11_refusedLooks_86 : decode cX11_refusedLooks 86 = .ok (.goto (-44), 3) := by decide +kernel
theorem dX11_refusedLooks_89 : decode cX11_refusedLooks 89 = .ok (.iconst 0, 1) := by decide +kernel
theorem dX11_refusedLooks_90 : decode cX11_refusedLooks 90 = .ok (.ireturn, 1) := by decide +kernel
theorem dX11_moonsSeen_0 : decode cX11_moonsSeen 0 = .ok (.iconst 0, 1) := by decide +kernel
theorem dX11_moonsSeen_1 : decode cX11_moonsSeen 1 = .ok (.istore_n 2, 1) := by decide +kernel
theorem dX11_moonsSeen_2 : decode cX11_moonsSeen 2 = .ok (.iconst 0, 1) := by decide +kernel
theorem dX11_moonsSeen_3 : decode cX11_moonsSeen 3 = .ok (.istore_n 3, 1) := by decide +kernel
theorem dX11_moonsSeen_4 : decode cX11_moonsSeen 4 = .ok (.iload_n 3, 1) := by decide +kernel
theorem dX11_moonsSeen_5 : decode cX11_moonsSeen 5 = .ok (.bipush 10, 2) := by decide +kernel
theorem dX11_moonsSeen_7 : decode cX11_moonsSeen 7 = .ok (.if_icmp .ge 96, 3) := by decide +kernel
theorem dX11_moonsSeen_10 : decode cX11_moonsSeen 10 = .ok (.iconst 1, 1) := by decide +kernel
theorem dX11_moonsSeen_11 : decode cX11_moonsSeen 11 = .ok (.istore 4, 2) := by decide +kernel
theorem dX11_moonsSeen_13 : decode cX11_moonsSeen 13 = .ok (.iconst 0, 1) := by decide +kernel
theorem dX11_moonsSeen_14 : decode cX11_moonsSeen 14 = .ok (.istore 5, 2) := by decide +kernel
theorem dX11_moonsSeen_16 : decode cX11_moonsSeen 16 = .ok (.iload 5, 2) := by decide +kernel
theorem dX11_moonsSeen_18 : decode cX11_moonsSeen 18 = .ok (.aload_n 1, 1) := by decide +kernel
theorem dX11_moonsSeen_19 : decode cX11_moonsSeen 19 = .ok (.getfield 232, 3) := by decide +kernel
theorem dX11_moonsSeen_22 : decode cX11_moonsSeen 22 = .ok (.if_icmp .ge 64, 3) := by decide +kernel
theorem dX11_moonsSeen_25 : decode cX11_moonsSeen 25 = .ok (.iload 4, 2) := by decide +kernel
theorem dX11_moonsSeen_27 : decode cX11_moonsSeen 27 = .ok (.ifCond .eq 59, 3) := by decide +kernel
theorem dX11_moonsSeen_30 : decode cX11_moonsSeen 30 = .ok (.aload_n 1, 1) := by decide +kernel
theorem dX11_moonsSeen_31 : decode cX11_moonsSeen 31 = .ok (.getfield 233, 3) := by decide +kernel
theorem dX11_moonsSeen_34 : decode cX11_moonsSeen 34 = .ok (.iload 5, 2) := by decide +kernel
theorem dX11_moonsSeen_36 : decode cX11_moonsSeen 36 = .ok (.laload, 1) := by decide +kernel
theorem dX11_moonsSeen_37 : decode cX11_moonsSeen 37 = .ok (.l2i, 1) := by decide +kernel
theorem dX11_moonsSeen_38 : decode cX11_moonsSeen 38 = .ok (.istore 6, 2) := by decide +kernel
theorem dX11_moonsSeen_40 : decode cX11_moonsSeen 40 = .ok (.aload_n 0, 1) := by decide +kernel
theorem dX11_moonsSeen_41 : decode cX11_moonsSeen 41 = .ok (.getfield 36, 3) := by decide +kernel
theorem dX11_moonsSeen_44 : decode cX11_moonsSeen 44 = .ok (.aload_n 0, 1) := by decide +kernel
theorem dX11_moonsSeen_45 : decode cX11_moonsSeen 45 = .ok (.getfield 19, 3) := by decide +kernel
theorem dX11_moonsSeen_48 : decode cX11_moonsSeen 48 = .ok (.aload_n 0, 1) := by decide +kernel
theorem dX11_moonsSeen_49 : decode cX11_moonsSeen 49 = .ok (.getfield 26, 3) := by decide +kernel
theorem dX11_moonsSeen_52 : decode cX11_moonsSeen 52 = .ok (.getfield 312, 3) := by decide +kernel
theorem dX11_moonsSeen_55 : decode cX11_moonsSeen 55 = .ok (.iload 6, 2) := by decide +kernel
theorem dX11_moonsSeen_57 : decode cX11_moonsSeen 57 = .ok (.bipush 100, 2) := by decide +kernel
theorem dX11_moonsSeen_59 : decode cX11_moonsSeen 59 = .ok (.irem, 1) := by decide +kernel
theorem dX11_moonsSeen_60 : decode cX11_moonsSeen 60 = .ok (.iadd, 1) := by decide +kernel
theorem dX11_moonsSeen_61 : decode cX11_moonsSeen 61 = .ok (.iload_n 3, 1) := by decide +kernel
theorem dX11_moonsSeen_62 : decode cX11_moonsSeen 62 = .ok (.invokevirtual 166, 3) := by decide +kernel
theorem dX11_moonsSeen_65 : decode cX11_moonsSeen 65 = .ok (.iload 6, 2) := by decide +kernel
theorem dX11_moonsSeen_67 : decode cX11_moonsSeen 67 = .ok (.bipush 100, 2) := by decide +kernel
theorem dX11_moonsSeen_69 : decode cX11_moonsSeen 69 = .ok (.idiv, 1) := by decide +kernel
theorem dX11_moonsSeen_70 : decode cX11_moonsSeen 70 = .ok (.if_icmp .ne 7, 3) := by decide +kernel
theorem dX11_moonsSeen_73 : decode cX11_moonsSeen 73 = .ok (.iconst 1, 1) := by decide +kernel
theorem dX11_moonsSeen_74 : decode cX11_moonsSeen 74 = .ok (.goto 4, 3) := by decide +kernel
theorem dX11_moonsSeen_77 : decode cX11_moonsSeen 77 = .ok (.iconst 0, 1) := by decide +kernel
theorem dX11_moonsSeen_78 : decode cX11_moonsSeen 78 = .ok (.istore 4, 2) := by decide +kernel
theorem dX11_moonsSeen_80 : decode cX11_moonsSeen 80 = .ok (.iinc 5 1, 3) := by decide +kernel
theorem dX11_moonsSeen_83 : decode cX11_moonsSeen 83 = .ok (.goto (-67), 3) := by decide +kernel
theorem dX11_moonsSeen_86 : decode cX11_moonsSeen 86 = .ok (.iload 4, 2) := by decide +kernel
theorem dX11_moonsSeen_88 : decode cX11_moonsSeen 88 = .ok (.ifCond .eq 9, 3) := by decide +kernel
theorem dX11_moonsSeen_91 : decode cX11_moonsSeen 91 = .ok (.iload_n 2, 1) := by decide +kernel
theorem dX11_moonsSeen_92 : decode cX11_moonsSeen 92 = .ok (.iconst 1, 1) := by decide +kernel
theorem dX11_moonsSeen_93 : decode cX11_moonsSeen 93 = .ok (.iload_n 3, 1) := by decide +kernel
theorem dX11_moonsSeen_94 : decode cX11_moonsSeen 94 = .ok (.ishl, 1) := by decide +kernel
theorem dX11_moonsSeen_95 : decode cX11_moonsSeen 95 = .ok (.ior, 1) := by decide +kernel
theorem dX11_moonsSeen_96 : decode cX11_moonsSeen 96 = .ok (.istore_n 2, 1) := by decide +kernel
theorem dX11_moonsSeen_97 : decode cX11_moonsSeen 97 = .ok (.iinc 3 1, 3) := by decide +kernel
theorem dX11_moonsSeen_100 : decode cX11_moonsSeen 100 = .ok (.goto (-96), 3) := by decide +kernel
theorem dX11_moonsSeen_103 : decode cX11_moonsSeen 103 = .ok (.iload_n 2, 1) := by decide +kernel
theorem dX11_moonsSeen_104 : decode cX11_moonsSeen 104 = .ok (.ireturn, 1) := by decide +kernel
theorem dX11_doDeeds_0 : decode cX11_doDeeds 0 = .ok (.iconst 0, 1) := by decide +kernel
theorem dX11_doDeeds_1 : decode cX11_doDeeds 1 = .ok (.istore_n 3, 1) := by decide +kernel
theorem dX11_doDeeds_2 : decode cX11_doDeeds 2 = .ok (.iload_n 3, 1) := by decide +kernel
theorem dX11_doDeeds_3 : decode cX11_doDeeds 3 = .ok (.aload_n 1, 1) := by decide +kernel
theorem dX11_doDeeds_4 : decode cX11_doDeeds 4 = .ok (.getfield 232, 3) := by decide +kernel
theorem dX11_doDeeds_7 : decode cX11_doDeeds 7 = .ok (.if_icmp .ge 30, 3) := by decide +kernel
theorem dX11_doDeeds_10 : decode cX11_doDeeds 10 = .ok (.aload_n 0, 1) := by decide +kernel
theorem dX11_doDeeds_11 : decode cX11_doDeeds 11 = .ok (.getfield 36, 3) := by decide +kernel
theorem dX11_doDeeds_14 : decode cX11_doDeeds 14 = .ok (.aload_n 0, 1) := by decide +kernel
theorem dX11_doDeeds_15 : decode cX11_doDeeds 15 = .ok (.getfield 19, 3) := by decide +kernel
theorem dX11_doDeeds_18 : decode cX11_doDeeds 18 = .ok (.aload_n 2, 1) := by decide +kernel
theorem dX11_doDeeds_19 : decode cX11_doDeeds 19 = .ok (.aload_n 1, 1) := by decide +kernel
theorem dX11_doDeeds_20 : decode cX11_doDeeds 20 = .ok (.getfield 233, 3) := by decide +kernel
theorem dX11_doDeeds_23 : decode cX11_doDeeds 23 = .ok (.iload_n 3, 1) := by decide +kernel
theorem dX11_doDeeds_24 : decode cX11_doDeeds 24 = .ok (.laload, 1) := by decide +kernel
theorem dX11_doDeeds_25 : decode cX11_doDeeds 25 = .ok (.invokevirtual 237, 3) := by decide +kernel
theorem dX11_doDeeds_28 : decode cX11_doDeeds 28 = .ok (.ifCond .ne 9, 3) := by decide +kernel
theorem dX11_doDeeds_31 : decode cX11_doDeeds 31 = .ok (.iinc 3 1, 3) := by decide +kernel
theorem dX11_doDeeds_34 : decode cX11_doDeeds 34 = .ok (.goto (-32), 3) := by decide +kernel
theorem dX11_doDeeds_37 : decode cX11_doDeeds 37 = .ok (.iload_n 3, 1) := by decide +kernel
theorem dX11_doDeeds_38 : decode cX11_doDeeds 38 = .ok (.ireturn, 1) := by decide +kernel
theorem dX11_goOn_0 : decode cX11_goOn 0 = .ok (.aload_n 0, 1) := by decide +kernel
theorem dX11_goOn_1 : decode cX11_goOn 1 = .ok (.getfield 30, 3) := by decide +kernel
theorem dX11_goOn_4 : decode cX11_goOn 4 = .ok (.aload_n 0, 1) := by decide +kernel
theorem dX11_goOn_5 : decode cX11_goOn 5 = .ok (.getfield 26, 3) := by decide +kernel
theorem dX11_goOn_8 : decode cX11_goOn 8 = .ok (.invokevirtual 121, 3) := by decide +kernel
theorem dX11_goOn_11 : decode cX11_goOn 11 = .ok (.iconst 0, 1) := by decide +kernel
theorem dX11_goOn_12 : decode cX11_goOn 12 = .ok (.istore_n 2, 1) := by decide +kernel
theorem dX11_goOn_13 : decode cX11_goOn 13 = .ok (.iload_n 2, 1) := by decide +kernel
theorem dX11_goOn_14 : decode cX11_goOn 14 = .ok (.iload_n 1, 1) := by decide +kernel
theorem dX11_goOn_15 : decode cX11_goOn 15 = .ok (.if_icmp .ge 25, 3) := by decide +kernel
theorem dX11_goOn_18 : decode cX11_goOn 18 = .ok (.aload_n 0, 1) := by decide +kernel
theorem dX11_goOn_19 : decode cX11_goOn 19 = .ok (.getfield 36, 3) := by decide +kernel
theorem dX11_goOn_22 : decode cX11_goOn 22 = .ok (.aload_n 0, 1) := by decide +kernel
theorem dX11_goOn_23 : decode cX11_goOn 23 = .ok (.getfield 19, 3) := by decide +kernel
theorem dX11_goOn_26 : decode cX11_goOn 26 = .ok (.aload_n 0, 1) := by decide +kernel
theorem dX11_goOn_27 : decode cX11_goOn 27 = .ok (.getfield 30, 3) := by decide +kernel
theorem dX11_goOn_30 : decode cX11_goOn 30 = .ok (.invokevirtual 181, 3) := by decide +kernel
theorem dX11_goOn_33 : decode cX11_goOn 33 = .ok (.pop, 1) := by decide +kernel
theorem dX11_goOn_34 : decode cX11_goOn 34 = .ok (.iinc 2 1, 3) := by decide +kernel
theorem dX11_goOn_37 : decode cX11_goOn 37 = .ok (.goto (-24), 3) := by decide +kernel
theorem dX11_goOn_40 : decode cX11_goOn 40 = .ok (.return_, 1) := by decide +kernel
theorem dX11_setDeadlines_0 : decode cX11_setDeadlines 0 = .ok (.aload_n 0, 1) := by decide +kernel
theorem dX11_setDeadlines_1 : decode cX11_setDeadlines 1 = .ok (.getfield 72, 3) := by decide +kernel
theorem dX11_setDeadlines_4 : decode cX11_setDeadlines 4 = .ok (.getfield 373, 3) := by decide +kernel
theorem dX11_setDeadlines_7 : decode cX11_setDeadlines 7 = .ok (.bipush 60, 2) := by decide +kernel
theorem dX11_setDeadlines_9 : decode cX11_setDeadlines 9 = .ok (.invokestatic 376, 3) := by decide +kernel
theorem dX11_setDeadlines_12 : decode cX11_setDeadlines 12 = .ok (.aload_n 0, 1) := by decide +kernel
theorem dX11_setDeadlines_13 : decode cX11_setDeadlines 13 = .ok (.getfield 30, 3) := by decide +kernel
theorem dX11_setDeadlines_16 : decode cX11_setDeadlines 16 = .ok (.aload_n 0, 1) := by decide +kernel
theorem dX11_setDeadlines_17 : decode cX11_setDeadlines 17 = .ok (.getfield 26, 3) := by decide +kernel
theorem dX11_setDeadlines_20 : decode cX11_setDeadlines 20 = .ok (.invokevirtual 121, 3) := by decide +kernel
theorem dX11_setDeadlines_23 : decode cX11_setDeadlines 23 = .ok (.iconst 0, 1) := by decide +kernel
theorem dX11_setDeadlines_24 : decode cX11_setDeadlines 24 = .ok (.istore_n 1, 1) := by decide +kernel
theorem dX11_setDeadlines_25 : decode cX11_setDeadlines 25 = .ok (.iconst 1, 1) := by decide +kernel
theorem dX11_setDeadlines_26 : decode cX11_setDeadlines 26 = .ok (.istore_n 2, 1) := by decide +kernel
theorem dX11_setDeadlines_27 : decode cX11_setDeadlines 27 = .ok (.iload_n 2, 1) := by decide +kernel
theorem dX11_setDeadlines_28 : decode cX11_setDeadlines 28 = .ok (.bipush 60, 2) := by decide +kernel
theorem dX11_setDeadlines_30 : decode cX11_setDeadlines 30 = .ok (.if_icmp .gt 94, 3) := by decide +kernel
theorem dX11_setDeadlines_33 : decode cX11_setDeadlines 33 = .ok (.aload_n 0, 1) := by decide +kernel
theorem dX11_setDeadlines_34 : decode cX11_setDeadlines 34 = .ok (.getfield 19, 3) := by decide +kernel
theorem dX11_setDeadlines_37 : decode cX11_setDeadlines 37 = .ok (.getfield 151, 3) := by decide +kernel
theorem dX11_setDeadlines_40 : decode cX11_setDeadlines 40 = .ok (.ifCond .le 84, 3) := by decide +kernel
theorem dX11_setDeadlines_43 : decode cX11_setDeadlines 43 = .ok (.aload_n 0, 1) := by decide +kernel
theorem dX11_setDeadlines_44 : decode cX11_setDeadlines 44 = .ok (.getfield 36, 3) := by decide +kernel
theorem dX11_setDeadlines_47 : decode cX11_setDeadlines 47 = .ok (.aload_n 0, 1) := by decide +kernel
theorem dX11_setDeadlines_48 : decode cX11_setDeadlines 48 = .ok (.getfield 19, 3) := by decide +kernel
theorem dX11_setDeadlines_51 : decode cX11_setDeadlines 51 = .ok (.aload_n 0, 1) := by decide +kernel
theorem dX11_setDeadlines_52 : decode cX11_setDeadlines 52 = .ok (.getfield 30, 3) := by decide +kernel
theorem dX11_setDeadlines_55 : decode cX11_setDeadlines 55 = .ok (.invokevirtual 181, 3) := by decide +kernel
theorem dX11_setDeadlines_58 : decode cX11_setDeadlines 58 = .ok (.istore_n 3, 1) := by decide +kernel
theorem dX11_setDeadlines_59 : decode cX11_setDeadlines 59 = .ok (.iconst 0, 1) := by decide +kernel
theorem dX11_setDeadlines_60 : decode cX11_setDeadlines 60 = .ok (.istore 4, 2) := by decide +kernel
theorem dX11_setDeadlines_62 : decode cX11_setDeadlines 62 = .ok (.iload 4, 2) := by decide +kernel
theorem dX11_setDeadlines_64 : decode cX11_setDeadlines 64 = .ok (.aload_n 0, 1) := by decide +kernel
theorem dX11_setDeadlines_65 : decode cX11_setDeadlines 65 = .ok (.getfield 19, 3) := by decide +kernel
theorem dX11_setDeadlines_68 : decode cX11_setDeadlines 68 = .ok (.getfield 151, 3) := by decide +kernel
theorem dX11_setDeadlines_71 : decode cX11_setDeadlines 71 = .ok (.if_icmp .ge 43, 3) := by decide +kernel
theorem dX11_setDeadlines_74 : decode cX11_setDeadlines 74 = .ok (.iload_n 3, 1) := by decide +kernel
theorem dX11_setDeadlines_75 : decode cX11_setDeadlines 75 = .ok (.iload_n 1, 1) := by decide +kernel
theorem dX11_setDeadlines_76 : decode cX11_setDeadlines 76 = .ok (.iconst (-1), 1) := by decide +kernel
theorem dX11_setDeadlines_77 : decode cX11_setDeadlines 77 = .ok (.ixor, 1) := by decide +kernel
theorem dX11_setDeadlines_78 : decode cX11_setDeadlines 78 = .ok (.iand, 1) := by decide +kernel
theorem dX11_setDeadlines_79 : decode cX11_setDeadlines 79 = .ok (.aload_n 0, 1) := by decide +kernel
theorem dX11_setDeadlines_80 : decode cX11_setDeadlines 80 = .ok (.getfield 19, 3) := by decide +kernel
theorem dX11_setDeadlines_83 : decode cX11_setDeadlines 83 = .ok (.getfield 154, 3) := by decide +kernel
theorem dX11_setDeadlines_86 : decode cX11_setDeadlines 86 = .ok (.iload 4, 2) := by decide +kernel
theorem dX11_setDeadlines_88 : decode cX11_setDeadlines 88 = .ok (.iaload, 1) := by decide +kernel
theorem dX11_setDeadlines_89 : decode cX11_setDeadlines 89 = .ok (.ishr, 1) := by decide +kernel
theorem dX11_setDeadlines_90 : decode cX11_setDeadlines 90 = .ok (.iconst 1, 1) := by decide +kernel
theorem dX11_setDeadlines_91 : decode cX11_setDeadlines 91 = .ok (.iand, 1) := by decide +kernel
theorem dX11_setDeadlines_92 : decode cX11_setDeadlines 92 = .ok (.ifCond .eq 16, 3) := by decide +kernel
theorem dX11_setDeadlines_95 : decode cX11_setDeadlines 95 = .ok (.aload_n 0, 1) := by decide +kernel
theorem dX11_setDeadlines_96 : decode cX11_setDeadlines 96 = .ok (.getfield 72, 3) := by decide +kernel
theorem dX11_setDeadlines_99 : decode cX11_setDeadlines 99 = .ok (.getfield 373, 3) := by decide +kernel
theorem dX11_setDeadlines_102 : decode cX11_setDeadlines 102 = .ok (.iload 4, 2) := by decide +kernel
theorem dX11_setDeadlines_104 : decode cX11_setDeadlines 104 = .ok (.iload_n 2, 1) := by decide +kernel
theorem dX11_setDeadlines_105 : decode cX11_setDeadlines 105 = .ok (.iconst 1, 1) := by decide +kernel
theorem dX11_setDeadlines_106 : decode cX11_setDeadlines 106 = .ok (.isub, 1) := by decide +kernel
theorem dX11_setDeadlines_107 : decode cX11_setDeadlines 107 = .ok (.iastore, 1) := by decide +kernel
theorem dX11_setDeadlines_108 : decode cX11_setDeadlines 108 = .ok (.iinc 4 1, 3) := by decide +kernel
theorem dX11_setDeadlines_111 : decode cX11_setDeadlines 111 = .ok (.goto (-49), 3) := by decide +kernel
theorem dX11_setDeadlines_114 : decode cX11_setDeadlines 114 = .ok (.iload_n 1, 1) := by decide +kernel
theorem dX11_setDeadlines_115 : decode cX11_setDeadlines 115 = .ok (.iload_n 3, 1) := by decide +kernel
theorem dX11_setDeadlines_116 : decode cX11_setDeadlines 116 = .ok (.ior, 1) := by decide +kernel
theorem dX11_setDeadlines_117 : decode cX11_setDeadlines 117 = .ok (.istore_n 1, 1) := by decide +kernel
theorem dX11_setDeadlines_118 : decode cX11_setDeadlines 118 = .ok (.iinc 2 1, 3) := by decide +kernel
theorem dX11_setDeadlines_121 : decode cX11_setDeadlines 121 = .ok (.goto (-94), 3) := by decide +kernel
theorem dX11_setDeadlines_124 : decode cX11_setDeadlines 124 = .ok (.return_, 1) := by decide +kernel
theorem dX11_draw_0 : decode cX11_draw 0 = .ok (.aload_n 0, 1) := by decide +kernel
theorem dX11_draw_1 : decode cX11_draw 1 = .ok (.ldc_w 382, 3) := by decide +kernel
theorem dX11_draw_4 : decode cX11_draw 4 = .ok (.aload_n 0, 1) := by decide +kernel
theorem dX11_draw_5 : decode cX11_draw 5 = .ok (.getfield 247, 3) := by decide +kernel
theorem dX11_draw_8 : decode cX11_draw 8 = .ok (.imul, 1) := by decide +kernel
theorem dX11_draw_9 : decode cX11_draw 9 = .ok (.sipush 12345, 3) := by decide +kernel
theorem dX11_draw_12 : decode cX11_draw 12 = .ok (.iadd, 1) := by decide +kernel
theorem dX11_draw_13 : decode cX11_draw 13 = .ok (.putfield 247, 3) := by decide +kernel
theorem dX11_draw_16 : decode cX11_draw 16 = .ok (.iload_n 1, 1) := by decide +kernel
theorem dX11_draw_17 : decode cX11_draw 17 = .ok (.ifCond .le 15, 3) := by decide +kernel
theorem dX11_draw_20 : decode cX11_draw 20 = .ok (.aload_n 0, 1) := by decide +kernel
theorem dX11_draw_21 : decode cX11_draw 21 = .ok (.getfield 247, 3) := by decide +kernel
theorem dX11_draw_24 : decode cX11_draw 24 = .ok (.bipush 16, 2) := by decide +kernel
theorem dX11_draw_26 : decode cX11_draw 26 = .ok (.iushr, 1) := by decide +kernel
theorem dX11_draw_27 : decode cX11_draw 27 = .ok (.iload_n 1, 1) := by decide +kernel
theorem dX11_draw_28 : decode cX11_draw 28 = .ok (.irem, 1) := by decide +kernel
theorem dX11_draw_29 : decode cX11_draw 29 = .ok (.goto 4, 3) := by decide +kernel
theorem dX11_draw_32 : decode cX11_draw 32 = .ok (.iconst 0, 1) := by decide +kernel
theorem dX11_draw_33 : decode cX11_draw 33 = .ok (.ireturn, 1) := by decide +kernel
theorem dX11_drawDeed_0 : decode cX11_drawDeed 0 = .ok (.aload_n 0, 1) := by decide +kernel
theorem dX11_drawDeed_1 : decode cX11_drawDeed 1 = .ok (.bipush 6, 2) := by decide +kernel
theorem dX11_drawDeed_3 : decode cX11_drawDeed 3 = .ok (.invokevirtual 383, 3) := by decide +kernel
theorem dX11_drawDeed_6 : decode cX11_drawDeed 6 = .ok (.tableswitch 83 2 5 #[30, 40, 51, 73], 30) := by decide +kernel
theorem dX11_drawDeed_36 : decode cX11_drawDeed 36 = .ok (.bipush 100, 2) := by decide +kernel
theorem dX11_drawDeed_38 : decode cX11_drawDeed 38 = .ok (.aload_n 0, 1) := by decide +kernel
theorem dX11_drawDeed_39 : decode cX11_drawDeed 39 = .ok (.bipush 25, 2) := by decide +kernel
theorem dX11_drawDeed_41 : decode cX11_drawDeed 41 = .ok (.invokevirtual 383, 3) := by decide +kernel
theorem dX11_drawDeed_44 : decode cX11_drawDeed 44 = .ok (.iadd, 1) := by decide +kernel
theorem dX11_drawDeed_45 : decode cX11_drawDeed 45 = .ok (.ireturn, 1) := by decide +kernel
theorem dX11_drawDeed_46 : decode cX11_drawDeed 46 = .ok (.sipush 200, 3) := by decide +kernel
theorem dX11_drawDeed_49 : decode cX11_drawDeed 49 = .ok (.aload_n 0, 1) := by decide +kernel
theorem dX11_drawDeed_50 : decode cX11_drawDeed 50 = .ok (.bipush 25, 2) := by decide +kernel
theorem dX11_drawDeed_52 : decode cX11_drawDeed 52 = .ok (.invokevirtual 383, 3) := by decide +kernel
theorem dX11_drawDeed_55 : decode cX11_drawDeed 55 = .ok (.iadd, 1) := by decide +kernel
theorem dX11_drawDeed_56 : decode cX11_drawDeed 56 = .ok (.ireturn, 1) := by decide +kernel
theorem dX11_drawDeed_57 : decode cX11_drawDeed 57 = .ok (.aload_n 0, 1) := by decide +kernel
theorem dX11_drawDeed_58 : decode cX11_drawDeed 58 = .ok (.bipush 25, 2) := by decide +kernel
theorem dX11_drawDeed_60 : decode cX11_drawDeed 60 = .ok (.invokevirtual 383, 3) := by decide +kernel
theorem dX11_drawDeed_63 : decode cX11_drawDeed 63 = .ok (.istore_n 1, 1) := by decide +kernel
theorem dX11_drawDeed_64 : decode cX11_drawDeed 64 = .ok (.sipush 1000, 3) := by decide +kernel
theorem dX11_drawDeed_67 : decode cX11_drawDeed 67 = .ok (.bipush 10, 2) := by decide +kernel
theorem dX11_drawDeed_69 : decode cX11_drawDeed 69 = .ok (.iload_n 1, 1) := by decide +kernel
theorem dX11_drawDeed_70 : decode cX11_drawDeed 70 = .ok (.imul, 1) := by decide +kernel
theorem dX11_drawDeed_71 : decode cX11_drawDeed 71 = .ok (.iadd, 1) := by decide +kernel
theorem dX11_drawDeed_72 : decode cX11_drawDeed 72 = .ok (.aload_n 0, 1) := by decide +kernel
theorem dX11_drawDeed_73 : decode cX11_drawDeed 73 = .ok (.iconst 5, 1) := by decide +kernel
theorem dX11_drawDeed_74 : decode cX11_drawDeed 74 = .ok (.invokevirtual 383, 3) := by decide +kernel
theorem dX11_drawDeed_77 : decode cX11_drawDeed 77 = .ok (.iadd, 1) := by decide +kernel
theorem dX11_drawDeed_78 : decode cX11_drawDeed 78 = .ok (.ireturn, 1) := by decide +kernel
theorem dX11_drawDeed_79 : decode cX11_drawDeed 79 = .ok (.bipush 10, 2) := by decide +kernel
theorem dX11_drawDeed_81 : decode cX11_drawDeed 81 = .ok (.aload_n 0, 1) := by decide +kernel
theorem dX11_drawDeed_82 : decode cX11_drawDeed 82 = .ok (.bipush 10, 2) := by decide +kernel
theorem dX11_drawDeed_84 : decode cX11_drawDeed 84 = .ok (.invokevirtual 383, 3) := by decide +kernel
theorem dX11_drawDeed_87 : decode cX11_drawDeed 87 = .ok (.iadd, 1) := by decide +kernel
theorem dX11_drawDeed_88 : decode cX11_drawDeed 88 = .ok (.ireturn, 1) := by decide +kernel
theorem dX11_drawDeed_89 : decode cX11_drawDeed 89 = .ok (.iconst 0, 1) := by decide +kernel
theorem dX11_drawDeed_90 : decode cX11_drawDeed 90 = .ok (.ireturn, 1) := by decide +kernel
theorem dX11_rowWorths_0 : decode cX11_rowWorths 0 = .ok (.bipush 32, 2) := by decide +kernel
theorem dX11_rowWorths_2 : decode cX11_rowWorths 2 = .ok (.newarray .int, 2) := by decide +kernel
theorem dX11_rowWorths_4 : decode cX11_rowWorths 4 = .ok (.astore_n 0, 1) := by decide +kernel
theorem dX11_rowWorths_5 : decode cX11_rowWorths 5 = .ok (.iconst 1, 1) := by decide +kernel
theorem dX11_rowWorths_6 : decode cX11_rowWorths 6 = .ok (.istore_n 1, 1) := by decide +kernel
theorem dX11_rowWorths_7 : decode cX11_rowWorths 7 = .ok (.iload_n 1, 1) := by decide +kernel
theorem dX11_rowWorths_8 : decode cX11_rowWorths 8 = .ok (.bipush 32, 2) := by decide +kernel
theorem dX11_rowWorths_10 : decode cX11_rowWorths 10 = .ok (.if_icmp .ge 53, 3) := by decide +kernel
theorem dX11_rowWorths_13 : decode cX11_rowWorths 13 = .ok (.iconst 0, 1) := by decide +kernel
theorem dX11_rowWorths_14 : decode cX11_rowWorths 14 = .ok (.istore_n 2, 1) := by decide +kernel
theorem dX11_rowWorths_15 : decode cX11_rowWorths 15 = .ok (.iconst 0, 1) := by decide +kernel
theorem dX11_rowWorths_16 : decode cX11_rowWorths 16 = .ok (.istore_n 3, 1) := by decide +kernel
theorem dX11_rowWorths_17 : decode cX11_rowWorths 17 = .ok (.iload_n 3, 1) := by decide +kernel
theorem dX11_rowWorths_18 : decode cX11_rowWorths 18 = .ok (.iconst 5, 1) := by decide +kernel
theorem dX11_rowWorths_19 : decode cX11_rowWorths 19 = .ok (.if_icmp .ge 29, 3) := by decide +kernel
theorem dX11_rowWorths_22 : decode cX11_rowWorths 22 = .ok (.iload_n 1, 1) := by decide +kernel
theorem dX11_rowWorths_23 : decode cX11_rowWorths 23 = .ok (.iload_n 3, 1) := by decide +kernel
theorem dX11_rowWorths_24 : decode cX11_rowWorths 24 = .ok (.ishr, 1) := by decide +kernel
theorem dX11_rowWorths_25 : decode cX11_rowWorths 25 = .ok (.iconst 1, 1) := by decide +kernel
theorem dX11_rowWorths_26 : decode cX11_rowWorths 26 = .ok (.iand, 1) := by decide +kernel
theorem dX11_rowWorths_27 : decode cX11_rowWorths 27 = .ok (.ifCond .eq 15, 3) := by decide +kernel
theorem dX11_rowWorths_30 : decode cX11_rowWorths 30 = .ok (.iload_n 2, 1) := by decide +kernel
theorem dX11_rowWorths_31 : decode cX11_rowWorths 31 = .ok (.iconst 1, 1) := by decide +kernel
theorem dX11_rowWorths_32 : decode cX11_rowWorths 32 = .ok (.aload_n 0, 1) := by decide +kernel
theorem dX11_rowWorths_33 : decode cX11_rowWorths 33 = .ok (.iload_n 1, 1) := by decide +kernel
theorem dX11_rowWorths_34 : decode cX11_rowWorths 34 = .ok (.iload_n 3, 1) := by decide +kernel
theorem dX11_rowWorths_35 : decode cX11_rowWorths 35 = .ok (.invokestatic 327, 3) := by decide +kernel
theorem dX11_rowWorths_38 : decode cX11_rowWorths 38 = .ok (.iaload, 1) := by decide +kernel
theorem dX11_rowWorths_39 : decode cX11_rowWorths 39 = .ok (.ishl, 1) := by decide +kernel
theorem dX11_rowWorths_40 : decode cX11_rowWorths 40 = .ok (.ior, 1) := by decide +kernel
theorem dX11_rowWorths_41 : decode cX11_rowWorths 41 = .ok (.istore_n 2, 1) := by decide +kernel
theorem dX11_rowWorths_42 : decode cX11_rowWorths 42 = .ok (.iinc 3 1, 3) := by decide +kernel
theorem dX11_rowWorths_45 : decode cX11_rowWorths 45 = .ok (.goto (-28), 3) := by decide +kernel
theorem dX11_rowWorths_48 : decode cX11_rowWorths 48 = .ok (.aload_n 0, 1) := by decide +kernel
theorem dX11_rowWorths_49 : decode cX11_rowWorths 49 = .ok (.iload_n 1, 1) := by decide +kernel
theorem dX11_rowWorths_50 : decode cX11_rowWorths 50 = .ok (.iload_n 2, 1) := by decide +kernel
theorem dX11_rowWorths_51 : decode cX11_rowWorths 51 = .ok (.iconst (-1), 1) := by decide +kernel
theorem dX11_rowWorths_52 : decode cX11_rowWorths 52 = .ok (.ixor, 1) := by decide +kernel
theorem dX11_rowWorths_53 : decode cX11_rowWorths 53 = .ok (.invokestatic 259, 3) := by decide +kernel
theorem dX11_rowWorths_56 : decode cX11_rowWorths 56 = .ok (.iastore, 1) := by decide +kernel
theorem dX11_rowWorths_57 : decode cX11_rowWorths 57 = .ok (.iinc 1 1, 3) := by decide +kernel
theorem dX11_rowWorths_60 : decode cX11_rowWorths 60 = .ok (.goto (-53), 3) := by decide +kernel
theorem dX11_rowWorths_63 : decode cX11_rowWorths 63 = .ok (.aload_n 0, 1) := by decide +kernel
theorem dX11_rowWorths_64 : decode cX11_rowWorths 64 = .ok (.areturn, 1) := by decide +kernel
theorem dX11_afterPut_0 : decode cX11_afterPut 0 = .ok (.iload_n 0, 1) := by decide +kernel
theorem dX11_afterPut_1 : decode cX11_afterPut 1 = .ok (.iconst 1, 1) := by decide +kernel
theorem dX11_afterPut_2 : decode cX11_afterPut 2 = .ok (.iload_n 1, 1) := by decide +kernel
theorem dX11_afterPut_3 : decode cX11_afterPut 3 = .ok (.ishl, 1) := by decide +kernel
theorem dX11_afterPut_4 : decode cX11_afterPut 4 = .ok (.iconst 1, 1) := by decide +kernel
theorem dX11_afterPut_5 : decode cX11_afterPut 5 = .ok (.iload_n 1, 1) := by decide +kernel
theorem dX11_afterPut_6 : decode cX11_afterPut 6 = .ok (.iconst 1, 1) := by decide +kernel
theorem dX11_afterPut_7 : decode cX11_afterPut 7 = .ok (.iadd, 1) := by decide +kernel
theorem dX11_afterPut_8 : decode cX11_afterPut 8 = .ok (.ishl, 1) := by decide +kernel
theorem dX11_afterPut_9 : decode cX11_afterPut 9 = .ok (.ior, 1) := by decide +kernel
theorem dX11_afterPut_10 : decode cX11_afterPut 10 = .ok (.iconst 1, 1) := by decide +kernel
theorem dX11_afterPut_11 : decode cX11_afterPut 11 = .ok (.iload_n 1, 1) := by decide +kernel
theorem dX11_afterPut_12 : decode cX11_afterPut 12 = .ok (.ishl, 1) := by decide +kernel
theorem dX11_afterPut_13 : decode cX11_afterPut 13 = .ok (.iconst 1, 1) := by decide +kernel
theorem dX11_afterPut_14 : decode cX11_afterPut 14 = .ok (.ishr, 1) := by decide +kernel
theorem dX11_afterPut_15 : decode cX11_afterPut 15 = .ok (.ior, 1) := by decide +kernel
theorem dX11_afterPut_16 : decode cX11_afterPut 16 = .ok (.iconst (-1), 1) := by decide +kernel
theorem dX11_afterPut_17 : decode cX11_afterPut 17 = .ok (.ixor, 1) := by decide +kernel
theorem dX11_afterPut_18 : decode cX11_afterPut 18 = .ok (.iand, 1) := by decide +kernel
theorem dX11_afterPut_19 : decode cX11_afterPut 19 = .ok (.ireturn, 1) := by decide +kernel
theorem dX11_freeIn_0 : decode cX11_freeIn 0 = .ok (.iconst 1, 1) := by decide +kernel
theorem dX11_freeIn_1 : decode cX11_freeIn 1 = .ok (.aload_n 0, 1) := by decide +kernel
theorem dX11_freeIn_2 : decode cX11_freeIn 2 = .ok (.getfield 19, 3) := by decide +kernel
theorem dX11_freeIn_5 : decode cX11_freeIn 5 = .ok (.getfield 324, 3) := by decide +kernel
theorem dX11_freeIn_8 : decode cX11_freeIn 8 = .ok (.ishl, 1) := by decide +kernel
theorem dX11_freeIn_9 : decode cX11_freeIn 9 = .ok (.iconst 1, 1) := by decide +kernel
theorem dX11_freeIn_10 : decode cX11_freeIn 10 = .ok (.isub, 1) := by decide +kernel
theorem dX11_freeIn_11 : decode cX11_freeIn 11 = .ok (.istore_n 2, 1) := by decide +kernel
theorem dX11_freeIn_12 : decode cX11_freeIn 12 = .ok (.aload_n 0, 1) := by decide +kernel
theorem dX11_freeIn_13 : decode cX11_freeIn 13 = .ok (.getfield 26, 3) := by decide +kernel
theorem dX11_freeIn_16 : decode cX11_freeIn 16 = .ok (.invokevirtual 386, 3) := by decide +kernel
theorem dX11_freeIn_19 : decode cX11_freeIn 19 = .ok (.iload_n 1, 1) := by decide +kernel
theorem dX11_freeIn_20 : decode cX11_freeIn 20 = .ok (.aload_n 0, 1) := by decide +kernel
theorem dX11_freeIn_21 : decode cX11_freeIn 21 = .ok (.getfield 19, 3) := by decide +kernel
theorem dX11_freeIn_24 : decode cX11_freeIn 24 = .ok (.getfield 324, 3) := by decide +kernel
theorem dX11_freeIn_27 : decode cX11_freeIn 27 = .ok (.imul, 1) := by decide +kernel
theorem dX11_freeIn_28 : decode cX11_freeIn 28 = .ok (.ishr, 1) := by decide +kernel
theorem dX11_freeIn_29 : decode cX11_freeIn 29 = .ok (.iload_n 2, 1) := by decide +kernel
theorem dX11_freeIn_30 : decode cX11_freeIn 30 = .ok (.iand, 1) := by decide +kernel
theorem dX11_freeIn_31 : decode cX11_freeIn 31 = .ok (.istore_n 3, 1) := by decide +kernel
theorem dX11_freeIn_32 : decode cX11_freeIn 32 = .ok (.iload_n 2, 1) := by decide +kernel
theorem dX11_freeIn_33 : decode cX11_freeIn 33 = .ok (.iload_n 3, 1) := by decide +kernel
theorem dX11_freeIn_34 : decode cX11_freeIn 34 = .ok (.iload_n 3, 1) := by decide +kernel
theorem dX11_freeIn_35 : decode cX11_freeIn 35 = .ok (.iconst 1, 1) := by decide +kernel
theorem dX11_freeIn_36 : decode cX11_freeIn 36 = .ok (.ishl, 1) := by decide +kernel
theorem dX11_freeIn_37 : decode cX11_freeIn 37 = .ok (.ior, 1) := by decide +kernel
theorem dX11_freeIn_38 : decode cX11_freeIn 38 = .ok (.iload_n 3, 1) := by decide +kernel
theorem dX11_freeIn_39 : decode cX11_freeIn 39 = .ok (.iconst 1, 1) := by decide +kernel
theorem dX11_freeIn_40 : decode cX11_freeIn 40 = .ok (.ishr, 1) := by decide +kernel
theorem dX11_freeIn_41 : decode cX11_freeIn 41 = .ok (.ior, 1) := by decide +kernel
theorem dX11_freeIn_42 : decode cX11_freeIn 42 = .ok (.iconst (-1), 1) := by decide +kernel
theorem dX11_freeIn_43 : decode cX11_freeIn 43 = .ok (.ixor, 1) := by decide +kernel
theorem dX11_freeIn_44 : decode cX11_freeIn 44 = .ok (.iand, 1) := by decide +kernel
theorem dX11_freeIn_45 : decode cX11_freeIn 45 = .ok (.ireturn, 1) := by decide +kernel
theorem dX12_within_0 : decode cX12_within 0 = .ok (.lload_n 0, 1) := by decide +kernel
theorem dX12_within_1 : decode cX12_within 1 = .ok (.lload_n 2, 1) := by decide +kernel
theorem dX12_within_2 : decode cX12_within 2 = .ok (.lcmp, 1) := by decide +kernel
theorem dX12_within_3 : decode cX12_within 3 = .ok (.ifCond .lt 14, 3) := by decide +kernel
theorem dX12_within_6 : decode cX12_within 6 = .ok (.lload_n 0, 1) := by decide +kernel
theorem dX12_within_7 : decode cX12_within 7 = .ok (.lload 4, 2) := by decide +kernel
theorem dX12_within_9 : decode cX12_within 9 = .ok (.lcmp, 1) := by decide +kernel
theorem dX12_within_10 : decode cX12_within 10 = .ok (.ifCond .gt 7, 3) := by decide +kernel
theorem dX12_within_13 : decode cX12_within 13 = .ok (.iconst 1, 1) := by decide +kernel
theorem dX12_within_14 : decode cX12_within 14 = .ok (.goto 4, 3) := by decide +kernel
theorem dX12_within_17 : decode cX12_within 17 = .ok (.iconst 0, 1) := by decide +kernel
theorem dX12_within_18 : decode cX12_within 18 = .ok (.ireturn, 1) := by decide +kernel
theorem dX12_init_0 : decode cX12_init 0 = .ok (.aload_n 0, 1) := by decide +kernel
theorem dX12_init_1 : decode cX12_init 1 = .ok (.invokespecial 7, 3) := by decide +kernel
theorem dX12_init_4 : decode cX12_init 4 = .ok (.aload_n 0, 1) := by decide +kernel
theorem dX12_init_5 : decode cX12_init 5 = .ok (.sipush 4260, 3) := by decide +kernel
theorem dX12_init_8 : decode cX12_init 8 = .ok (.newarray .int, 2) := by decide +kernel
theorem dX12_init_10 : decode cX12_init 10 = .ok (.putfield 13, 3) := by decide +kernel
theorem dX12_init_13 : decode cX12_init 13 = .ok (.aload_n 0, 1) := by decide +kernel
theorem dX12_init_14 : decode cX12_init 14 = .ok (.iconst 2, 1) := by decide +kernel
theorem dX12_init_15 : decode cX12_init 15 = .ok (.newarray .boolean, 2) := by decide +kernel
theorem dX12_init_17 : decode cX12_init 17 = .ok (.putfield 17, 3) := by decide +kernel
theorem dX12_init_20 : decode cX12_init 20 = .ok (.aload_n 0, 1) := by decide +kernel
theorem dX12_init_21 : decode cX12_init 21 = .ok (.sipush 900, 3) := by decide +kernel
theorem dX12_init_24 : decode cX12_init 24 = .ok (.newarray .int, 2) := by decide +kernel
theorem dX12_init_26 : decode cX12_init 26 = .ok (.putfield 21, 3) := by decide +kernel
theorem dX12_init_29 : decode cX12_init 29 = .ok (.aload_n 0, 1) := by decide +kernel
theorem dX12_init_30 : decode cX12_init 30 = .ok (.sipush 1420, 3) := by decide +kernel
theorem dX12_init_33 : decode cX12_init 33 = .ok (.newarray .int, 2) := by decide +kernel
theorem dX12_init_35 : decode cX12_init 35 = .ok (.putfield 24, 3) := by decide +kernel
theorem dX12_init_38 : decode cX12_init 38 = .ok (.aload_n 0, 1) := by decide +kernel
theorem dX12_init_39 : decode cX12_init 39 = .ok (.iconst (-1), 1) := by decide +kernel
theorem dX12_init_40 : decode cX12_init 40 = .ok (.putfield 27, 3) := by decide +kernel
theorem dX12_init_43 : decode cX12_init 43 = .ok (.aload_n 0, 1) := by decide +kernel
theorem dX12_init_44 : decode cX12_init 44 = .ok (.sipush 900, 3) := by decide +kernel
theorem dX12_init_47 : decode cX12_init 47 = .ok (.newarray .int, 2) := by decide +kernel
theorem dX12_init_49 : decode cX12_init 49 = .ok (.putfield 30, 3) := by decide +kernel
theorem dX12_init_52 : decode cX12_init 52 = .ok (.aload_n 0, 1) := by decide +kernel
theorem dX12_init_53 : decode cX12_init 53 = .ok (.bipush 6, 2) := by decide +kernel
theorem dX12_init_55 : decode cX12_init 55 = .ok (.newarray .int, 2) := by decide +kernel
theorem dX12_init_57 : decode cX12_init 57 = .ok (.putfield 33, 3) := by decide +kernel
theorem dX12_init_60 : decode cX12_init 60 = .ok (.aload_n 0, 1) := by decide +kernel
theorem dX12_init_61 : decode cX12_init 61 = .ok (.bipush 25, 2) := by decide +kernel
theorem dX12_init_63 : decode cX12_init 63 = .ok (.newarray .int, 2) := by decide +kernel
theorem dX12_init_65 : decode cX12_init 65 = .ok (.putfield 36, 3) := by decide +kernel
theorem dX12_init_68 : decode cX12_init 68 = .ok (.aload_n 0, 1) := by decide +kernel
theorem dX12_init_69 : decode cX12_init 69 = .ok (.bipush 25, 2) := by decide +kernel
theorem dX12_init_71 : decode cX12_init 71 = .ok (.newarray .int, 2) := by decide +kernel
theorem dX12_init_73 : decode cX12_init 73 = .ok (.putfield 39, 3) := by decide +kernel
theorem dX12_init_76 : decode cX12_init 76 = .ok (.aload_n 0, 1) := by decide +kernel
theorem dX12_init_77 : decode cX12_init 77 = .ok (.bipush 41, 2) := by decide +kernel
theorem dX12_init_79 : decode cX12_init 79 = .ok (.newarray .int, 2) := by decide +kernel
theorem dX12_init_81 : decode cX12_init 81 = .ok (.putfield 42, 3) := by decide +kernel
theorem dX12_init_84 : decode cX12_init 84 = .ok (.aload_n 0, 1) := by decide +kernel
theorem dX12_init_85 : decode cX12_init 85 = .ok (.sipush 2601, 3) := by decide +kernel
theorem dX12_init_88 : decode cX12_init 88 = .ok (.newarray .int, 2) := by decide +kernel
theorem dX12_init_90 : decode cX12_init 90 = .ok (.putfield 45, 3) := by decide +kernel
theorem dX12_init_93 : decode cX12_init 93 = .ok (.aload_n 0, 1) := by decide +kernel
theorem dX12_init_94 : decode cX12_init 94 = .ok (.bipush 51, 2) := by decide +kernel
theorem dX12_init_96 : decode cX12_init 96 = .ok (.newarray .int, 2) := by decide +kernel
theorem dX12_init_98 : decode cX12_init 98 = .ok (.putfield 48, 3) := by decide +kernel
theorem dX12_init_101 : decode cX12_init 101 = .ok (.aload_n 0, 1) := by decide +kernel
theorem dX12_init_102 : decode cX12_init 102 = .ok (.bipush 51, 2) := by decide +kernel
theorem dX12_init_104 : decode cX12_init 104 = .ok (.newarray .int, 2) := by decide +kernel
theorem dX12_init_106 : decode cX12_init 106 = .ok (.putfield 51, 3) := by decide +kernel
theorem dX12_init_109 : decode cX12_init 109 = .ok (.aload_n 0, 1) := by decide +kernel
theorem dX12_init_110 : decode cX12_init 110 = .ok (.bipush 6, 2) := by decide +kernel
theorem dX12_init_112 : decode cX12_init 112 = .ok (.newarray .int, 2) := by decide +kernel
theorem dX12_init_114 : decode cX12_init 114 = .ok (.putfield 54, 3) := by decide +kernel
theorem dX12_init_117 : decode cX12_init 117 = .ok (.aload_n 0, 1) := by decide +kernel
theorem dX12_init_118 : decode cX12_init 118 = .ok (.bipush 6, 2) := by decide +kernel
theorem dX12_init_120 : decode cX12_init 120 = .ok (.newarray .int, 2) := by decide +kernel
theorem dX12_init_122 : decode cX12_init 122 = .ok (.putfield 57, 3) := by decide +kernel
theorem dX12_init_125 : decode cX12_init 125 = .ok (.aload_n 0, 1) := by decide +kernel
theorem dX12_init_126 : decode cX12_init 126 = .ok (.bipush 11, 2) := by decide +kernel
theorem dX12_init_128 : decode cX12_init 128 = .ok (.newarray .int, 2) := by decide +kernel
theorem dX12_init_130 : decode cX12_init 130 = .ok (.putfield 60, 3) := by decide +kernel
theorem dX12_init_133 : decode cX12_init 133 = .ok (.aload_n 0, 1) := by decide +kernel
theorem dX12_init_134 : decode cX12_init 134 = .ok (.sipush 225, 3) := by decide +kernel
theorem dX12_init_137 : decode cX12_init 137 = .ok (.newarray .int, 2) := by decide +kernel
theorem dX12_init_139 : decode cX12_init 139 = .ok (.putfield 63, 3) := by decide +kernel
theorem dX12_init_142 : decode cX12_init 142 = .ok (.aload_n 0, 1) := by decide +kernel
theorem dX12_init_143 : decode cX12_init 143 = .ok (.bipush 6, 2) := by decide +kernel
theorem dX12_init_145 : decode cX12_init 145 = .ok (.newarray .long, 2) := by decide +kernel
theorem dX12_init_147 : decode cX12_init 147 = .ok (.putfield 66, 3) := by decide +kernel
theorem dX12_init_150 : decode cX12_init 150 = .ok (.aload_n 0, 1) := by decide +kernel
theorem dX12_init_151 : decode cX12_init 151 = .ok (.iconst 4, 1) := by decide +kernel
theorem dX12_init_152 : decode cX12_init 152 = .ok (.newarray .int, 2) := by decide +kernel
theorem dX12_init_154 : decode cX12_init 154 = .ok (.dup, 1) := by decide +kernel
theorem dX12_init_155 : decode cX12_init 155 = .ok (.iconst 0, 1) := by decide +kernel
theorem dX12_init_156 : decode cX12_init 156 = .ok (.iconst (-1), 1) := by decide +kernel
theorem dX12_init_157 : decode cX12_init 157 = .ok (.iastore, 1) := by decide +kernel
theorem dX12_init_158 : decode cX12_init 158 = .ok (.dup, 1) := by decide +kernel
theorem dX12_init_159 : decode cX12_init 159 = .ok (.iconst 1, 1) := by decide +kernel
theorem dX12_init_160 : decode cX12_init 160 = .ok (.iconst (-1), 1) := by decide +kernel
theorem dX12_init_161 : decode cX12_init 161 = .ok (.iastore, 1) := by decide +kernel
theorem dX12_init_162 : decode cX12_init 162 = .ok (.dup, 1) := by decide +kernel
theorem dX12_init_163 : decode cX12_init 163 = .ok (.iconst 2, 1) := by decide +kernel
theorem dX12_init_164 : decode cX12_init 164 = .ok (.iconst (-1), 1) := by decide +kernel
theorem dX12_init_165 : decode cX12_init 165 = .ok (.iastore, 1) := by decide +kernel
theorem dX12_init_166 : decode cX12_init 166 = .ok (.dup, 1) := by decide +kernel
theorem dX12_init_167 : decode cX12_init 167 = .ok (.iconst 3, 1) := by decide +kernel
theorem dX12_init_168 : decode cX12_init 168 = .ok (.iconst (-1), 1) := by decide +kernel
theorem dX12_init_169 : decode cX12_init 169 = .ok (.iastore, 1) := by decide +kernel
theorem dX12_init_170 : decode cX12_init 170 = .ok (.putfield 70, 3) := by decide +kernel
theorem dX12_init_173 : decode cX12_init 173 = .ok (.aload_n 0, 1) := by decide +kernel
theorem dX12_init_174 : decode cX12_init 174 = .ok (.iconst 4, 1) := by decide +kernel
theorem dX12_init_175 : decode cX12_init 175 = .ok (.newarray .int, 2) := by decide +kernel
theorem dX12_init_177 : decode cX12_init 177 = .ok (.putfield 73, 3) := by decide +kernel
theorem dX12_init_180 : decode cX12_init 180 = .ok (.aload_n 0, 1) := by decide +kernel
theorem dX12_init_181 : decode cX12_init 181 = .ok (.sipush 160, 3) := by decide +kernel
theorem dX12_init_184 : decode cX12_init 184 = .ok (.newarray .long, 2) := by decide +kernel
theorem dX12_init_186 : decode cX12_init 186 = .ok (.putfield 76, 3) := by decide +kernel
theorem dX12_init_189 : decode cX12_init 189 = .ok (.aload_n 0, 1) := by decide +kernel
theorem dX12_init_190 : decode cX12_init 190 = .ok (.getfield 13, 3) := by decide +kernel
theorem dX12_init_193 : decode cX12_init 193 = .ok (.invokestatic 79, 3) := by decide +kernel
theorem dX12_init_196 : decode cX12_init 196 = .ok (.return_, 1) := by decide +kernel
theorem dX12_plain_0 : decode cX12_plain 0 = .ok (.iconst 0, 1) := by decide +kernel
theorem dX12_plain_1 : decode cX12_plain 1 = .ok (.istore_n 1, 1) := by decide +kernel
theorem dX12_plain_2 : decode cX12_plain 2 = .ok (.iload_n 1, 1) := by decide +kernel
theorem dX12_plain_3 : decode cX12_plain 3 = .ok (.sipush 1420, 3) := by decide +kernel
theorem dX12_plain_6 : decode cX12_plain 6 = .ok (.if_icmp .ge 13, 3) := by decide +kernel
theorem dX12_plain_9 : decode cX12_plain 9 = .ok (.aload_n 0, 1) := by decide +kernel
theorem dX12_plain_10 : decode cX12_plain 10 = .ok (.iload_n 1, 1) := by decide +kernel
theorem dX12_plain_11 : decode cX12_plain 11 = .ok (.iconst 0, 1) := by decide +kernel
theorem dX12_plain_12 : decode cX12_plain 12 = .ok (.iastore, 1) := by decide +kernel
theorem dX12_plain_13 : decode cX12_plain 13 = .ok (.iinc 1 1, 3) := by decide +kernel
theorem dX12_plain_16 : decode cX12_plain 16 = .ok (.goto (-14), 3) := by decide +kernel
theorem dX12_plain_19 : decode cX12_plain 19 = .ok (.aload_n 0, 1) := by decide +kernel
theorem dX12_plain_20 : decode cX12_plain 20 = .ok (.iconst 1, 1) := by decide +kernel
theorem dX12_plain_21 : decode cX12_plain 21 = .ok (.iconst 1, 1) := by decide +kernel
theorem dX12_plain_22 : decode cX12_plain 22 = .ok (.iastore, 1) := by decide +kernel
theorem dX12_plain_23 : decode cX12_plain 23 = .ok (.aload_n 0, 1) := by decide +kernel
theorem dX12_plain_24 : decode cX12_plain 24 = .ok (.iconst 2, 1) := by decide +kernel
theorem dX12_plain_25 : decode cX12_plain 25 = .ok (.iconst 1, 1) := by decide +kernel
theorem dX12_plain_26 : decode cX12_plain 26 = .ok (.iastore, 1) := by decide +kernel
theorem dX12_plain_27 : decode cX12_plain 27 = .ok (.return_, 1) := by decide +kernel
theorem dX12_feed_0 : decode cX12_feed 0 = .ok (.aload_n 0, 1) := by decide +kernel
theorem dX12_feed_1 : decode cX12_feed 1 = .ok (.iconst 0, 1) := by decide +kernel
theorem dX12_feed_2 : decode cX12_feed 2 = .ok (.putfield 1, 3) := by decide +kernel
theorem dX12_feed_5 : decode cX12_feed 5 = .ok (.aload_n 0, 1) := by decide +kernel
theorem dX12_feed_6 : decode cX12_feed 6 = .ok (.getfield 83, 3) := by decide +kernel
theorem dX12_feed_9 : decode cX12_feed 9 = .ok (.bipush 20, 2) := by decide +kernel
theorem dX12_feed_11 : decode cX12_feed 11 = .ok (.iadd, 1) := by decide +kernel
theorem dX12_feed_12 : decode cX12_feed 12 = .ok (.sipush 900, 3) := by decide +kernel
theorem dX12_feed_15 : decode cX12_feed 15 = .ok (.if_icmp .le 6, 3) := by decide +kernel
theorem dX12_feed_18 : decode cX12_feed 18 = .ok (.bipush (-5), 2) := by decide +kernel
theorem dX12_feed_20 : decode cX12_feed 20 = .ok (.ireturn, 1) := by decide +kernel
theorem dX12_feed_21 : decode cX12_feed 21 = .ok (.iconst 0, 1) := by decide +kernel
theorem dX12_feed_22 : decode cX12_feed 22 = .ok (.istore 6, 2) := by decide +kernel
theorem dX12_feed_24 : decode cX12_feed 24 = .ok (.iload 6, 2) := by decide +kernel
theorem dX12_feed_26 : decode cX12_feed 26 = .ok (.bipush 20, 2) := by decide +kernel
theorem dX12_feed_28 : decode cX12_feed 28 = .ok (.if_icmp .ge 93, 3) := by decide +kernel
theorem dX12_feed_31 : decode cX12_feed 31 = .ok (.iload 6, 2) := by decide +kernel
theorem dX12_feed_33 : decode cX12_feed 33 = .ok (.iconst 4, 1) := by decide +kernel
theorem dX12_feed_34 : decode cX12_feed 34 = .ok (.if_icmp .ge 7, 3) := by decide +kernel
theorem dX12_feed_37 : decode cX12_feed 37 = .ok (.iload_n 1, 1) := by decide +kernel
theorem dX12_feed_38 : decode cX12_feed 38 = .ok (.goto 39, 3) := by decide +kernel
theorem dX12_feed_41 : decode cX12_feed 41 = .ok (.iload 6, 2) := by decide +kernel
theorem dX12_feed_43 : decode cX12_feed 43 = .ok (.bipush 8, 2) := by decide +kernel
theorem dX12_feed_45 : decode cX12_feed 45 = .ok (.if_icmp .ge 7, 3) := by decide +kernel
theorem dX12_feed_48 : decode cX12_feed 48 = .ok (.iload_n 2, 1) := by decide +kernel
theorem dX12_feed_49 : decode cX12_feed 49 = .ok (.goto 28, 3) := by decide +kernel
theorem dX12_feed_52 : decode cX12_feed 52 = .ok (.iload 6, 2) := by decide +kernel
theorem dX12_feed_54 : decode cX12_feed 54 = .ok (.bipush 12, 2) := by decide +kernel
theorem dX12_feed_56 : decode cX12_feed 56 = .ok (.if_icmp .ge 7, 3) := by decide +kernel
theorem dX12_feed_59 : decode cX12_feed 59 = .ok (.iload_n 3, 1) := by decide +kernel
theorem dX12_feed_60 : decode cX12_feed 60 = .ok (.goto 17, 3) := by decide +kernel
theorem dX12_feed_63 : decode cX12_feed 63 = .ok (.iload 6, 2) := by decide +kernel
theorem dX12_feed_65 : decode cX12_feed 65 = .ok (.bipush 16, 2) := by decide +kernel
theorem dX12_feed_67 : decode cX12_feed 67 = .ok (.if_icmp .ge 8, 3) := by decide +kernel
theorem dX12_feed_70 : decode cX12_feed 70 = .ok (.iload 4, 2) := by decide +kernel
theorem dX12_feed_72 : decode cX12_feed 72 = .ok (.goto 5, 3) := by decide +kernel
theorem dX12_feed_75 : decode cX12_feed 75 = .ok (.iload 5, 2) := by decide +kernel
theorem dX12_feed_77 : decode cX12_feed 77 = .ok (.istore 7, 2) := by decide +kernel
theorem dX12_feed_79 : decode cX12_feed 79 = .ok (.aload_n 0, 1) := by decide +kernel
theorem dX12_feed_80 : decode cX12_feed 80 = .ok (.getfield 21, 3) := by decide +kernel
theorem dX12_feed_83 : decode cX12_feed 83 = .ok (.aload_n 0, 1) := by decide +kernel
theorem dX12_feed_84 : decode cX12_feed 84 = .ok (.getfield 83, 3) := by decide +kernel
theorem dX12_feed_87 : decode cX12_feed 87 = .ok (.iload 7, 2) := by decide +kernel
theorem dX12_feed_89 : decode cX12_feed 89 = .ok (.bipush 24, 2) := by decide +kernel
theorem dX12_feed_91 : decode cX12_feed 91 = .ok (.bipush 8, 2) := by decide +kernel
theorem dX12_feed_93 : decode cX12_feed 93 = .ok (.iload 6, 2) := by decide +kernel
theorem dX12_feed_95 : decode cX12_feed 95 = .ok (.iconst 4, 1) := by decide +kernel
theorem dX12_feed_96 : decode cX12_feed 96 = .ok (.irem, 1) := by decide +kernel
theorem dX12_feed_97 : decode cX12_feed 97 = .ok (.imul, 1) := by decide +kernel
theorem dX12_feed_98 : decode cX12_feed 98 = .ok (.isub, 1) := by decide +kernel
theorem dX12_feed_99 : decode cX12_feed 99 = .ok (.ishr, 1) := by decide +kernel
theorem dX12_feed_100 : decode cX12_feed 100 = .ok (.sipush 255, 3) := by decide +kernel
theorem dX12_feed_103 : decode cX12_feed 103 = .ok (.iand, 1) := by decide +kernel
theorem dX12_feed_104 : decode cX12_feed 104 = .ok (.iastore, 1) := by decide +kernel
theorem dX12_feed_105 : decode cX12_feed 105 = .ok (.aload_n 0, 1) := by decide +kernel
theorem dX12_feed_106 : decode cX12_feed 106 = .ok (.dup, 1) := by decide +kernel
theorem dX12_feed_107 : decode cX12_feed 107 = .ok (.getfield 83, 3) := by decide +kernel
theorem dX12_feed_110 : decode cX12_feed 110 = .ok (.iconst 1, 1) := by decide +kernel
theorem dX12_feed_111 : decode cX12_feed 111 = .ok (.iadd, 1) := by decide +kernel
theorem dX12_feed_112 : decode cX12_feed 112 = .ok (.putfield 83, 3) := by decide +kernel
theorem dX12_feed_115 : decode cX12_feed 115 = .ok (.iinc 6 1, 3) := by decide +kernel
theorem dX12_feed_118 : decode cX12_feed 118 = .ok (.goto (-94), 3) := by decide +kernel
theorem dX12_feed_121 : decode cX12_feed 121 = .ok (.aload_n 0, 1) := by decide +kernel
theorem dX12_feed_122 : decode cX12_feed 122 = .ok (.getfield 83, 3) := by decide +kernel
theorem dX12_feed_125 : decode cX12_feed 125 = .ok (.ireturn, 1) := by decide +kernel
theorem dX12_see_0 : decode cX12_see 0 = .ok (.iload_n 1, 1) := by decide +kernel
theorem dX12_see_1 : decode cX12_see 1 = .ok (.aload_n 0, 1) := by decide +kernel
theorem dX12_see_2 : decode cX12_see 2 = .ok (.getfield 86, 3) := by decide +kernel
theorem dX12_see_5 : decode cX12_see 5 = .ok (.if_icmp .ge 12, 3) := by decide +kernel
theorem dX12_see_8 : decode cX12_see 8 = .ok (.aload_n 0, 1) := by decide +kernel
theorem dX12_see_9 : decode cX12_see 9 = .ok (.getfield 21, 3) := by decide +kernel
theorem dX12_see_12 : decode cX12_see 12 = .ok (.iload_n 1, 1) := by decide +kernel
theorem dX12_see_13 : decode cX12_see 13 = .ok (.iaload, 1) := by decide +kernel
theorem dX12_see_14 : decode cX12_see 14 = .ok (.goto 4, 3) := by decide +kernel
theorem dX12_see_17 : decode cX12_see 17 = .ok (.iconst (-1), 1) := by decide +kernel
theorem dX12_see_18 : decode cX12_see 18 = .ok (.ireturn, 1) := by decide +kernel
theorem dX12_isSmall_0 : decode cX12_isSmall 0 = .ok (.iload_n 0, 1) := by decide +kernel
theorem dX12_isSmall_1 : decode cX12_isSmall 1 = .ok (.bipush 97, 2) := by decide +kernel
theorem dX12_isSmall_3 : decode cX12_isSmall 3 = .ok (.if_icmp .lt 13, 3) := by decide +kernel
theorem dX12_isSmall_6 : decode cX12_isSmall 6 = .ok (.iload_n 0, 1) := by decide +kernel
theorem dX12_isSmall_7 : decode cX12_isSmall 7 = .ok (.bipush 122, 2) := by decide +kernel
theorem dX12_isSmall_9 : decode cX12_isSmall 9 = .ok (.if_icmp .gt 7, 3) := by decide +kernel
theorem dX12_isSmall_12 : decode cX12_isSmall 12 = .ok (.iconst 1, 1) := by decide +kernel
theorem dX12_isSmall_13 : decode cX12_isSmall 13 = .ok (.goto 4, 3) := by decide +kernel
theorem dX12_isSmall_16 : decode cX12_isSmall 16 = .ok (.iconst 0, 1) := by decide +kernel
theorem dX12_isSmall_17 : decode cX12_isSmall 17 = .ok (.ireturn, 1) := by decide +kernel
theorem dX12_isDigit_0 : decode cX12_isDigit 0 = .ok (.iload_n 0, 1) := by decide +kernel
theorem dX12_isDigit_1 : decode cX12_isDigit 1 = .ok (.bipush 48, 2) := by decide +kernel
theorem dX12_isDigit_3 : decode cX12_isDigit 3 = .ok (.if_icmp .lt 13, 3) := by decide +kernel
theorem dX12_isDigit_6 : decode cX12_isDigit 6 = .ok (.iload_n 0, 1) := by decide +kernel
theorem dX12_isDigit_7 : decode cX12_isDigit 7 = .ok (.bipush 57, 2) := by decide +kernel
theorem dX12_isDigit_9 : decode cX12_isDigit 9 = .ok (.if_icmp .gt 7, 3) := by decide +kernel
theorem dX12_isDigit_12 : decode cX12_isDigit 12 = .ok (.iconst 1, 1) := by decide +kernel
theorem dX12_isDigit_13 : decode cX12_isDigit 13 = .ok (.goto 4, 3) := by decide +kernel
theorem dX12_isDigit_16 : decode cX12_isDigit 16 = .ok (.iconst 0, 1) := by decide +kernel
theorem dX12_isDigit_17 : decode cX12_isDigit 17 = .ok (.ireturn, 1) := by decide +kernel
theorem dX12_keyAt_0 : decode cX12_keyAt 0 = .ok (.iconst 0, 1) := by decide +kernel
theorem dX12_keyAt_1 : decode cX12_keyAt 1 = .ok (.istore_n 1, 1) := by decide +kernel
theorem dX12_keyAt_2 : decode cX12_keyAt 2 = .ok (.iconst 1, 1) := by decide +kernel
theorem dX12_keyAt_3 : decode cX12_keyAt 3 = .ok (.istore_n 2, 1) := by decide +kernel
theorem dX12_keyAt_4 : decode cX12_keyAt 4 = .ok (.iload_n 2, 1) := by decide +kernel
theorem dX12_keyAt_5 : decode cX12_keyAt 5 = .ok (.ldc 89, 2) := by decide +kernel
theorem dX12_keyAt_7 : decode cX12_keyAt 7 = .ok (.invokevirtual 91, 3) := by decide +kernel
theorem dX12_keyAt_10 : decode cX12_keyAt 10 = .ok (.if_icmp .ge 113, 3) := by decide +kernel
theorem dX12_keyAt_13 : decode cX12_keyAt 13 = .ok (.iconst 0, 1) := by decide +kernel
theorem dX12_keyAt_14 : decode cX12_keyAt 14 = .ok (.istore_n 3, 1) := by decide +kernel
theorem dX12_keyAt_15 : decode cX12_keyAt 15 = .ok (.ldc 89, 2) := by decide +kernel
theorem dX12_keyAt_17 : decode cX12_keyAt 17 = .ok (.iload_n 2, 1) := by decide +kernel
theorem dX12_keyAt_18 : decode cX12_keyAt 18 = .ok (.iload_n 3, 1) := by decide +kernel
theorem dX12_keyAt_19 : decode cX12_keyAt 19 = .ok (.iadd, 1) := by decide +kernel
theorem dX12_keyAt_20 : decode cX12_keyAt 20 = .ok (.invokevirtual 97, 3) := by decide +kernel
theorem dX12_keyAt_23 : decode cX12_keyAt 23 = .ok (.bipush 32, 2) := by decide +kernel
theorem dX12_keyAt_25 : decode cX12_keyAt 25 = .ok (.if_icmp .eq 44, 3) := by decide +kernel
theorem dX12_keyAt_28 : decode cX12_keyAt 28 = .ok (.aload_n 0, 1) := by decide +kernel
theorem dX12_keyAt_29 : decode cX12_keyAt 29 = .ok (.getfield 101, 3) := by decide +kernel
theorem dX12_keyAt_32 : decode cX12_keyAt 32 = .ok (.iload_n 3, 1) := by decide +kernel
theorem dX12_keyAt_33 : decode cX12_keyAt 33 = .ok (.iadd, 1) := by decide +kernel
theorem dX12_keyAt_34 : decode cX12_keyAt 34 = .ok (.aload_n 0, 1) := by decide +kernel
theorem dX12_keyAt_35 : decode cX12_keyAt 35 = .ok (.getfield 104, 3) := by decide +kernel
theorem dX12_keyAt_38 : decode cX12_keyAt 38 = .ok (.if_icmp .ge 31, 3) := by decide +kernel
theorem dX12_keyAt_41 : decode cX12_keyAt 41 = .ok (.aload_n 0, 1) := by decide +kernel
theorem dX12_keyAt_42 : decode cX12_keyAt 42 = .ok (.getfield 21, 3) := by decide +kernel
theorem dX12_keyAt_45 : decode cX12_keyAt 45 = .ok (.aload_n 0, 1) := by decide +kernel
theorem dX12_keyAt_46 : decode cX12_keyAt 46 = .ok (.getfield 101, 3) := by decide +kernel
theorem dX12_keyAt_49 : decode cX12_keyAt 49 = .ok (.iload_n 3, 1) := by decide +kernel
theorem dX12_keyAt_50 : decode cX12_keyAt 50 = .ok (.iadd, 1) := by decide +kernel
theorem dX12_keyAt_51 : decode cX12_keyAt 51 = .ok (.iaload, 1) := by decide +kernel
theorem dX12_keyAt_52 : decode cX12_keyAt 52 = .ok (.ldc 89, 2) := by decide +kernel
theorem dX12_keyAt_54 : decode cX12_keyAt 54 = .ok (.iload_n 2, 1) := by decide +kernel
theorem dX12_keyAt_55 : decode cX12_keyAt 55 = .ok (.iload_n 3, 1) := by decide +kernel
theorem dX12_keyAt_56 : decode cX12_keyAt 56 = .ok (.iadd, 1) := by decide +kernel
theorem dX12_keyAt_57 : decode cX12_keyAt 57 = .ok (.invokevirtual 97, 3) := by decide +kernel
theorem dX12_keyAt_60 : decode cX12_keyAt 60 = .ok (.if_icmp .ne 9, 3) := by decide +kernel
theorem dX12_keyAt_63 : decode cX12_keyAt 63 = .ok (.iinc 3 1, 3) := by decide +kernel
theorem dX12_keyAt_66 : decode cX12_keyAt 66 = .ok (.goto (-51), 3) := by decide +kernel
theorem dX12_keyAt_69 : decode cX12_keyAt 69 = .ok (.ldc 89, 2) := by decide +kernel
theorem dX12_keyAt_71 : decode cX12_keyAt 71 = .ok (.iload_n 2, 1) := by decide +kernel
theorem dX12_keyAt_72 : decode cX12_keyAt 72 = .ok (.iload_n 3, 1) := by decide +kernel
theorem dX12_keyAt_73 : decode cX12_keyAt 73 = .ok (.iadd, 1) := by decide +kernel
theorem dX12_keyAt_74 : decode cX12_keyAt 74 = .ok (.invokevirtual 97, 3) := by decide +kernel
theorem dX12_keyAt_77 : decode cX12_keyAt 77 = .ok (.bipush 32, 2) := by decide +kernel
theorem dX12_keyAt_79 : decode cX12_keyAt 79 = .ok (.if_icmp .ne 18, 3) := by decide +kernel
theorem dX12_keyAt_82 : decode cX12_keyAt 82 = .ok (.aload_n 0, 1) := by decide +kernel
theorem dX12_keyAt_83 : decode cX12_keyAt 83 = .ok (.getfield 101, 3) := by decide +kernel
theorem dX12_keyAt_86 : decode cX12_keyAt 86 = .ok (.iload_n 3, 1) := by decide +kernel
theorem dX12_keyAt_87 : decode cX12_keyAt 87 = .ok (.iadd, 1) := by decide +kernel
theorem dX12_keyAt_88 : decode cX12_keyAt 88 = .ok (.aload_n 0, 1) := by decide +kernel
theorem dX12_keyAt_89 : decode cX12_keyAt 89 = .ok (.getfield 104, 3) := by decide +kernel
theorem dX12_keyAt_92 : decode cX12_keyAt 92 = .ok (.if_icmp .ne 5, 3) := by decide +kernel
theorem dX12_keyAt_95 : decode cX12_keyAt 95 = .ok (.iload_n 1, 1) := by decide +kernel
theorem dX12_keyAt_96 : decode cX12_keyAt 96 = .ok (.ireturn, 1) := by decide +kernel
theorem dX12_keyAt_97 : decode cX12_keyAt 97 = .ok (.ldc 89, 2) := by decide +kernel
theorem dX12_keyAt_99 : decode cX12_keyAt 99 = .ok (.iload_n 2, 1) := by decide +kernel
theorem dX12_keyAt_100 : decode cX12_keyAt 100 = .ok (.invokevirtual 97, 3) := by decide +kernel
theorem dX12_keyAt_103 : decode cX12_keyAt 103 = .ok (.bipush 32, 2) := by decide +kernel
theorem dX12_keyAt_105 : decode cX12_keyAt 105 = .ok (.if_icmp .eq 9, 3) := by decide +kernel
theorem dX12_keyAt_108 : decode cX12_keyAt 108 = .ok (.iinc 2 1, 3) := by decide +kernel
theorem dX12_keyAt_111 : decode cX12_keyAt 111 = .ok (.goto (-14), 3) := by decide +kernel
theorem dX12_keyAt_114 : decode cX12_keyAt 114 = .ok (.iinc 2 1, 3) := by decide +kernel
theorem dX12_keyAt_117 : decode cX12_keyAt 117 = .ok (.iinc 1 1, 3) := by decide +kernel
theorem dX12_keyAt_120 : decode cX12_keyAt 120 = .ok (.goto (-116), 3) := by decide +kernel
theorem dX12_keyAt_123 : decode cX12_keyAt 123 = .ok (.bipush 28, 2) := by decide +kernel
theorem dX12_keyAt_125 : decode cX12_keyAt 125 = .ok (.ireturn, 1) := by decide +kernel
theorem dX12_next_0 : decode cX12_next 0 = .ok (.aload_n 0, 1) := by decide +kernel
theorem dX12_next_1 : decode cX12_next 1 = .ok (.aload_n 0, 1) := by decide +kernel
theorem dX12_next_2 : decode cX12_next 2 = .ok (.getfield 104, 3) := by decide +kernel
theorem dX12_next_5 : decode cX12_next 5 = .ok (.putfield 101, 3) := by decide +kernel
theorem dX12_next_8 : decode cX12_next 8 = .ok (.aload_n 0, 1) := by decide +kernel
theorem dX12_next_9 : decode cX12_next 9 = .ok (.aload_n 0, 1) := by decide +kernel
theorem dX12_next_10 : decode cX12_next 10 = .ok (.getfield 101, 3) := by decide +kernel
theorem dX12_next_13 : decode cX12_next 13 = .ok (.invokevirtual 107, 3) := by decide +kernel
theorem dX12_next_16 : decode cX12_next 16 = .ok (.bipush 10, 2) := by decide +kernel
theorem dX12_next_18 : decode cX12_next 18 = .ok (.if_icmp .eq 16, 3) := by decide +kernel
theorem dX12_next_21 : decode cX12_next 21 = .ok (.aload_n 0, 1) := by decide +kernel
theorem dX12_next_22 : decode cX12_next 22 = .ok (.aload_n 0, 1) := by decide +kernel
theorem dX12_next_23 : decode cX12_next 23 = .ok (.getfield 101, 3) := by decide +kernel
theorem dX12_next_26 : decode cX12_next 26 = .ok (.invokevirtual 107, 3) := by decide +kernel
theorem dX12_next_29 : decode cX12_next 29 = .ok (.bipush 32, 2) := by decide +kernel
theorem dX12_next_31 : decode cX12_next 31 = .ok (.if_icmp .ne 16, 3) := by decide +kernel
theorem dX12_next_34 : decode cX12_next 34 = .ok (.aload_n 0, 1) := by decide +kernel
theorem dX12_next_35 : decode cX12_next 35 = .ok (.dup, 1) := by decide +kernel
theorem dX12_next_36 : decode cX12_next 36 = .ok (.getfield 101, 3) := by decide +kernel
theorem dX12_next_39 : decode cX12_next 39 = .ok (.iconst 1, 1) := by decide +kernel
theorem dX12_next_40 : decode cX12_next 40 = .ok (.iadd, 1) := by decide +kernel
theorem dX12_next_41 : decode cX12_next 41 = .ok (.putfield 101, 3) := by decide +kernel
theorem dX12_next_44 : decode cX12_next 44 = .ok (.goto (-36), 3) := by decide +kernel
theorem dX12_next_47 : decode cX12_next 47 = .ok (.aload_n 0, 1) := by decide +kernel
theorem dX12_next_48 : decode cX12_next 48 = .ok (.aload_n 0, 1) := by decide +kernel
theorem dX12_next_49 : decode cX12_next 49 = .ok (.getfield 101, 3) := by decide +kernel
theorem dX12_next_52 : decode cX12_next 52 = .ok (.putfield 104, 3) := by decide +kernel
theorem dX12_next_55 : decode cX12_next 55 = .ok (.aload_n 0, 1) := by decide +kernel
theorem dX12_next_56 : decode cX12_next 56 = .ok (.getfield 101, 3) := by decide +kernel
theorem dX12_next_59 : decode cX12_next 59 = .ok (.aload_n 0, 1) := by decide +kernel
theorem dX12_next_60 : decode cX12_next 60 = .ok (.getfield 86, 3) := by decide +kernel
theorem dX12_next_63 : decode cX12_next 63 = .ok (.if_icmp .lt 12, 3) := by decide +kernel
theorem dX12_next_66 : decode cX12_next 66 = .ok (.aload_n 0, 1) := by decide +kernel
theorem dX12_next_67 : decode cX12_next 67 = .ok (.bipush 30, 2) := by decide +kernel
theorem dX12_next_69 : decode cX12_next 69 = .ok (.putfield 111, 3) := by decide +kernel
theorem dX12_next_72 : decode cX12_next 72 = .ok (.goto 222, 3) := by decide +kernel
theorem dX12_next_75 : decode cX12_next 75 = .ok (.aload_n 0, 1) := by decide +kernel
theorem dX12_next_76 : decode cX12_next 76 = .ok (.aload_n 0, 1) := by decide +kernel
theorem dX12_next_77 : decode cX12_next 77 = .ok (.getfield 101, 3) := by decide +kernel
theorem dX12_next_80 : decode cX12_next 80 = .ok (.invokevirtual 107, 3) := by decide +kernel
theorem dX12_next_83 : decode cX12_next 83 = .ok (.invokestatic 114, 3) := by decide +kernel
theorem dX12_next_86 : decode cX12_next 86 = .ok (.ifCond .eq 41, 3) := by decide +kernel
theorem dX12_next_89 : decode cX12_next 89 = .ok (.aload_n 0, 1) := by decide +kernel
theorem dX12_next_90 : decode cX12_next 90 = .ok (.aload_n 0, 1) := by decide +kernel
theorem dX12_next_91 : decode cX12_next 91 = .ok (.getfield 104, 3) := by decide +kernel
theorem dX12_next_94 : decode cX12_next 94 = .ok (.invokevirtual 107, 3) := by decide +kernel
theorem dX12_next_97 : decode cX12_next 97 = .ok (.invokestatic 114, 3) := by decide +kernel
theorem dX12_next_100 : decode cX12_next 100 = .ok (.ifCond .eq 16, 3) := by decide +kernel
theorem dX12_next_103 : decode cX12_next 103 = .ok (.aload_n 0, 1) := by decide +kernel
theorem dX12_next_104 : decode cX12_next 104 = .ok (.dup, 1) := by decide +kernel
theorem dX12_next_105 : decode cX12_next 105 = .ok (.getfield 104, 3) := by decide +kernel
theorem dX12_next_108 : decode cX12_next 108 = .ok (.iconst 1, 1) := by decide +kernel
theorem dX12_next_109 : decode cX12_next 109 = .ok (.iadd, 1) := by decide +kernel
theorem dX12_next_110 : decode cX12_next 110 = .ok (.putfield 104, 3) := by decide +kernel
theorem dX12_next_113 : decode cX12_next 113 = .ok (.goto (-24), 3) := by decide +kernel
theorem dX12_next_116 : decode cX12_next 116 = .ok (.aload_n 0, 1) := by decide +kernel
theorem dX12_next_117 : decode cX12_next 117 = .ok (.aload_n 0, 1) := by decide +kernel
theorem dX12_next_118 : decode cX12_next 118 = .ok (.invokevirtual 118, 3) := by decide +kernel
theorem dX12_next_121 : decode cX12_next 121 = .ok (.putfield 111, 3) := by decide +kernel
theorem dX12_next_124 : decode cX12_next 124 = .ok (.goto 170, 3) := by decide +kernel
theorem dX12_next_127 : decode cX12_next 127 = .ok (.aload_n 0, 1) := by decide +kernel
theorem dX12_next_128 : decode cX12_next 128 = .ok (.aload_n 0, 1) := by decide +kernel
theorem dX12_next_129 : decode cX12_next 129 = .ok (.getfield 101, 3) := by decide +kernel
theorem dX12_next_132 : decode cX12_next 132 = .ok (.invokevirtual 107, 3) := by decide +kernel
theorem dX12_next_135 : decode cX12_next 135 = .ok (.invokestatic 121, 3) := by decide +kernel
theorem dX12_next_138 : decode cX12_next 138 = .ok (.ifCond .eq 98, 3) := by decide +kernel
theorem dX12_next_141 : decode cX12_next 141 = .ok (.aload_n 0, 1) := by decide +kernel
theorem dX12_next_142 : decode cX12_next 142 = .ok (.iconst 0, 1) := by decide +kernel
theorem dX12_next_143 : decode cX12_next 143 = .ok (.putfield 124, 3) := by decide +kernel
theorem dX12_next_146 : decode cX12_next 146 = .ok (.aload_n 0, 1) := by decide +kernel
theorem dX12_next_147 : decode cX12_next 147 = .ok (.aload_n 0, 1) := by decide +kernel
theorem dX12_next_148 : decode cX12_next 148 = .ok (.getfield 104, 3) := by decide +kernel
theorem dX12_next_151 : decode cX12_next 151 = .ok (.invokevirtual 107, 3) := by decide +kernel
theorem dX12_next_154 : decode cX12_next 154 = .ok (.invokestatic 121, 3) := by decide +kernel
theorem dX12_next_157 : decode cX12_next 157 = .ok (.ifCond .eq 52, 3) := by decide +kernel
theorem dX12_next_160 : decode cX12_next 160 = .ok (.aload_n 0, 1) := by decide +kernel
theorem dX12_next_161 : decode cX12_next 161 = .ok (.getfield 104, 3) := by decide +kernel
theorem dX12_next_164 : decode cX12_next 164 = .ok (.aload_n 0, 1) := by decide +kernel
theorem dX12_next_165 : decode cX12_next 165 = .ok (.getfield 101, 3) := by decide +kernel
theorem dX12_next_168 : decode cX12_next 168 = .ok (.isub, 1) := by decide +kernel
theorem dX12_next_169 : decode cX12_next 169 = .ok (.iconst 3, 1) := by decide +kernel
theorem dX12_next_170 : decode cX12_next 170 = .ok (.if_icmp .ge 26, 3) := by decide +kernel
theorem dX12_next_173 : decode cX12_next 173 = .ok (.aload_n 0, 1) := by decide +kernel
theorem dX12_next_174 : decode cX12_next 174 = .ok (.bipush 10, 2) := by decide +kernel
theorem dX12_next_176 : decode cX12_next 176 = .ok (.aload_n 0, 1) := by decide +kernel
theorem dX12_next_177 : decode cX12_next 177 = .ok (.getfield 124, 3) := by decide +kernel
theorem dX12_next_180 : decode cX12_next 180 = .ok (.imul, 1) := by decide +kernel
theorem dX12_next_181 : decode cX12_next 181 = .ok (.aload_n 0, 1) := by decide +kernel
theorem dX12_next_182 : decode cX12_next 182 = .ok (.aload_n 0, 1) := by decide +kernel
theorem dX12_next_183 : decode cX12_next 183 = .ok (.getfield 104, 3) := by decide +kernel
theorem dX12_next_186 : decode cX12_next 186 = .ok (.invokevirtual 107, 3) := by decide +kernel
theorem dX12_next_189 : decode cX12_next 189 = .ok (.iadd, 1) := by decide +kernel
theorem dX12_next_190 : decode cX12_next 190 = .ok (.bipush 48, 2) := by decide +kernel
theorem dX12_next_192 : decode cX12_next 192 = .ok (.isub, 1) := by decide +kernel
theorem dX12_next_193 : decode cX12_next 193 = .ok (.putfield 124, 3) := by decide +kernel
theorem dX12_next_196 : decode cX12_next 196 = .ok (.aload_n 0, 1) := by decide +kernel
theorem dX12_next_197 : decode cX12_next 197 = .ok (.dup, 1) := by decide +kernel
theorem dX12_next_198 : decode cX12_next 198 = .ok (.getfield 104, 3) := by decide +kernel
theorem dX12_next_201 : decode cX12_next 201 = .ok (.iconst 1, 1) := by decide +kernel
theorem dX12_next_202 : decode cX12_next 202 = .ok (.iadd, 1) := by decide +kernel
theorem dX12_next_203 : decode cX12_next 203 = .ok (.putfield 104, 3) := by decide +kernel
theorem dX12_next_206 : decode cX12_next 206 = .ok (.goto (-60), 3) := by decide +kernel
theorem dX12_next_209 : decode cX12_next 209 = .ok (.aload_n 0, 1) := by decide +kernel
theorem dX12_next_210 : decode cX12_next 210 = .ok (.aload_n 0, 1) := by decide +kernel
theorem dX12_next_211 : decode cX12_next 211 = .ok (.getfield 104, 3) := by decide +kernel
theorem dX12_next_214 : decode cX12_next 214 = .ok (.aload_n 0, 1) := by decide +kernel
theorem dX12_next_215 : decode cX12_next 215 = .ok (.getfield 101, 3) := by decide +kernel
theorem dX12_next_218 : decode cX12_next 218 = .ok (.isub, 1) := by decide +kernel
theorem dX12_next_219 : decode cX12_next 219 = .ok (.iconst 3, 1) := by decide +kernel
theorem dX12_next_220 : decode cX12_next 220 = .ok (.if_icmp .le 8, 3) := by decide +kernel
theorem dX12_next_223 : decode cX12_next 223 = .ok (.bipush 31, 2) := by decide +kernel
theorem dX12_next_225 : decode cX12_next 225 = .ok (.goto 5, 3) := by decide +kernel
theorem dX12_next_228 : decode cX12_next 228 = .ok (.bipush 29, 2) := by decide +kernel
theorem dX12_next_230 : decode cX12_next 230 = .ok (.putfield 111, 3) := by decide +kernel
theorem dX12_next_233 : decode cX12_next 233 = .ok (.goto 61, 3) := by decide +kernel
theorem dX12_next_236 : decode cX12_next 236 = .ok (.aload_n 0, 1) := by decide +kernel
theorem dX12_next_237 : decode cX12_next 237 = .ok (.dup, 1) := by decide +kernel
theorem dX12_next_238 : decode cX12_next 238 = .ok (.getfield 104, 3) := by decide +kernel
theorem dX12_next_241 : decode cX12_next 241 = .ok (.iconst 1, 1) := by decide +kernel
theorem dX12_next_242 : decode cX12_next 242 = .ok (.iadd, 1) := by decide +kernel
theorem dX12_next_243 : decode cX12_next 243 = .ok (.putfield 104, 3) := by decide +kernel
theorem dX12_next_246 : decode cX12_next 246 = .ok (.aload_n 0, 1) := by decide +kernel
theorem dX12_next_247 : decode cX12_next 247 = .ok (.bipush 31, 2) := by decide +kernel
theorem dX12_next_249 : decode cX12_next 249 = .ok (.putfield 111, 3) := by decide +kernel
theorem dX12_next_252 : decode cX12_next 252 = .ok (.iconst 0, 1) := by decide +kernel
theorem dX12_next_253 : decode cX12_next 253 = .ok (.istore_n 1, 1) := by decide +kernel
theorem dX12_next_254 : decode cX12_next 254 = .ok (.iload_n 1, 1) := by decide +kernel
theorem dX12_next_255 : decode cX12_next 255 = .ok (.ldc 127, 2) := by decide +kernel
theorem dX12_next_257 : decode cX12_next 257 = .ok (.invokevirtual 91, 3) := by decide +kernel
theorem dX12_next_260 : decode cX12_next 260 = .ok (.if_icmp .ge 34, 3) := by decide +kernel
theorem dX12_next_263 : decode cX12_next 263 = .ok (.aload_n 0, 1) := by decide +kernel
theorem dX12_next_264 : decode cX12_next 264 = .ok (.aload_n 0, 1) := by decide +kernel
theorem dX12_next_265 : decode cX12_next 265 = .ok (.getfield 101, 3) := by decide +kernel
theorem dX12_next_268 : decode cX12_next 268 = .ok (.invokevirtual 107, 3) := by decide +kernel
theorem dX12_next_271 : decode cX12_next 271 = .ok (.ldc 127, 2) := by decide +kernel
theorem dX12_next_273 : decode cX12_next 273 = .ok (.iload_n 1, 1) := by decide +kernel
theorem dX12_next_274 : decode cX12_next 274 = .ok (.invokevirtual 97, 3) := by decide +kernel
theorem dX12_next_277 : decode cX12_next 277 = .ok (.if_icmp .ne 11, 3) := by decide +kernel
theorem dX12_next_280 : decode cX12_next 280 = .ok (.aload_n 0, 1) := by decide +kernel
theorem dX12_next_281 : decode cX12_next 281 = .ok (.bipush 32, 2) := by decide +kernel
theorem dX12_next_283 : decode cX12_next 283 = .ok (.iload_n 1, 1) := by decide +kernel
theorem dX12_next_284 : decode cX12_next 284 = .ok (.iadd, 1) := by decide +kernel
theorem dX12_next_285 : decode cX12_next 285 = .ok (.putfield 111, 3) := by decide +kernel
theorem dX12_next_288 : decode cX12_next 288 = .ok (.iinc 1 1, 3) := by decide +kernel
theorem dX12_next_291 : decode cX12_next 291 = .ok (.goto (-37), 3) := by decide +kernel
theorem dX12_next_294 : decode cX12_next 294 = .ok (.return_, 1) := by decide +kernel
theorem dX12_fails_0 : decode cX12_fails 0 = .ok (.aload_n 0, 1) := by decide +kernel
theorem dX12_fails_1 : decode cX12_fails 1 = .ok (.getfield 129, 3) := by decide +kernel
theorem dX12_fails_4 : decode cX12_fails 4 = .ok (.ifCond .eq 4, 3) := by decide +kernel
theorem dX12_fails_7 : decode cX12_fails 7 = .ok (.return_, 1) := by decide +kernel
theorem dX12_fails_8 : decode cX12_fails 8 = .ok (.aload_n 0, 1) := by decide +kernel
theorem dX12_fails_9 : decode cX12_fails 9 = .ok (.aload_n 0, 1) := by decide +kernel
theorem dX12_fails_10 : decode cX12_fails 10 = .ok (.getfield 111, 3) := by decide +kernel
theorem dX12_fails_13 : decode cX12_fails 13 = .ok (.bipush 31, 2) := by decide +kernel
theorem dX12_fails_15 : decode cX12_fails 15 = .ok (.if_icmp .ne 7, 3) := by decide +kernel
theorem dX12_fails_18 : decode cX12_fails 18 = .ok (.iconst 1, 1) := by decide +kernel
theorem dX12_fails_19 : decode cX12_fails 19 = .ok (.goto 4, 3) := by decide +kernel
theorem dX12_fails_22 : decode cX12_fails 22 = .ok (.iload_n 1, 1) := by decide +kernel
theorem dX12_fails_23 : decode cX12_fails 23 = .ok (.putfield 129, 3) := by decide +kernel
theorem dX12_fails_26 : decode cX12_fails 26 = .ok (.aload_n 0, 1) := by decide +kernel
theorem dX12_fails_27 : decode cX12_fails 27 = .ok (.aload_n 0, 1) := by decide +kernel
theorem dX12_fails_28 : decode cX12_fails 28 = .ok (.getfield 101, 3) := by decide +kernel
theorem dX12_fails_31 : decode cX12_fails 31 = .ok (.putfield 132, 3) := by decide +kernel
theorem dX12_fails_34 : decode cX12_fails 34 = .ok (.return_, 1) := by decide +kernel
theorem dX12_is_0 : decode cX12_is 0 = .ok (.aload_n 0, 1) := by decide +kernel
theorem dX12_is_1 : decode cX12_is 1 = .ok (.getfield 129, 3) := by decide +kernel
theorem dX12_is_4 : decode cX12_is 4 = .ok (.ifCond .ne 15, 3) := by decide +kernel
theorem dX12_is_7 : decode cX12_is 7 = .ok (.aload_n 0, 1) := by decide +kernel
theorem dX12_is_8 : decode cX12_is 8 = .ok (.getfield 111, 3) := by decide +kernel
theorem dX12_is_11 : decode cX12_is 11 = .ok (.iload_n 1, 1) := by decide +kernel
theorem dX12_is_12 : decode cX12_is 12 = .ok (.if_icmp .ne 7, 3) := by decide +kernel
theorem dX12_is_15 : decode cX12_is 15 = .ok (.iconst 1, 1) := by decide +kernel
theorem dX12_is_16 : decode cX12_is 16 = .ok (.goto 4, 3) := by decide +kernel
theorem dX12_is_19 : decode cX12_is 19 = .ok (.iconst 0, 1) := by decide +kernel
theorem dX12_is_20 : decode cX12_is 20 = .ok (.ireturn, 1) := by decide +kernel
theorem dX12_eats_0 : decode cX12_eats 0 = .ok (.aload_n 0, 1) := by decide +kernel
theorem dX12_eats_1 : decode cX12_eats 1 = .ok (.iload_n 1, 1) := by decide +kernel
theorem dX12_eats_2 : decode cX12_eats 2 = .ok (.invokevirtual 135, 3) := by decide +kernel
theorem dX12_eats_5 : decode cX12_eats 5 = .ok (.ifCond .ne 5, 3) := by decide +kernel
theorem dX12_eats_8 : decode cX12_eats 8 = .ok (.iconst 0, 1) := by decide +kernel
theorem dX12_eats_9 : decode cX12_eats 9 = .ok (.ireturn, 1) := by decide +kernel
theorem dX12_eats_10 : decode cX12_eats 10 = .ok (.aload_n 0, 1) := by decide +kernel
theorem dX12_eats_11 : decode cX12_eats 11 = .ok (.invokevirtual 138, 3) := by decide +kernel
theorem dX12_eats_14 : decode cX12_eats 14 = .ok (.iconst 1, 1) := by decide +kernel
theorem dX12_eats_15 : decode cX12_eats 15 = .ok (.ireturn, 1) := by decide +kernel
theorem dX12_takes_0 : decode cX12_takes 0 = .ok (.aload_n 0, 1) := by decide +kernel
theorem dX12_takes_1 : decode cX12_takes 1 = .ok (.bipush 29, 2) := by decide +kernel
theorem dX12_takes_3 : decode cX12_takes 3 = .ok (.invokevirtual 135, 3) := by decide +kernel
theorem dX12_takes_6 : decode cX12_takes 6 = .ok (.ifCond .ne 11, 3) := by decide +kernel
theorem dX12_takes_9 : decode cX12_takes 9 = .ok (.aload_n 0, 1) := by decide +kernel
theorem dX12_takes_10 : decode cX12_takes 10 = .ok (.iconst 2, 1) := by decide +kernel
theorem dX12_takes_11 : decode cX12_takes 11 = .ok (.invokevirtual 141, 3) := by decide +kernel
theorem dX12_takes_14 : decode cX12_takes 14 = .ok (.goto 23, 3) := by decide +kernel
theorem dX12_takes_17 : decode cX12_takes 17 = .ok (.aload_n 0, 1) := by decide +kernel
theorem dX12_takes_18 : decode cX12_takes 18 = .ok (.getfield 124, 3) := by decide +kernel
theorem dX12_takes_21 : decode cX12_takes 21 = .ok (.i2l, 1) := by decide +kernel
theorem dX12_takes_22 : decode cX12_takes 22 = .ok (.iload_n 1, 1) := by decide +kernel
theorem dX12_takes_23 : decode cX12_takes 23 = .ok (.i2l, 1) := by decide +kernel
theorem dX12_takes_24 : decode cX12_takes 24 = .ok (.iload_n 2, 1) := by decide +kernel
theorem dX12_takes_25 : decode cX12_takes 25 = .ok (.i2l, 1) := by decide +kernel
theorem dX12_takes_26 : decode cX12_takes 26 = .ok (.invokestatic 145, 3) := by decide +kernel
theorem dX12_takes_29 : decode cX12_takes 29 = .ok (.ifCond .ne 8, 3) := by decide +kernel
theorem dX12_takes_32 : decode cX12_takes 32 = .ok (.aload_n 0, 1) := by decide +kernel
theorem dX12_takes_33 : decode cX12_takes 33 = .ok (.iconst 3, 1) := by decide +kernel
theorem dX12_takes_34 : decode cX12_takes 34 = .ok (.invokevirtual 141, 3) := by decide +kernel
theorem dX12_takes_37 : decode cX12_takes 37 = .ok (.aload_n 0, 1) := by decide +kernel
theorem dX12_takes_38 : decode cX12_takes 38 = .ok (.getfield 124, 3) := by decide +kernel
theorem dX12_takes_41 : decode cX12_takes 41 = .ok (.istore_n 3, 1) := by decide +kernel
theorem dX12_takes_42 : decode cX12_takes 42 = .ok (.aload_n 0, 1) := by decide +kernel
theorem dX12_takes_43 : decode cX12_takes 43 = .ok (.getfield 129, 3) := by decide +kernel
theorem dX12_takes_46 : decode cX12_takes 46 = .ok (.ifCond .ne 7, 3) := by decide +kernel
theorem dX12_takes_49 : decode cX12_takes 49 = .ok (.aload_n 0, 1) := by decide +kernel
theorem dX12_takes_50 : decode cX12_takes 50 = .ok (.invokevirtual 138, 3) := by decide +kernel
theorem dX12_takes_53 : decode cX12_takes 53 = .ok (.iload_n 3, 1) := by decide +kernel
theorem dX12_takes_54 : decode cX12_takes 54 = .ok (.ireturn, 1) := by decide +kernel
theorem dX12_isIn_0 : decode cX12_isIn 0 = .ok (.lload_n 0, 1) := by decide +kernel
theorem dX12_isIn_1 : decode cX12_isIn 1 = .ok (.iload_n 2, 1) := by decide +kernel
theorem dX12_isIn_2 : decode cX12_isIn 2 = .ok (.lshr, 1) := by decide +kernel
theorem dX12_isIn_3 : decode cX12_isIn 3 = .ok (.lconst 1, 1) := by decide +kernel
theorem dX12_isIn_4 : decode cX12_isIn 4 = .ok (.land, 1) := by decide +kernel
theorem dX12_isIn_5 : decode cX12_isIn 5 = .ok (.lconst 1, 1) := by decide +kernel
theorem dX12_isIn_6 : decode cX12_isIn 6 = .ok (.lcmp, 1) := by decide +kernel
theorem dX12_isIn_7 : decode cX12_isIn 7 = .ok (.ifCond .ne 7, 3) := by decide +kernel
theorem dX12_isIn_10 : decode cX12_isIn 10 = .ok (.iconst 1, 1) := by decide +kernel
theorem dX12_isIn_11 : decode cX12_isIn 11 = .ok (.goto 4, 3) := by decide +kernel
theorem dX12_isIn_14 : decode cX12_isIn 14 = .ok (.iconst 0, 1) := by decide +kernel
theorem dX12_isIn_15 : decode cX12_isIn 15 = .ok (.ireturn, 1) := by decide +kernel
theorem dX12_wordOf_0 : decode cX12_wordOf 0 = .ok (.iload_n 1, 1) := by decide +kernel
theorem dX12_wordOf_1 : decode cX12_wordOf 1 = .ok (.lookupswitch 31 #[(11, 29), (19, 27)], 27) := by decide +kernel
theorem dX12_wordOf_28 : decode cX12_wordOf 28 = .ok (.iconst 0, 1) := by decide +kernel
theorem dX12_wordOf_29 : decode cX12_wordOf 29 = .ok (.ireturn, 1) := by decide +kernel
theorem dX12_wordOf_30 : decode cX12_wordOf 30 = .ok (.iconst 1, 1) := by decide +kernel
theorem dX12_wordOf_31 : decode cX12_wordOf 31 = .ok (.ireturn, 1) := by decide +kernel
theorem dX12_wordOf_32 : decode cX12_wordOf 32 = .ok (.aload_n 0, 1) := by decide +kernel
theorem dX12_wordOf_33 : decode cX12_wordOf 33 = .ok (.getfield 149, 3) := by decide +kernel
theorem dX12_wordOf_36 : decode cX12_wordOf 36 = .ok (.iconst 1, 1) := by decide +kernel
theorem dX12_wordOf_37 : decode cX12_wordOf 37 = .ok (.if_icmp .ne 24, 3) := by decide +kernel
theorem dX12_wordOf_40 : decode cX12_wordOf 40 = .ok (.iload_n 1, 1) := by decide +kernel
theorem dX12_wordOf_41 : decode cX12_wordOf 41 = .ok (.bipush 20, 2) := by decide +kernel
theorem dX12_wordOf_43 : decode cX12_wordOf 43 = .ok (.if_icmp .lt 18, 3) := by decide +kernel
theorem dX12_wordOf_46 : decode cX12_wordOf 46 = .ok (.iload_n 1, 1) := by decide +kernel
theorem dX12_wordOf_47 : decode cX12_wordOf 47 = .ok (.bipush 23, 2) := by decide +kernel
theorem dX12_wordOf_49 : decode cX12_wordOf 49 = .ok (.if_icmp .gt 12, 3) := by decide +kernel
theorem dX12_wordOf_52 : decode cX12_wordOf 52 = .ok (.iconst 2, 1) := by decide +kernel
theorem dX12_wordOf_53 : decode cX12_wordOf 53 = .ok (.iload_n 1, 1) := by decide +kernel
theorem dX12_wordOf_54 : decode cX12_wordOf 54 = .ok (.iadd, 1) := by decide +kernel
theorem dX12_wordOf_55 : decode cX12_wordOf 55 = .ok (.bipush 20, 2) := by decide +kernel
theorem dX12_wordOf_57 : decode cX12_wordOf 57 = .ok (.isub, 1) := by decide +kernel
theorem dX12_wordOf_58 : decode cX12_wordOf 58 = .ok (.goto 4, 3) := by decide +kernel
theorem dX12_wordOf_61 : decode cX12_wordOf 61 = .ok (.iconst (-1), 1) := by decide +kernel
theorem dX12_wordOf_62 : decode cX12_wordOf 62 = .ok (.ireturn, 1) := by decide +kernel
theorem dX12_codes_0 : decode cX12_codes 0 = .ok (.aload_n 0, 1) := by decide +kernel
theorem dX12_codes_1 : decode cX12_codes 1 = .ok (.getfield 129, 3) := by decide +kernel
theorem dX12_codes_4 : decode cX12_codes 4 = .ok (.ifCond .eq 4, 3) := by decide +kernel
theorem dX12_codes_7 : decode cX12_codes 7 = .ok (.return_, 1) := by decide +kernel
theorem dX12_codes_8 : decode cX12_codes 8 = .ok (.aload_n 0, 1) := by decide +kernel
theorem dX12_codes_9 : decode cX12_codes 9 = .ok (.getfield 24, 3) := by decide +kernel
theorem dX12_codes_12 : decode cX12_codes 12 = .ok (.sipush 520, 3) := by decide +kernel
theorem dX12_codes_15 : decode cX12_codes 15 = .ok (.aload_n 0, 1) := by decide +kernel
theorem dX12_codes_16 : decode cX12_codes 16 = .ok (.getfield 24, 3) := by decide +kernel
theorem dX12_codes_19 : decode cX12_codes 19 = .ok (.sipush 519, 3) := by decide +kernel
theorem dX12_codes_22 : decode cX12_codes 22 = .ok (.iaload, 1) := by decide +kernel
theorem dX12_codes_23 : decode cX12_codes 23 = .ok (.iadd, 1) := by decide +kernel
theorem dX12_codes_24 : decode cX12_codes 24 = .ok (.iload_n 1, 1) := by decide +kernel
theorem dX12_codes_25 : decode cX12_codes 25 = .ok (.iastore, 1) := by decide +kernel
theorem dX12_codes_26 : decode cX12_codes 26 = .ok (.aload_n 0, 1) := by decide +kernel
theorem dX12_codes_27 : decode cX12_codes 27 = .ok (.getfield 24, 3) := by decide +kernel
theorem dX12_codes_30 : decode cX12_codes 30 = .ok (.sipush 519, 3) := by decide +kernel
theorem dX12_codes_33 : decode cX12_codes 33 = .ok (.dup2, 1) := by decide +kernel
theorem dX12_codes_34 : decode cX12_codes 34 = .ok (.iaload, 1) := by decide +kernel
theorem dX12_codes_35 : decode cX12_codes 35 = .ok (.iconst 1, 1) := by decide +kernel
theorem dX12_codes_36 : decode cX12_codes 36 = .ok (.iadd, 1) := by decide +kernel
theorem dX12_codes_37 : decode cX12_codes 37 = .ok (.iastore, 1) := by decide +kernel
theorem dX12_codes_38 : decode cX12_codes 38 = .ok (.return_, 1) := by decide +kernel
theorem dX12_goesIn_0 : decode cX12_goesIn 0 = .ok (.iload_n 1, 1) := by decide +kernel
theorem dX12_goesIn_1 : decode cX12_goesIn 1 = .ok (.bipush 6, 2) := by decide +kernel
theorem dX12_goesIn_3 : decode cX12_goesIn 3 = .ok (.if_icmp .ne 8, 3) := by decide +kernel
theorem dX12_goesIn_6 : decode cX12_goesIn 6 = .ok (.aload_n 0, 1) := by decide +kernel
theorem dX12_goesIn_7 : decode cX12_goesIn 7 = .ok (.iconst 4, 1) := by decide +kernel
theorem dX12_goesIn_8 : decode cX12_goesIn 8 = .ok (.invokevirtual 141, 3) := by decide +kernel
theorem dX12_goesIn_11 : decode cX12_goesIn 11 = .ok (.aload_n 0, 1) := by decide +kernel
theorem dX12_goesIn_12 : decode cX12_goesIn 12 = .ok (.getfield 129, 3) := by decide +kernel
theorem dX12_goesIn_15 : decode cX12_goesIn 15 = .ok (.ifCond .ne 7, 3) := by decide +kernel
theorem dX12_goesIn_18 : decode cX12_goesIn 18 = .ok (.aload_n 0, 1) := by decide +kernel
theorem dX12_goesIn_19 : decode cX12_goesIn 19 = .ok (.invokevirtual 138, 3) := by decide +kernel
theorem dX12_goesIn_22 : decode cX12_goesIn 22 = .ok (.aload_n 0, 1) := by decide +kernel
theorem dX12_goesIn_23 : decode cX12_goesIn 23 = .ok (.getfield 129, 3) := by decide +kernel
theorem dX12_goesIn_26 : decode cX12_goesIn 26 = .ok (.ifCond .ne 7, 3) := by decide +kernel
theorem dX12_goesIn_29 : decode cX12_goesIn 29 = .ok (.iconst 1, 1) := by decide +kernel
theorem dX12_goesIn_30 : decode cX12_goesIn 30 = .ok (.goto 4, 3) := by decide +kernel
theorem dX12_goesIn_33 : decode cX12_goesIn 33 = .ok (.iconst 0, 1) := by decide +kernel
theorem dX12_goesIn_34 : decode cX12_goesIn 34 = .ok (.ireturn, 1) := by decide +kernel
theorem dX12_readAtom_0 : decode cX12_readAtom 0 = .ok (.aload_n 0, 1) := by decide +kernel
theorem dX12_readAtom_1 : decode cX12_readAtom 1 = .ok (.bipush 29, 2) := by decide +kernel
theorem dX12_readAtom_3 : decode cX12_readAtom 3 = .ok (.invokevirtual 135, 3) := by decide +kernel
theorem dX12_readAtom_6 : decode cX12_readAtom 6 = .ok (.ifCond .eq 18, 3) := by decide +kernel
theorem dX12_readAtom_9 : decode cX12_readAtom 9 = .ok (.aload_n 0, 1) := by decide +kernel
theorem dX12_readAtom_10 : decode cX12_readAtom 10 = .ok (.aload_n 0, 1) := by decide +kernel
theorem dX12_readAtom_11 : decode cX12_readAtom 11 = .ok (.getfield 124, 3) := by decide +kernel
theorem dX12_readAtom_14 : decode cX12_readAtom 14 = .ok (.invokevirtual 152, 3) := by decide +kernel
theorem dX12_readAtom_17 : decode cX12_readAtom 17 = .ok (.aload_n 0, 1) := by decide +kernel
theorem dX12_readAtom_18 : decode cX12_readAtom 18 = .ok (.invokevirtual 138, 3) := by decide +kernel
theorem dX12_readAtom_21 : decode cX12_readAtom 21 = .ok (.goto 109, 3) := by decide +kernel
theorem dX12_readAtom_24 : decode cX12_readAtom 24 = .ok (.aload_n 0, 1) := by decide +kernel
theorem dX12_readAtom_25 : decode cX12_readAtom 25 = .ok (.getfield 129, 3) := by decide +kernel
theorem dX12_readAtom_28 : decode cX12_readAtom 28 = .ok (.ifCond .ne 38, 3) := by decide +kernel
theorem dX12_readAtom_31 : decode cX12_readAtom 31 = .ok (.aload_n 0, 1) := by decide +kernel
theorem dX12_readAtom_32 : decode cX12_readAtom 32 = .ok (.aload_n 0, 1) := by decide +kernel
theorem dX12_readAtom_33 : decode cX12_readAtom 33 = .ok (.getfield 111, 3) := by decide +kernel
theorem dX12_readAtom_36 : decode cX12_readAtom 36 = .ok (.invokevirtual 155, 3) := by decide +kernel
theorem dX12_readAtom_39 : decode cX12_readAtom 39 = .ok (.iconst (-1), 1) := by decide +kernel
theorem dX12_readAtom_40 : decode cX12_readAtom 40 = .ok (.if_icmp .eq 26, 3) := by decide +kernel
theorem dX12_readAtom_43 : decode cX12_readAtom 43 = .ok (.aload_n 0, 1) := by decide +kernel
theorem dX12_readAtom_44 : decode cX12_readAtom 44 = .ok (.sipush 1000, 3) := by decide +kernel
theorem dX12_readAtom_47 : decode cX12_readAtom 47 = .ok (.aload_n 0, 1) := by decide +kernel
theorem dX12_readAtom_48 : decode cX12_readAtom 48 = .ok (.aload_n 0, 1) := by decide +kernel
theorem dX12_readAtom_49 : decode cX12_readAtom 49 = .ok (.getfield 111, 3) := by decide +kernel
theorem dX12_readAtom_52 : decode cX12_readAtom 52 = .ok (.invokevirtual 155, 3) := by decide +kernel
theorem dX12_readAtom_55 : decode cX12_readAtom 55 = .ok (.iadd, 1) := by decide +kernel
theorem dX12_readAtom_56 : decode cX12_readAtom 56 = .ok (.invokevirtual 152, 3) := by decide +kernel
theorem dX12_readAtom_59 : decode cX12_readAtom 59 = .ok (.aload_n 0, 1) := by decide +kernel
theorem dX12_readAtom_60 : decode cX12_readAtom 60 = .ok (.invokevirtual 138, 3) := by decide +kernel
theorem dX12_readAtom_63 : decode cX12_readAtom 63 = .ok (.goto 67, 3) := by decide +kernel
theorem dX12_readAtom_66 : decode cX12_readAtom 66 = .ok (.aload_n 0, 1) := by decide +kernel
theorem dX12_readAtom_67 : decode cX12_readAtom 67 = .ok (.bipush 37, 2) := by decide +kernel
theorem dX12_readAtom_69 : decode cX12_readAtom 69 = .ok (.invokevirtual 135, 3) := by decide +kernel
theorem dX12_readAtom_72 : decode cX12_readAtom 72 = .ok (.ifCond .eq 36, 3) := by decide +kernel
theorem dX12_readAtom_75 : decode cX12_readAtom 75 = .ok (.aload_n 0, 1) := by decide +kernel
theorem dX12_readAtom_76 : decode cX12_readAtom 76 = .ok (.iload_n 1, 1) := by decide +kernel
theorem dX12_readAtom_77 : decode cX12_readAtom 77 = .ok (.invokevirtual 158, 3) := by decide +kernel
theorem dX12_readAtom_80 : decode cX12_readAtom 80 = .ok (.ifCond .ne 4, 3) := by decide +kernel
theorem dX12_readAtom_83 : decode cX12_readAtom 83 = .ok (.return_, 1) := by decide +kernel
theorem dX12_readAtom_84 : decode cX12_readAtom 84 = .ok (.aload_n 0, 1) := by decide +kernel
theorem dX12_readAtom_85 : decode cX12_readAtom 85 = .ok (.iload_n 1, 1) := by decide +kernel
theorem dX12_readAtom_86 : decode cX12_readAtom 86 = .ok (.iconst 1, 1) := by decide +kernel
theorem dX12_readAtom_87 : decode cX12_readAtom 87 = .ok (.iadd, 1) := by decide +kernel
theorem dX12_readAtom_88 : decode cX12_readAtom 88 = .ok (.invokevirtual 161, 3) := by decide +kernel
theorem dX12_readAtom_91 : decode cX12_readAtom 91 = .ok (.aload_n 0, 1) := by decide +kernel
theorem dX12_readAtom_92 : decode cX12_readAtom 92 = .ok (.bipush 38, 2) := by decide +kernel
theorem dX12_readAtom_94 : decode cX12_readAtom 94 = .ok (.invokevirtual 164, 3) := by decide +kernel
theorem dX12_readAtom_97 : decode cX12_readAtom 97 = .ok (.ifCond .ne 33, 3) := by decide +kernel
theorem dX12_readAtom_100 : decode cX12_readAtom 100 = .ok (.aload_n 0, 1) := by decide +kernel
theorem dX12_readAtom_101 : decode cX12_readAtom 101 = .ok (.iconst 2, 1) := by decide +kernel
theorem dX12_readAtom_102 : decode cX12_readAtom 102 = .ok (.invokevirtual 141, 3) := by decide +kernel
theorem dX12_readAtom_105 : decode cX12_readAtom 105 = .ok (.goto 25, 3) := by decide +kernel
theorem dX12_readAtom_108 : decode cX12_readAtom 108 = .ok (.aload_n 0, 1) := by decide +kernel
theorem dX12_readAtom_109 : decode cX12_readAtom 109 = .ok (.bipush 15, 2) := by decide +kernel
theorem dX12_readAtom_111 : decode cX12_readAtom 111 = .ok (.invokevirtual 135, 3) := by decide +kernel
theorem dX12_readAtom_114 : decode cX12_readAtom 114 = .ok (.ifCond .eq 11, 3) := by decide +kernel
theorem dX12_readAtom_117 : decode cX12_readAtom 117 = .ok (.aload_n 0, 1) := by decide +kernel
theorem dX12_readAtom_118 : decode cX12_readAtom 118 = .ok (.iload_n 1, 1) := by decide +kernel
theorem dX12_readAtom_119 : decode cX12_readAtom 119 = .ok (.invokevirtual 167, 3) := by decide +kernel
theorem dX12_readAtom_122 : decode cX12_readAtom 122 = .ok (.goto 8, 3) := by decide +kernel
theorem dX12_readAtom_125 : decode cX12_readAtom 125 = .ok (.aload_n 0, 1) := by decide +kernel
theorem dX12_readAtom_126 : decode cX12_readAtom 126 = .ok (.iconst 2, 1) := by decide +kernel
theorem dX12_readAtom_127 : decode cX12_readAtom 127 = .ok (.invokevirtual 141, 3) := by decide +kernel
theorem dX12_readAtom_130 : decode cX12_readAtom 130 = .ok (.return_, 1) := by decide +kernel
theorem dX12_readIf_0 : decode cX12_readIf 0 = .ok (.aload_n 0, 1) := by decide +kernel
theorem dX12_readIf_1 : decode cX12_readIf 1 = .ok (.iload_n 1, 1) := by decide +kernel
theorem dX12_readIf_2 : decode cX12_readIf 2 = .ok (.invokevirtual 158, 3) := by decide +kernel
theorem dX12_readIf_5 : decode cX12_readIf 5 = .ok (.ifCond .ne 4, 3) := by decide +kernel
theorem dX12_readIf_8 : decode cX12_readIf 8 = .ok (.return_, 1) := by decide +kernel
theorem dX12_readIf_9 : decode cX12_readIf 9 = .ok (.aload_n 0, 1) := by decide +kernel
theorem dX12_readIf_10 : decode cX12_readIf 10 = .ok (.iload_n 1, 1) := by decide +kernel
theorem dX12_readIf_11 : decode cX12_readIf 11 = .ok (.iconst 1, 1) := by decide +kernel
theorem dX12_readIf_12 : decode cX12_readIf 12 = .ok (.iadd, 1) := by decide +kernel
theorem dX12_readIf_13 : decode cX12_readIf 13 = .ok (.invokevirtual 170, 3) := by decide +kernel
theorem dX12_readIf_16 : decode cX12_readIf 16 = .ok (.aload_n 0, 1) := by decide +kernel
theorem dX12_readIf_17 : decode cX12_readIf 17 = .ok (.bipush 16, 2) := by decide +kernel
theorem dX12_readIf_19 : decode cX12_readIf 19 = .ok (.invokevirtual 164, 3) := by decide +kernel
theorem dX12_readIf_22 : decode cX12_readIf 22 = .ok (.ifCond .ne 8, 3) := by decide +kernel
theorem dX12_readIf_25 : decode cX12_readIf 25 = .ok (.aload_n 0, 1) := by decide +kernel
theorem dX12_readIf_26 : decode cX12_readIf 26 = .ok (.iconst 2, 1) := by decide +kernel
theorem dX12_readIf_27 : decode cX12_readIf 27 = .ok (.invokevirtual 141, 3) := by decide +kernel
theorem dX12_readIf_30 : decode cX12_readIf 30 = .ok (.aload_n 0, 1) := by decide +kernel
theorem dX12_readIf_31 : decode cX12_readIf 31 = .ok (.iload_n 1, 1) := by decide +kernel
theorem dX12_readIf_32 : decode cX12_readIf 32 = .ok (.iconst 1, 1) := by decide +kernel
theorem dX12_readIf_33 : decode cX12_readIf 33 = .ok (.iadd, 1) := by decide +kernel
theorem dX12_readIf_34 : decode cX12_readIf 34 = .ok (.invokevirtual 161, 3) := by decide +kernel
theorem dX12_readIf_37 : decode cX12_readIf 37 = .ok (.aload_n 0, 1) := by decide +kernel
theorem dX12_readIf_38 : decode cX12_readIf 38 = .ok (.bipush 17, 2) := by decide +kernel
theorem dX12_readIf_40 : decode cX12_readIf 40 = .ok (.invokevirtual 164, 3) := by decide +kernel
theorem dX12_readIf_43 : decode cX12_readIf 43 = .ok (.ifCond .ne 8, 3) := by decide +kernel
theorem dX12_readIf_46 : decode cX12_readIf 46 = .ok (.aload_n 0, 1) := by decide +kernel
theorem dX12_readIf_47 : decode cX12_readIf 47 = .ok (.iconst 2, 1) := by decide +kernel
theorem dX12_readIf_48 : decode cX12_readIf 48 = .ok (.invokevirtual 141, 3) := by decide +kernel
theorem dX12_readIf_51 : decode cX12_readIf 51 = .ok (.aload_n 0, 1) := by decide +kernel
theorem dX12_readIf_52 : decode cX12_readIf 52 = .ok (.iload_n 1, 1) := by decide +kernel
theorem dX12_readIf_53 : decode cX12_readIf 53 = .ok (.iconst 1, 1) := by decide +kernel
theorem dX12_readIf_54 : decode cX12_readIf 54 = .ok (.iadd, 1) := by decide +kernel
theorem dX12_readIf_55 : decode cX12_readIf 55 = .ok (.invokevirtual 161, 3) := by decide +kernel
theorem dX12_readIf_58 : decode cX12_readIf 58 = .ok (.aload_n 0, 1) := by decide +kernel
theorem dX12_readIf_59 : decode cX12_readIf 59 = .ok (.bipush 18, 2) := by decide +kernel
theorem dX12_readIf_61 : decode cX12_readIf 61 = .ok (.invokevirtual 164, 3) := by decide +kernel
theorem dX12_readIf_64 : decode cX12_readIf 64 = .ok (.ifCond .ne 8, 3) := by decide +kernel
theorem dX12_readIf_67 : decode cX12_readIf 67 = .ok (.aload_n 0, 1) := by decide +kernel
theorem dX12_readIf_68 : decode cX12_readIf 68 = .ok (.iconst 2, 1) := by decide +kernel
theorem dX12_readIf_69 : decode cX12_readIf 69 = .ok (.invokevirtual 141, 3) := by decide +kernel
theorem dX12_readIf_72 : decode cX12_readIf 72 = .ok (.aload_n 0, 1) := by decide +kernel
theorem dX12_readIf_73 : decode cX12_readIf 73 = .ok (.sipush 3009, 3) := by decide +kernel
theorem dX12_readIf_76 : decode cX12_readIf 76 = .ok (.invokevirtual 152, 3) := by decide +kernel
theorem dX12_readIf_79 : decode cX12_readIf 79 = .ok (.return_, 1) := by decide +kernel
theorem dX12_readTerm_0 : decode cX12_readTerm 0 = .ok (.aload_n 0, 1) := by decide +kernel
theorem dX12_readTerm_1 : decode cX12_readTerm 1 = .ok (.iload_n 1, 1) := by decide +kernel
theorem dX12_readTerm_2 : decode cX12_readTerm 2 = .ok (.invokevirtual 173, 3) := by decide +kernel
theorem dX12_readTerm_5 : decode cX12_readTerm 5 = .ok (.aload_n 0, 1) := by decide +kernel
theorem dX12_readTerm_6 : decode cX12_readTerm 6 = .ok (.bipush 36, 2) := by decide +kernel
theorem dX12_readTerm_8 : decode cX12_readTerm 8 = .ok (.invokevirtual 164, 3) := by decide +kernel
theorem dX12_readTerm_11 : decode cX12_readTerm 11 = .ok (.ifCond .eq 18, 3) := by decide +kernel
theorem dX12_readTerm_14 : decode cX12_readTerm 14 = .ok (.aload_n 0, 1) := by decide +kernel
theorem dX12_readTerm_15 : decode cX12_readTerm 15 = .ok (.iload_n 1, 1) := by decide +kernel
theorem dX12_readTerm_16 : decode cX12_readTerm 16 = .ok (.invokevirtual 173, 3) := by decide +kernel
theorem dX12_readTerm_19 : decode cX12_readTerm 19 = .ok (.aload_n 0, 1) := by decide +kernel
theorem dX12_readTerm_20 : decode cX12_readTerm 20 = .ok (.sipush 3002, 3) := by decide +kernel
theorem dX12_readTerm_23 : decode cX12_readTerm 23 = .ok (.invokevirtual 152, 3) := by decide +kernel
theorem dX12_readTerm_26 : decode cX12_readTerm 26 = .ok (.goto (-21), 3) := by decide +kernel
theorem dX12_readTerm_29 : decode cX12_readTerm 29 = .ok (.return_, 1) := by decide +kernel
theorem dX12_readSum_0 : decode cX12_readSum 0 = .ok (.aload_n 0, 1) := by decide +kernel
theorem dX12_readSum_1 : decode cX12_readSum 1 = .ok (.iload_n 1, 1) := by decide +kernel
theorem dX12_readSum_2 : decode cX12_readSum 2 = .ok (.invokevirtual 176, 3) := by decide +kernel
theorem dX12_readSum_5 : decode cX12_readSum 5 = .ok (.aload_n 0, 1) := by decide +kernel
theorem dX12_readSum_6 : decode cX12_readSum 6 = .ok (.bipush 34, 2) := by decide +kernel
theorem dX12_readSum_8 : decode cX12_readSum 8 = .ok (.invokevirtual 135, 3) := by decide +kernel
theorem dX12_readSum_11 : decode cX12_readSum 11 = .ok (.ifCond .ne 12, 3) := by decide +kernel
theorem dX12_readSum_14 : decode cX12_readSum 14 = .ok (.aload_n 0, 1) := by decide +kernel
theorem dX12_readSum_15 : decode cX12_readSum 15 = .ok (.bipush 35, 2) := by decide +kernel
theorem dX12_readSum_17 : decode cX12_readSum 17 = .ok (.invokevirtual 135, 3) := by decide +kernel
theorem dX12_readSum_20 : decode cX12_readSum 20 = .ok (.ifCond .eq 39, 3) := by decide +kernel
theorem dX12_readSum_23 : decode cX12_readSum 23 = .ok (.aload_n 0, 1) := by decide +kernel
theorem dX12_readSum_24 : decode cX12_readSum 24 = .ok (.getfield 111, 3) := by decide +kernel
theorem dX12_readSum_27 : decode cX12_readSum 27 = .ok (.bipush 34, 2) := by decide +kernel
theorem dX12_readSum_29 : decode cX12_readSum 29 = .ok (.if_icmp .ne 9, 3) := by decide +kernel
theorem dX12_readSum_32 : decode cX12_readSum 32 = .ok (.sipush 3000, 3) := by decide +kernel
theorem dX12_readSum_35 : decode cX12_readSum 35 = .ok (.goto 6, 3) := by decide +kernel
theorem dX12_readSum_38 : decode cX12_readSum 38 = .ok (.sipush 3001, 3) := by decide +kernel
theorem dX12_readSum_41 : decode cX12_readSum 41 = .ok (.istore_n 2, 1) := by decide +kernel
theorem dX12_readSum_42 : decode cX12_readSum 42 = .ok (.aload_n 0, 1) := by decide +kernel
theorem dX12_readSum_43 : decode cX12_readSum 43 = .ok (.invokevirtual 138, 3) := by decide +kernel
theorem dX12_readSum_46 : decode cX12_readSum 46 = .ok (.aload_n 0, 1) := by decide +kernel
theorem dX12_readSum_47 : decode cX12_readSum 47 = .ok (.iload_n 1, 1) := by decide +kernel
theorem dX12_readSum_48 : decode cX12_readSum 48 = .ok (.invokevirtual 176, 3) := by decide +kernel
theorem dX12_readSum_51 : decode cX12_readSum 51 = .ok (.aload_n 0, 1) := by decide +kernel
theorem dX12_readSum_52 : decode cX12_readSum 52 = .ok (.iload_n 2, 1) := by decide +kernel
theorem dX12_readSum_53 : decode cX12_readSum 53 = .ok (.invokevirtual 152, 3) := by decide +kernel
theorem dX12_readSum_56 : decode cX12_readSum 56 = .ok (.goto (-51), 3) := by decide +kernel
theorem dX12_readSum_59 : decode cX12_readSum 59 = .ok (.return_, 1) := by decide +kernel
theorem dX12_readUnit_0 : decode cX12_readUnit 0 = .ok (.aload_n 0, 1) := by decide +kernel
theorem dX12_readUnit_1 : decode cX12_readUnit 1 = .ok (.bipush 26, 2) := by decide +kernel
theorem dX12_readUnit_3 : decode cX12_readUnit 3 = .ok (.invokevirtual 135, 3) := by decide +kernel
theorem dX12_readUnit_6 : decode cX12_readUnit 6 = .ok (.ifCond .eq 27, 3) := by decide +kernel
theorem dX12_readUnit_9 : decode cX12_readUnit 9 = .ok (.aload_n 0, 1) := by decide +kernel
theorem dX12_readUnit_10 : decode cX12_readUnit 10 = .ok (.iload_n 1, 1) := by decide +kernel
theorem dX12_readUnit_11 : decode cX12_readUnit 11 = .ok (.invokevirtual 158, 3) := by decide +kernel
theorem dX12_readUnit_14 : decode cX12_readUnit 14 = .ok (.ifCond .ne 4, 3) := by decide +kernel
theorem dX12_readUnit_17 : decode cX12_readUnit 17 = .ok (.return_, 1) := by decide +kernel
theorem dX12_readUnit_18 : decode cX12_readUnit 18 = .ok (.aload_n 0, 1) := by decide +kernel
theorem dX12_readUnit_19 : decode cX12_readUnit 19 = .ok (.iload_n 1, 1) := by decide +kernel
theorem dX12_readUnit_20 : decode cX12_readUnit 20 = .ok (.iconst 1, 1) := by decide +kernel
theorem dX12_readUnit_21 : decode cX12_readUnit 21 = .ok (.iadd, 1) := by decide +kernel
theorem dX12_readUnit_22 : decode cX12_readUnit 22 = .ok (.invokevirtual 179, 3) := by decide +kernel
theorem dX12_readUnit_25 : decode cX12_readUnit 25 = .ok (.aload_n 0, 1) := by decide +kernel
theorem dX12_readUnit_26 : decode cX12_readUnit 26 = .ok (.sipush 3006, 3) := by decide +kernel
theorem dX12_readUnit_29 : decode cX12_readUnit 29 = .ok (.invokevirtual 152, 3) := by decide +kernel
theorem dX12_readUnit_32 : decode cX12_readUnit 32 = .ok (.return_, 1) := by decide +kernel
theorem dX12_readUnit_33 : decode cX12_readUnit 33 = .ok (.aload_n 0, 1) := by decide +kernel
theorem dX12_readUnit_34 : decode cX12_readUnit 34 = .ok (.bipush 39, 2) := by decide +kernel
theorem dX12_readUnit_36 : decode cX12_readUnit 36 = .ok (.invokevirtual 135, 3) := by decide +kernel
theorem dX12_readUnit_39 : decode cX12_readUnit 39 = .ok (.ifCond .eq 34, 3) := by decide +kernel
theorem dX12_readUnit_42 : decode cX12_readUnit 42 = .ok (.aload_n 0, 1) := by decide +kernel
theorem dX12_readUnit_43 : decode cX12_readUnit 43 = .ok (.iload_n 1, 1) := by decide +kernel
theorem dX12_readUnit_44 : decode cX12_readUnit 44 = .ok (.invokevirtual 158, 3) := by decide +kernel
theorem dX12_readUnit_47 : decode cX12_readUnit 47 = .ok (.ifCond .ne 4, 3) := by decide +kernel
theorem dX12_readUnit_50 : decode cX12_readUnit 50 = .ok (.return_, 1) := by decide +kernel
theorem dX12_readUnit_51 : decode cX12_readUnit 51 = .ok (.aload_n 0, 1) := by decide +kernel
theorem dX12_readUnit_52 : decode cX12_readUnit 52 = .ok (.iload_n 1, 1) := by decide +kernel
theorem dX12_readUnit_53 : decode cX12_readUnit 53 = .ok (.iconst 1, 1) := by decide +kernel
theorem dX12_readUnit_54 : decode cX12_readUnit 54 = .ok (.iadd, 1) := by decide +kernel
theorem dX12_readUnit_55 : decode cX12_readUnit 55 = .ok (.invokevirtual 170, 3) := by decide +kernel
theorem dX12_readUnit_58 : decode cX12_readUnit 58 = .ok (.aload_n 0, 1) := by decide +kernel
theorem dX12_readUnit_59 : decode cX12_readUnit 59 = .ok (.bipush 40, 2) := by decide +kernel
theorem dX12_readUnit_61 : decode cX12_readUnit 61 = .ok (.invokevirtual 164, 3) := by decide +kernel
theorem dX12_readUnit_64 : decode cX12_readUnit 64 = .ok (.ifCond .ne 8, 3) := by decide +kernel
theorem dX12_readUnit_67 : decode cX12_readUnit 67 = .ok (.aload_n 0, 1) := by decide +kernel
theorem dX12_readUnit_68 : decode cX12_readUnit 68 = .ok (.iconst 2, 1) := by decide +kernel
theorem dX12_readUnit_69 : decode cX12_readUnit 69 = .ok (.invokevirtual 141, 3) := by decide +kernel
theorem dX12_readUnit_72 : decode cX12_readUnit 72 = .ok (.return_, 1) := by decide +kernel
theorem dX12_readUnit_73 : decode cX12_readUnit 73 = .ok (.aload_n 0, 1) := by decide +kernel
theorem dX12_readUnit_74 : decode cX12_readUnit 74 = .ok (.iload_n 1, 1) := by decide +kernel
theorem dX12_readUnit_75 : decode cX12_readUnit 75 = .ok (.invokevirtual 161, 3) := by decide +kernel
theorem dX12_readUnit_78 : decode cX12_readUnit 78 = .ok (.aload_n 0, 1) := by decide +kernel
theorem dX12_readUnit_79 : decode cX12_readUnit 79 = .ok (.bipush 41, 2) := by decide +kernel
theorem dX12_readUnit_81 : decode cX12_readUnit 81 = .ok (.invokevirtual 135, 3) := by decide +kernel
theorem dX12_readUnit_84 : decode cX12_readUnit 84 = .ok (.ifCond .eq 9, 3) := by decide +kernel
theorem dX12_readUnit_87 : decode cX12_readUnit 87 = .ok (.sipush 3003, 3) := by decide +kernel
theorem dX12_readUnit_90 : decode cX12_readUnit 90 = .ok (.goto 21, 3) := by decide +kernel
theorem dX12_readUnit_93 : decode cX12_readUnit 93 = .ok (.aload_n 0, 1) := by decide +kernel
theorem dX12_readUnit_94 : decode cX12_readUnit 94 = .ok (.bipush 42, 2) := by decide +kernel
theorem dX12_readUnit_96 : decode cX12_readUnit 96 = .ok (.invokevirtual 135, 3) := by decide +kernel
theorem dX12_readUnit_99 : decode cX12_readUnit 99 = .ok (.ifCond .eq 9, 3) := by decide +kernel
theorem dX12_readUnit_102 : decode cX12_readUnit 102 = .ok (.sipush 3004, 3) := by decide +kernel
theorem dX12_readUnit_105 : decode cX12_readUnit 105 = .ok (.goto 6, 3) := by decide +kernel
theorem dX12_readUnit_108 : decode cX12_readUnit 108 = .ok (.sipush 3005, 3) := by decide +kernel
theorem dX12_readUnit_111 : decode cX12_readUnit 111 = .ok (.istore_n 2, 1) := by decide +kernel
theorem dX12_readUnit_112 : decode cX12_readUnit 112 = .ok (.aload_n 0, 1) := by decide +kernel
theorem dX12_readUnit_113 : decode cX12_readUnit 113 = .ok (.bipush 41, 2) := by decide +kernel
theorem dX12_readUnit_115 : decode cX12_readUnit 115 = .ok (.invokevirtual 135, 3) := by decide +kernel
theorem dX12_readUnit_118 : decode cX12_readUnit 118 = .ok (.ifCond .ne 21, 3) := by decide +kernel
theorem dX12_readUnit_121 : decode cX12_readUnit 121 = .ok (.aload_n 0, 1) := by decide +kernel
theorem dX12_readUnit_122 : decode cX12_readUnit 122 = .ok (.bipush 42, 2) := by decide +kernel
theorem dX12_readUnit_124 : decode cX12_readUnit 124 = .ok (.invokevirtual 135, 3) := by decide +kernel
theorem dX12_readUnit_127 : decode cX12_readUnit 127 = .ok (.ifCond .ne 12, 3) := by decide +kernel
theorem dX12_readUnit_130 : decode cX12_readUnit 130 = .ok (.aload_n 0, 1) := by decide +kernel
theorem dX12_readUnit_131 : decode cX12_readUnit 131 = .ok (.bipush 43, 2) := by decide +kernel
theorem dX12_readUnit_133 : decode cX12_readUnit 133 = .ok (.invokevirtual 135, 3) := by decide +kernel
theorem dX12_readUnit_136 : decode cX12_readUnit 136 = .ok (.ifCond .eq 10, 3) := by decide +kernel
theorem dX12_readUnit_139 : decode cX12_readUnit 139 = .ok (.aload_n 0, 1) := by decide +kernel
theorem dX12_readUnit_140 : decode cX12_readUnit 140 = .ok (.invokevirtual 138, 3) := by decide +kernel
theorem dX12_readUnit_143 : decode cX12_readUnit 143 = .ok (.goto 8, 3) := by decide +kernel
theorem dX12_readUnit_146 : decode cX12_readUnit 146 = .ok (.aload_n 0, 1) := by decide +kernel
theorem dX12_readUnit_147 : decode cX12_readUnit 147 = .ok (.iconst 2, 1) := by decide +kernel
theorem dX12_readUnit_148 : decode cX12_readUnit 148 = .ok (.invokevirtual 141, 3) := by decide +kernel
theorem dX12_readUnit_151 : decode cX12_readUnit 151 = .ok (.aload_n 0, 1) := by decide +kernel
theorem dX12_readUnit_152 : decode cX12_readUnit 152 = .ok (.iload_n 1, 1) := by decide +kernel
theorem dX12_readUnit_153 : decode cX12_readUnit 153 = .ok (.invokevirtual 161, 3) := by decide +kernel
theorem dX12_readUnit_156 : decode cX12_readUnit 156 = .ok (.aload_n 0, 1) := by decide +kernel
theorem dX12_readUnit_157 : decode cX12_readUnit 157 = .ok (.iload_n 2, 1) := by decide +kernel
theorem dX12_readUnit_158 : decode cX12_readUnit 158 = .ok (.invokevirtual 152, 3) := by decide +kernel
theorem dX12_readUnit_161 : decode cX12_readUnit 161 = .ok (.return_, 1) := by decide +kernel
theorem dX12_readBoth_0 : decode cX12_readBoth 0 = .ok (.aload_n 0, 1) := by decide +kernel
theorem dX12_readBoth_1 : decode cX12_readBoth 1 = .ok (.iload_n 1, 1) := by decide +kernel
theorem dX12_readBoth_2 : decode cX12_readBoth 2 = .ok (.invokevirtual 179, 3) := by decide +kernel
theorem dX12_readBoth_5 : decode cX12_readBoth 5 = .ok (.aload_n 0, 1) := by decide +kernel
theorem dX12_readBoth_6 : decode cX12_readBoth 6 = .ok (.bipush 24, 2) := by decide +kernel
theorem dX12_readBoth_8 : decode cX12_readBoth 8 = .ok (.invokevirtual 164, 3) := by decide +kernel
theorem dX12_readBoth_11 : decode cX12_readBoth 11 = .ok (.ifCond .eq 18, 3) := by decide +kernel
theorem dX12_readBoth_14 : decode cX12_readBoth 14 = .ok (.aload_n 0, 1) := by decide +kernel
theorem dX12_readBoth_15 : decode cX12_readBoth 15 = .ok (.iload_n 1, 1) := by decide +kernel
theorem dX12_readBoth_16 : decode cX12_readBoth 16 = .ok (.invokevirtual 179, 3) := by decide +kernel
theorem dX12_readBoth_19 : decode cX12_readBoth 19 = .ok (.aload_n 0, 1) := by decide +kernel
theorem dX12_readBoth_20 : decode cX12_readBoth 20 = .ok (.sipush 3007, 3) := by decide +kernel
theorem dX12_readBoth_23 : decode cX12_readBoth 23 = .ok (.invokevirtual 152, 3) := by decide +kernel
theorem dX12_readBoth_26 : decode cX12_readBoth 26 = .ok (.goto (-21), 3) := by decide +kernel
theorem dX12_readBoth_29 : decode cX12_readBoth 29 = .ok (.return_, 1) := by decide +kernel
theorem dX12_readTruth_0 : decode cX12_readTruth 0 = .ok (.aload_n 0, 1) := by decide +kernel
theorem dX12_readTruth_1 : decode cX12_readTruth 1 = .ok (.iload_n 1, 1) := by decide +kernel
theorem dX12_readTruth_2 : decode cX12_readTruth 2 = .ok (.invokevirtual 182, 3) := by decide +kernel
theorem dX12_readTruth_5 : decode cX12_readTruth 5 = .ok (.aload_n 0, 1) := by decide +kernel
theorem dX12_readTruth_6 : decode cX12_readTruth 6 = .ok (.bipush 25, 2) := by decide +kernel
theorem dX12_readTruth_8 : decode cX12_readTruth 8 = .ok (.invokevirtual 164, 3) := by decide +kernel
theorem dX12_readTruth_11 : decode cX12_readTruth 11 = .ok (.ifCond .eq 18, 3) := by decide +kernel
theorem dX12_readTruth_14 : decode cX12_readTruth 14 = .ok (.aload_n 0, 1) := by decide +kernel
theorem dX12_readTruth_15 : decode cX12_readTruth 15 = .ok (.iload_n 1, 1) := by decide +kernel
theorem dX12_readTruth_16 : decode cX12_readTruth 16 = .ok (.invokevirtual 182, 3) := by decide +kernel
theorem dX12_readTruth_19 : decode cX12_readTruth 19 = .ok (.aload_n 0, 1) := by decide +kernel
theorem dX12_readTruth_20 : decode cX12_readTruth 20 = .ok (.sipush 3008, 3) := by decide +kernel
theorem dX12_readTruth_23 : decode cX12_readTruth 23 = .ok (.invokevirtual 152, 3) := by decide +kernel
theorem dX12_readTruth_26 : decode cX12_readTruth 26 = .ok (.goto (-21), 3) := by decide +kernel
theorem dX12_readTruth_29 : decode cX12_readTruth 29 = .ok (.return_, 1) := by decide +kernel
theorem dX12_cellsOf_0 : decode cX12_cellsOf 0 = .ok (.aload_n 1, 1) := by decide +kernel
theorem dX12_cellsOf_1 : decode cX12_cellsOf 1 = .ok (.iconst 1, 1) := by decide +kernel
theorem dX12_cellsOf_2 : decode cX12_cellsOf 2 = .ok (.iaload, 1) := by decide +kernel
theorem dX12_cellsOf_3 : decode cX12_cellsOf 3 = .ok (.aload_n 1, 1) := by decide +kernel
theorem dX12_cellsOf_4 : decode cX12_cellsOf 4 = .ok (.iconst 2, 1) := by decide +kernel
theorem dX12_cellsOf_5 : decode cX12_cellsOf 5 = .ok (.iaload, 1) := by decide +kernel
theorem dX12_cellsOf_6 : decode cX12_cellsOf 6 = .ok (.imul, 1) := by decide +kernel
theorem dX12_cellsOf_7 : decode cX12_cellsOf 7 = .ok (.ireturn, 1) := by decide +kernel
theorem dX12_named_0 : decode cX12_named 0 = .ok (.aload_n 0, 1) := by decide +kernel
theorem dX12_named_1 : decode cX12_named 1 = .ok (.iload_n 1, 1) := by decide +kernel
theorem dX12_named_2 : decode cX12_named 2 = .ok (.invokevirtual 164, 3) := by decide +kernel
theorem dX12_named_5 : decode cX12_named 5 = .ok (.ifCond .ne 8, 3) := by decide +kernel
theorem dX12_named_8 : decode cX12_named 8 = .ok (.aload_n 0, 1) := by decide +kernel
theorem dX12_named_9 : decode cX12_named 9 = .ok (.iconst 2, 1) := by decide +kernel
theorem dX12_named_10 : decode cX12_named 10 = .ok (.invokevirtual 141, 3) := by decide +kernel
theorem dX12_named_13 : decode cX12_named 13 = .ok (.aload_n 0, 1) := by decide +kernel
theorem dX12_named_14 : decode cX12_named 14 = .ok (.iload_n 2, 1) := by decide +kernel
theorem dX12_named_15 : decode cX12_named 15 = .ok (.iload_n 3, 1) := by decide +kernel
theorem dX12_named_16 : decode cX12_named 16 = .ok (.invokevirtual 185, 3) := by decide +kernel
theorem dX12_named_19 : decode cX12_named 19 = .ok (.ireturn, 1) := by decide +kernel
theorem dX12_takesCell_0 : decode cX12_takesCell 0 = .ok (.aload_n 0, 1) := by decide +kernel
theorem dX12_takesCell_1 : decode cX12_takesCell 1 = .ok (.iconst 0, 1) := by decide +kernel
theorem dX12_takesCell_2 : decode cX12_takesCell 2 = .ok (.aload_n 0, 1) := by decide +kernel
theorem dX12_takesCell_3 : decode cX12_takesCell 3 = .ok (.aload_n 0, 1) := by decide +kernel
theorem dX12_takesCell_4 : decode cX12_takesCell 4 = .ok (.getfield 24, 3) := by decide +kernel
theorem dX12_takesCell_7 : decode cX12_takesCell 7 = .ok (.invokevirtual 189, 3) := by decide +kernel
theorem dX12_takesCell_10 : decode cX12_takesCell 10 = .ok (.iconst 1, 1) := by decide +kernel
theorem dX12_takesCell_11 : decode cX12_takesCell 11 = .ok (.isub, 1) := by decide +kernel
theorem dX12_takesCell_12 : decode cX12_takesCell 12 = .ok (.invokevirtual 185, 3) := by decide +kernel
theorem dX12_takesCell_15 : decode cX12_takesCell 15 = .ok (.ireturn, 1) := by decide +kernel
theorem dX12_readSand_0 : decode cX12_readSand 0 = .ok (.aload_n 0, 1) := by decide +kernel
theorem dX12_readSand_1 : decode cX12_readSand 1 = .ok (.invokevirtual 138, 3) := by decide +kernel
theorem dX12_readSand_4 : decode cX12_readSand 4 = .ok (.aload_n 0, 1) := by decide +kernel
theorem dX12_readSand_5 : decode cX12_readSand 5 = .ok (.invokevirtual 193, 3) := by decide +kernel
theorem dX12_readSand_8 : decode cX12_readSand 8 = .ok (.istore_n 1, 1) := by decide +kernel
theorem dX12_readSand_9 : decode cX12_readSand 9 = .ok (.aload_n 0, 1) := by decide +kernel
theorem dX12_readSand_10 : decode cX12_readSand 10 = .ok (.iconst 0, 1) := by decide +kernel
theorem dX12_readSand_11 : decode cX12_readSand 11 = .ok (.bipush 9, 2) := by decide +kernel
theorem dX12_readSand_13 : decode cX12_readSand 13 = .ok (.invokevirtual 185, 3) := by decide +kernel
theorem dX12_readSand_16 : decode cX12_readSand 16 = .ok (.istore_n 2, 1) := by decide +kernel
theorem dX12_readSand_17 : decode cX12_readSand 17 = .ok (.aload_n 0, 1) := by decide +kernel
theorem dX12_readSand_18 : decode cX12_readSand 18 = .ok (.getfield 129, 3) := by decide +kernel
theorem dX12_readSand_21 : decode cX12_readSand 21 = .ok (.ifCond .ne 13, 3) := by decide +kernel
theorem dX12_readSand_24 : decode cX12_readSand 24 = .ok (.aload_n 0, 1) := by decide +kernel
theorem dX12_readSand_25 : decode cX12_readSand 25 = .ok (.getfield 24, 3) := by decide +kernel
theorem dX12_readSand_28 : decode cX12_readSand 28 = .ok (.bipush 67, 2) := by decide +kernel
theorem dX12_readSand_30 : decode cX12_readSand 30 = .ok (.iload_n 1, 1) := by decide +kernel
theorem dX12_readSand_31 : decode cX12_readSand 31 = .ok (.iadd, 1) := by decide +kernel
theorem dX12_readSand_32 : decode cX12_readSand 32 = .ok (.iload_n 2, 1) := by decide +kernel
theorem dX12_readSand_33 : decode cX12_readSand 33 = .ok (.iastore, 1) := by decide +kernel
theorem dX12_readSand_34 : decode cX12_readSand 34 = .ok (.return_, 1) := by decide +kernel
theorem dX12_isBuiltOn_0 : decode cX12_isBuiltOn 0 = .ok (.iconst 0, 1) := by decide +kernel
theorem dX12_isBuiltOn_1 : decode cX12_isBuiltOn 1 = .ok (.istore_n 2, 1) := by decide +kernel
theorem dX12_isBuiltOn_2 : decode cX12_isBuiltOn 2 = .ok (.iload_n 2, 1) := by decide +kernel
theorem dX12_isBuiltOn_3 : decode cX12_isBuiltOn 3 = .ok (.aload_n 0, 1) := by decide +kernel
theorem dX12_isBuiltOn_4 : decode cX12_isBuiltOn 4 = .ok (.getfield 24, 3) := by decide +kernel
theorem dX12_isBuiltOn_7 : decode cX12_isBuiltOn 7 = .ok (.bipush 92, 2) := by decide +kernel
theorem dX12_isBuiltOn_9 : decode cX12_isBuiltOn 9 = .ok (.iaload, 1) := by decide +kernel
theorem dX12_isBuiltOn_10 : decode cX12_isBuiltOn 10 = .ok (.if_icmp .ge 26, 3) := by decide +kernel
theorem dX12_isBuiltOn_13 : decode cX12_isBuiltOn 13 = .ok (.aload_n 0, 1) := by decide +kernel
theorem dX12_isBuiltOn_14 : decode cX12_isBuiltOn 14 = .ok (.getfield 24, 3) := by decide +kernel
theorem dX12_isBuiltOn_17 : decode cX12_isBuiltOn 17 = .ok (.bipush 93, 2) := by decide +kernel
theorem dX12_isBuiltOn_19 : decode cX12_isBuiltOn 19 = .ok (.iconst 2, 1) := by decide +kernel
theorem dX12_isBuiltOn_20 : decode cX12_isBuiltOn 20 = .ok (.iload_n 2, 1) := by decide +kernel
theorem dX12_isBuiltOn_21 : decode cX12_isBuiltOn 21 = .ok (.imul, 1) := by decide +kernel
theorem dX12_isBuiltOn_22 : decode cX12_isBuiltOn 22 = .ok (.iadd, 1) := by decide +kernel
theorem dX12_isBuiltOn_23 : decode cX12_isBuiltOn 23 = .ok (.iaload, 1) := by decide +kernel
theorem dX12_isBuiltOn_24 : decode cX12_isBuiltOn 24 = .ok (.iload_n 1, 1) := by decide +kernel
theorem dX12_isBuiltOn_25 : decode cX12_isBuiltOn 25 = .ok (.if_icmp .ne 5, 3) := by decide +kernel
theorem dX12_isBuiltOn_28 : decode cX12_isBuiltOn 28 = .ok (.iconst 1, 1) := by decide +kernel
theorem dX12_isBuiltOn_29 : decode cX12_isBuiltOn 29 = .ok (.ireturn, 1) := by decide +kernel
theorem dX12_isBuiltOn_30 : decode cX12_isBuiltOn 30 = .ok (.iinc 2 1, 3) := by decide +kernel
theorem dX12_isBuiltOn_33 : decode cX12_isBuiltOn 33 = .ok (.goto (-31), 3) := by decide +kernel
theorem dX12_isBuiltOn_36 : decode cX12_isBuiltOn 36 = .ok (.iconst 0, 1) := by decide +kernel
theorem dX12_isBuiltOn_37 : decode cX12_isBuiltOn 37 = .ok (.ireturn, 1) := by decide +kernel
theorem dX12_readHouse_0 : decode cX12_readHouse 0 = .ok (.aload_n 0, 1) := by decide +kernel
theorem dX12_readHouse_1 : decode cX12_readHouse 1 = .ok (.getfield 24, 3) := by decide +kernel
theorem dX12_readHouse_4 : decode cX12_readHouse 4 = .ok (.bipush 92, 2) := by decide +kernel
theorem dX12_readHouse_6 : decode cX12_readHouse 6 = .ok (.iaload, 1) := by decide +kernel
theorem dX12_readHouse_7 : decode cX12_readHouse 7 = .ok (.istore_n 1, 1) := by decide +kernel
theorem dX12_readHouse_8 : decode cX12_readHouse 8 = .ok (.iload_n 1, 1) := by decide +kernel
theorem dX12_readHouse_9 : decode cX12_readHouse 9 = .ok (.bipush 6, 2) := by decide +kernel
theorem dX12_readHouse_11 : decode cX12_readHouse 11 = .ok (.if_icmp .ne 8, 3) := by decide +kernel
theorem dX12_readHouse_14 : decode cX12_readHouse 14 = .ok (.aload_n 0, 1) := by decide +kernel
theorem dX12_readHouse_15 : decode cX12_readHouse 15 = .ok (.iconst 4, 1) := by decide +kernel
theorem dX12_readHouse_16 : decode cX12_readHouse 16 = .ok (.invokevirtual 141, 3) := by decide +kernel
theorem dX12_readHouse_19 : decode cX12_readHouse 19 = .ok (.aload_n 0, 1) := by decide +kernel
theorem dX12_readHouse_20 : decode cX12_readHouse 20 = .ok (.getfield 129, 3) := by decide +kernel
theorem dX12_readHouse_23 : decode cX12_readHouse 23 = .ok (.ifCond .eq 4, 3) := by decide +kernel
theorem dX12_readHouse_26 : decode cX12_readHouse 26 = .ok (.return_, 1) := by decide +kernel
theorem dX12_readHouse_27 : decode cX12_readHouse 27 = .ok (.aload_n 0, 1) := by decide +kernel
theorem dX12_readHouse_28 : decode cX12_readHouse 28 = .ok (.invokevirtual 138, 3) := by decide +kernel
theorem dX12_readHouse_31 : decode cX12_readHouse 31 = .ok (.aload_n 0, 1) := by decide +kernel
theorem dX12_readHouse_32 : decode cX12_readHouse 32 = .ok (.bipush 29, 2) := by decide +kernel
theorem dX12_readHouse_34 : decode cX12_readHouse 34 = .ok (.invokevirtual 135, 3) := by decide +kernel
theorem dX12_readHouse_37 : decode cX12_readHouse 37 = .ok (.ifCond .eq 19, 3) := by decide +kernel
theorem dX12_readHouse_40 : decode cX12_readHouse 40 = .ok (.aload_n 0, 1) := by decide +kernel
theorem dX12_readHouse_41 : decode cX12_readHouse 41 = .ok (.aload_n 0, 1) := by decide +kernel
theorem dX12_readHouse_42 : decode cX12_readHouse 42 = .ok (.getfield 124, 3) := by decide +kernel
theorem dX12_readHouse_45 : decode cX12_readHouse 45 = .ok (.invokevirtual 196, 3) := by decide +kernel
theorem dX12_readHouse_48 : decode cX12_readHouse 48 = .ok (.ifCond .eq 8, 3) := by decide +kernel
theorem dX12_readHouse_51 : decode cX12_readHouse 51 = .ok (.aload_n 0, 1) := by decide +kernel
theorem dX12_readHouse_52 : decode cX12_readHouse 52 = .ok (.iconst 3, 1) := by decide +kernel
theorem dX12_readHouse_53 : decode cX12_readHouse 53 = .ok (.invokevirtual 141, 3) := by decide +kernel
theorem dX12_readHouse_56 : decode cX12_readHouse 56 = .ok (.aload_n 0, 1) := by decide +kernel
theorem dX12_readHouse_57 : decode cX12_readHouse 57 = .ok (.getfield 24, 3) := by decide +kernel
theorem dX12_readHouse_60 : decode cX12_readHouse 60 = .ok (.bipush 93, 2) := by decide +kernel
theorem dX12_readHouse_62 : decode cX12_readHouse 62 = .ok (.iconst 2, 1) := by decide +kernel
theorem dX12_readHouse_63 : decode cX12_readHouse 63 = .ok (.iload_n 1, 1) := by decide +kernel
theorem dX12_readHouse_64 : decode cX12_readHouse 64 = .ok (.imul, 1) := by decide +kernel
theorem dX12_readHouse_65 : decode cX12_readHouse 65 = .ok (.iadd, 1) := by decide +kernel
theorem dX12_readHouse_66 : decode cX12_readHouse 66 = .ok (.aload_n 0, 1) := by decide +kernel
theorem dX12_readHouse_67 : decode cX12_readHouse 67 = .ok (.invokevirtual 193, 3) := by decide +kernel
theorem dX12_readHouse_70 : decode cX12_readHouse 70 = .ok (.iastore, 1) := by decide +kernel
theorem dX12_readHouse_71 : decode cX12_readHouse 71 = .ok (.aload_n 0, 1) := by decide +kernel
theorem dX12_readHouse_72 : decode cX12_readHouse 72 = .ok (.getfield 24, 3) := by decide +kernel
theorem dX12_readHouse_75 : decode cX12_readHouse 75 = .ok (.bipush 93, 2) := by decide +kernel
theorem dX12_readHouse_77 : decode cX12_readHouse 77 = .ok (.iconst 2, 1) := by decide +kernel
theorem dX12_readHouse_78 : decode cX12_readHouse 78 = .ok (.iload_n 1, 1) := by decide +kernel
theorem dX12_readHouse_79 : decode cX12_readHouse 79 = .ok (.imul, 1) := by decide +kernel
theorem dX12_readHouse_80 : decode cX12_readHouse 80 = .ok (.iadd, 1) := by decide +kernel
theorem dX12_readHouse_81 : decode cX12_readHouse 81 = .ok (.iconst 1, 1) := by decide +kernel
theorem dX12_readHouse_82 : decode cX12_readHouse 82 = .ok (.iadd, 1) := by decide +kernel
theorem dX12_readHouse_83 : decode cX12_readHouse 83 = .ok (.aload_n 0, 1) := by decide +kernel
theorem dX12_readHouse_84 : decode cX12_readHouse 84 = .ok (.iconst 5, 1) := by decide +kernel
theorem dX12_readHouse_85 : decode cX12_readHouse 85 = .ok (.iconst 0, 1) := by decide +kernel
theorem dX12_readHouse_86 : decode cX12_readHouse 86 = .ok (.iconst 4, 1) := by decide +kernel
theorem dX12_readHouse_87 : decode cX12_readHouse 87 = .ok (.invokevirtual 199, 3) := by decide +kernel
theorem dX12_readHouse_90 : decode cX12_readHouse 90 = .ok (.iastore, 1) := by decide +kernel
theorem dX12_readHouse_91 : decode cX12_readHouse 91 = .ok (.aload_n 0, 1) := by decide +kernel
theorem dX12_readHouse_92 : decode cX12_readHouse 92 = .ok (.getfield 129, 3) := by decide +kernel
theorem dX12_readHouse_95 : decode cX12_readHouse 95 = .ok (.ifCond .ne 14, 3) := by decide +kernel
theorem dX12_readHouse_98 : decode cX12_readHouse 98 = .ok (.aload_n 0, 1) := by decide +kernel
theorem dX12_readHouse_99 : decode cX12_readHouse 99 = .ok (.getfield 24, 3) := by decide +kernel
theorem dX12_readHouse_102 : decode cX12_readHouse 102 = .ok (.bipush 92, 2) := by decide +kernel
theorem dX12_readHouse_104 : decode cX12_readHouse 104 = .ok (.dup2, 1) := by decide +kernel
theorem dX12_readHouse_105 : decode cX12_readHouse 105 = .ok (.iaload, 1) := by decide +kernel
theorem dX12_readHouse_106 : decode cX12_readHouse 106 = .ok (.iconst 1, 1) := by decide +kernel
theorem dX12_readHouse_107 : decode cX12_readHouse 107 = .ok (.iadd, 1) := by decide +kernel
theorem dX12_readHouse_108 : decode cX12_readHouse 108 = .ok (.iastore, 1) := by decide +kernel
theorem dX12_readHouse_109 : decode cX12_readHouse 109 = .ok (.return_, 1) := by decide +kernel
theorem dX12_readPlot_0 : decode cX12_readPlot 0 = .ok (.bipush 13, 2) := by decide +kernel
theorem dX12_readPlot_2 : decode cX12_readPlot 2 = .ok (.iconst 3, 1) := by decide +kernel
theorem dX12_readPlot_3 : decode cX12_readPlot 3 = .ok (.aload_n 0, 1) := by decide +kernel
theorem dX12_readPlot_4 : decode cX12_readPlot 4 = .ok (.getfield 24, 3) := by decide +kernel
theorem dX12_readPlot_7 : decode cX12_readPlot 7 = .ok (.iconst 4, 1) := by decide +kernel
theorem dX12_readPlot_8 : decode cX12_readPlot 8 = .ok (.iaload, 1) := by decide +kernel
theorem dX12_readPlot_9 : decode cX12_readPlot 9 = .ok (.imul, 1) := by decide +kernel
theorem dX12_readPlot_10 : decode cX12_readPlot 10 = .ok (.iadd, 1) := by decide +kernel
theorem dX12_readPlot_11 : decode cX12_readPlot 11 = .ok (.istore_n 1, 1) := by decide +kernel
theorem dX12_readPlot_12 : decode cX12_readPlot 12 = .ok (.aload_n 0, 1) := by decide +kernel
theorem dX12_readPlot_13 : decode cX12_readPlot 13 = .ok (.getfield 24, 3) := by decide +kernel
theorem dX12_readPlot_16 : decode cX12_readPlot 16 = .ok (.iconst 4, 1) := by decide +kernel
theorem dX12_readPlot_17 : decode cX12_readPlot 17 = .ok (.iaload, 1) := by decide +kernel
theorem dX12_readPlot_18 : decode cX12_readPlot 18 = .ok (.bipush 6, 2) := by decide +kernel
theorem dX12_readPlot_20 : decode cX12_readPlot 20 = .ok (.if_icmp .ne 8, 3) := by decide +kernel
theorem dX12_readPlot_23 : decode cX12_readPlot 23 = .ok (.aload_n 0, 1) := by decide +kernel
theorem dX12_readPlot_24 : decode cX12_readPlot 24 = .ok (.iconst 4, 1) := by decide +kernel
theorem dX12_readPlot_25 : decode cX12_readPlot 25 = .ok (.invokevirtual 141, 3) := by decide +kernel
theorem dX12_readPlot_28 : decode cX12_readPlot 28 = .ok (.aload_n 0, 1) := by decide +kernel
theorem dX12_readPlot_29 : decode cX12_readPlot 29 = .ok (.getfield 129, 3) := by decide +kernel
theorem dX12_readPlot_32 : decode cX12_readPlot 32 = .ok (.ifCond .eq 4, 3) := by decide +kernel
theorem dX12_readPlot_35 : decode cX12_readPlot 35 = .ok (.return_, 1) := by decide +kernel
theorem dX12_readPlot_36 : decode cX12_readPlot 36 = .ok (.aload_n 0, 1) := by decide +kernel
theorem dX12_readPlot_37 : decode cX12_readPlot 37 = .ok (.invokevirtual 138, 3) := by decide +kernel
theorem dX12_readPlot_40 : decode cX12_readPlot 40 = .ok (.aload_n 0, 1) := by decide +kernel
theorem dX12_readPlot_41 : decode cX12_readPlot 41 = .ok (.getfield 24, 3) := by decide +kernel
theorem dX12_readPlot_44 : decode cX12_readPlot 44 = .ok (.iload_n 1, 1) := by decide +kernel
theorem dX12_readPlot_45 : decode cX12_readPlot 45 = .ok (.aload_n 0, 1) := by decide +kernel
theorem dX12_readPlot_46 : decode cX12_readPlot 46 = .ok (.invokevirtual 193, 3) := by decide +kernel
theorem dX12_readPlot_49 : decode cX12_readPlot 49 = .ok (.iastore, 1) := by decide +kernel
theorem dX12_readPlot_50 : decode cX12_readPlot 50 = .ok (.aload_n 0, 1) := by decide +kernel
theorem dX12_readPlot_51 : decode cX12_readPlot 51 = .ok (.getfield 24, 3) := by decide +kernel
theorem dX12_readPlot_54 : decode cX12_readPlot 54 = .ok (.iload_n 1, 1) := by decide +kernel
theorem dX12_readPlot_55 : decode cX12_readPlot 55 = .ok (.iconst 1, 1) := by decide +kernel
theorem dX12_readPlot_56 : decode cX12_readPlot 56 = .ok (.iadd, 1) := by decide +kernel
theorem dX12_readPlot_57 : decode cX12_readPlot 57 = .ok (.aload_n 0, 1) := by decide +kernel
theorem dX12_readPlot_58 : decode cX12_readPlot 58 = .ok (.bipush 7, 2) := by decide +kernel
theorem dX12_readPlot_60 : decode cX12_readPlot 60 = .ok (.iconst 1, 1) := by decide +kernel
theorem dX12_readPlot_61 : decode cX12_readPlot 61 = .ok (.bipush 9, 2) := by decide +kernel
theorem dX12_readPlot_63 : decode cX12_readPlot 63 = .ok (.invokevirtual 199, 3) := by decide +kernel
theorem dX12_readPlot_66 : decode cX12_readPlot 66 = .ok (.iastore, 1) := by decide +kernel
theorem dX12_readPlot_67 : decode cX12_readPlot 67 = .ok (.aload_n 0, 1) := by decide +kernel
theorem dX12_readPlot_68 : decode cX12_readPlot 68 = .ok (.getfield 24, 3) := by decide +kernel
theorem dX12_readPlot_71 : decode cX12_readPlot 71 = .ok (.iload_n 1, 1) := by decide +kernel
theorem dX12_readPlot_72 : decode cX12_readPlot 72 = .ok (.iconst 2, 1) := by decide +kernel
theorem dX12_readPlot_73 : decode cX12_readPlot 73 = .ok (.iadd, 1) := by decide +kernel
theorem dX12_readPlot_74 : decode cX12_readPlot 74 = .ok (.aload_n 0, 1) := by decide +kernel
theorem dX12_readPlot_75 : decode cX12_readPlot 75 = .ok (.bipush 8, 2) := by decide +kernel
theorem dX12_readPlot_77 : decode cX12_readPlot 77 = .ok (.iconst 0, 1) := by decide +kernel
theorem dX12_readPlot_78 : decode cX12_readPlot 78 = .ok (.bipush 9, 2) := by decide +kernel
theorem dX12_readPlot_80 : decode cX12_readPlot 80 = .ok (.invokevirtual 199, 3) := by decide +kernel
theorem dX12_readPlot_83 : decode cX12_readPlot 83 = .ok (.iastore, 1) := by decide +kernel
theorem dX12_readPlot_84 : decode cX12_readPlot 84 = .ok (.aload_n 0, 1) := by decide +kernel
theorem dX12_readPlot_85 : decode cX12_readPlot 85 = .ok (.getfield 129, 3) := by decide +kernel
theorem dX12_readPlot_88 : decode cX12_readPlot 88 = .ok (.ifCond .ne 13, 3) := by decide +kernel
theorem dX12_readPlot_91 : decode cX12_readPlot 91 = .ok (.aload_n 0, 1) := by decide +kernel
theorem dX12_readPlot_92 : decode cX12_readPlot 92 = .ok (.getfield 24, 3) := by decide +kernel
theorem dX12_readPlot_95 : decode cX12_readPlot 95 = .ok (.iconst 4, 1) := by decide +kernel
theorem dX12_readPlot_96 : decode cX12_readPlot 96 = .ok (.dup2, 1) := by decide +kernel
theorem dX12_readPlot_97 : decode cX12_readPlot 97 = .ok (.iaload, 1) := by decide +kernel
theorem dX12_readPlot_98 : decode cX12_readPlot 98 = .ok (.iconst 1, 1) := by decide +kernel
theorem dX12_readPlot_99 : decode cX12_readPlot 99 = .ok (.iadd, 1) := by decide +kernel
theorem dX12_readPlot_100 : decode cX12_readPlot 100 = .ok (.iastore, 1) := by decide +kernel
theorem dX12_readPlot_101 : decode cX12_readPlot 101 = .ok (.return_, 1) := by decide +kernel
theorem dX12_readPaper_0 : decode cX12_readPaper 0 = .ok (.bipush 31, 2) := by decide +kernel
theorem dX12_readPaper_2 : decode cX12_readPaper 2 = .ok (.iconst 2, 1) := by decide +kernel
theorem dX12_readPaper_3 : decode cX12_readPaper 3 = .ok (.aload_n 0, 1) := by decide +kernel
theorem dX12_readPaper_4 : decode cX12_readPaper 4 = .ok (.getfield 24, 3) := by decide +kernel
theorem dX12_readPaper_7 : decode cX12_readPaper 7 = .ok (.iconst 5, 1) := by decide +kernel
theorem dX12_readPaper_8 : decode cX12_readPaper 8 = .ok (.iaload, 1) := by decide +kernel
theorem dX12_readPaper_9 : decode cX12_readPaper 9 = .ok (.imul, 1) := by decide +kernel
theorem dX12_readPaper_10 : decode cX12_readPaper 10 = .ok (.iadd, 1) := by decide +kernel
theorem dX12_readPaper_11 : decode cX12_readPaper 11 = .ok (.istore_n 1, 1) := by decide +kernel
theorem dX12_readPaper_12 : decode cX12_readPaper 12 = .ok (.aload_n 0, 1) := by decide +kernel
theorem dX12_readPaper_13 : decode cX12_readPaper 13 = .ok (.getfield 24, 3) := by decide +kernel
theorem dX12_readPaper_16 : decode cX12_readPaper 16 = .ok (.iconst 5, 1) := by decide +kernel
theorem dX12_readPaper_17 : decode cX12_readPaper 17 = .ok (.iaload, 1) := by decide +kernel
theorem dX12_readPaper_18 : decode cX12_readPaper 18 = .ok (.bipush 6, 2) := by decide +kernel
theorem dX12_readPaper_20 : decode cX12_readPaper 20 = .ok (.if_icmp .ne 8, 3) := by decide +kernel
theorem dX12_readPaper_23 : decode cX12_readPaper 23 = .ok (.aload_n 0, 1) := by decide +kernel
theorem dX12_readPaper_24 : decode cX12_readPaper 24 = .ok (.iconst 4, 1) := by decide +kernel
theorem dX12_readPaper_25 : decode cX12_readPaper 25 = .ok (.invokevirtual 141, 3) := by decide +kernel
theorem dX12_readPaper_28 : decode cX12_readPaper 28 = .ok (.aload_n 0, 1) := by decide +kernel
theorem dX12_readPaper_29 : decode cX12_readPaper 29 = .ok (.getfield 129, 3) := by decide +kernel
theorem dX12_readPaper_32 : decode cX12_readPaper 32 = .ok (.ifCond .eq 4, 3) := by decide +kernel
theorem dX12_readPaper_35 : decode cX12_readPaper 35 = .ok (.return_, 1) := by decide +kernel
theorem dX12_readPaper_36 : decode cX12_readPaper 36 = .ok (.aload_n 0, 1) := by decide +kernel
theorem dX12_readPaper_37 : decode cX12_readPaper 37 = .ok (.invokevirtual 138, 3) := by decide +kernel
theorem dX12_readPaper_40 : decode cX12_readPaper 40 = .ok (.aload_n 0, 1) := by decide +kernel
theorem dX12_readPaper_41 : decode cX12_readPaper 41 = .ok (.getfield 24, 3) := by decide +kernel
theorem dX12_readPaper_44 : decode cX12_readPaper 44 = .ok (.iload_n 1, 1) := by decide +kernel
theorem dX12_readPaper_45 : decode cX12_readPaper 45 = .ok (.aload_n 0, 1) := by decide +kernel
theorem dX12_readPaper_46 : decode cX12_readPaper 46 = .ok (.invokevirtual 193, 3) := by decide +kernel
theorem dX12_readPaper_49 : decode cX12_readPaper 49 = .ok (.iastore, 1) := by decide +kernel
theorem dX12_readPaper_50 : decode cX12_readPaper 50 = .ok (.aload_n 0, 1) := by decide +kernel
theorem dX12_readPaper_51 : decode cX12_readPaper 51 = .ok (.getfield 24, 3) := by decide +kernel
theorem dX12_readPaper_54 : decode cX12_readPaper 54 = .ok (.iload_n 1, 1) := by decide +kernel
theorem dX12_readPaper_55 : decode cX12_readPaper 55 = .ok (.iconst 1, 1) := by decide +kernel
theorem dX12_readPaper_56 : decode cX12_readPaper 56 = .ok (.iadd, 1) := by decide +kernel
theorem dX12_readPaper_57 : decode cX12_readPaper 57 = .ok (.aload_n 0, 1) := by decide +kernel
theorem dX12_readPaper_58 : decode cX12_readPaper 58 = .ok (.invokevirtual 193, 3) := by decide +kernel
theorem dX12_readPaper_61 : decode cX12_readPaper 61 = .ok (.iastore, 1) := by decide +kernel
theorem dX12_readPaper_62 : decode cX12_readPaper 62 = .ok (.aload_n 0, 1) := by decide +kernel
theorem dX12_readPaper_63 : decode cX12_readPaper 63 = .ok (.getfield 129, 3) := by decide +kernel
theorem dX12_readPaper_66 : decode cX12_readPaper 66 = .ok (.ifCond .ne 13, 3) := by decide +kernel
theorem dX12_readPaper_69 : decode cX12_readPaper 69 = .ok (.aload_n 0, 1) := by decide +kernel
theorem dX12_readPaper_70 : decode cX12_readPaper 70 = .ok (.getfield 24, 3) := by decide +kernel
theorem dX12_readPaper_73 : decode cX12_readPaper 73 = .ok (.iconst 5, 1) := by decide +kernel
theorem dX12_readPaper_74 : decode cX12_readPaper 74 = .ok (.dup2, 1) := by decide +kernel
theorem dX12_readPaper_75 : decode cX12_readPaper 75 = .ok (.iaload, 1) := by decide +kernel
theorem dX12_readPaper_76 : decode cX12_readPaper 76 = .ok (.iconst 1, 1) := by decide +kernel
theorem dX12_readPaper_77 : decode cX12_readPaper 77 = .ok (.iadd, 1) := by decide +kernel
theorem dX12_readPaper_78 : decode cX12_readPaper 78 = .ok (.iastore, 1) := by decide +kernel
theorem dX12_readPaper_79 : decode cX12_readPaper 79 = .ok (.return_, 1) := by decide +kernel
theorem dX12_readOwes_0 : decode cX12_readOwes 0 = .ok (.bipush 43, 2) := by decide +kernel
theorem dX12_readOwes_2 : decode cX12_readOwes 2 = .ok (.iconst 3, 1) := by decide +kernel
theorem dX12_readOwes_3 : decode cX12_readOwes 3 = .ok (.aload_n 0, 1) := by decide +kernel
theorem dX12_readOwes_4 : decode cX12_readOwes 4 = .ok (.getfield 24, 3) := by decide +kernel
theorem dX12_readOwes_7 : decode cX12_readOwes 7 = .ok (.bipush 6, 2) := by decide +kernel
theorem dX12_readOwes_9 : decode cX12_readOwes 9 = .ok (.iaload, 1) := by decide +kernel
theorem dX12_readOwes_10 : decode cX12_readOwes 10 = .ok (.imul, 1) := by decide +kernel
theorem dX12_readOwes_11 : decode cX12_readOwes 11 = .ok (.iadd, 1) := by decide +kernel
theorem dX12_readOwes_12 : decode cX12_readOwes 12 = .ok (.istore_n 1, 1) := by decide +kernel
theorem dX12_readOwes_13 : decode cX12_readOwes 13 = .ok (.aload_n 0, 1) := by decide +kernel
theorem dX12_readOwes_14 : decode cX12_readOwes 14 = .ok (.getfield 24, 3) := by decide +kernel
theorem dX12_readOwes_17 : decode cX12_readOwes 17 = .ok (.bipush 6, 2) := by decide +kernel
theorem dX12_readOwes_19 : decode cX12_readOwes 19 = .ok (.iaload, 1) := by decide +kernel
theorem dX12_readOwes_20 : decode cX12_readOwes 20 = .ok (.bipush 8, 2) := by decide +kernel
theorem dX12_readOwes_22 : decode cX12_readOwes 22 = .ok (.if_icmp .ne 8, 3) := by decide +kernel
theorem dX12_readOwes_25 : decode cX12_readOwes 25 = .ok (.aload_n 0, 1) := by decide +kernel
theorem dX12_readOwes_26 : decode cX12_readOwes 26 = .ok (.iconst 4, 1) := by decide +kernel
theorem dX12_readOwes_27 : decode cX12_readOwes 27 = .ok (.invokevirtual 141, 3) := by decide +kernel
theorem dX12_readOwes_30 : decode cX12_readOwes 30 = .ok (.aload_n 0, 1) := by decide +kernel
theorem dX12_readOwes_31 : decode cX12_readOwes 31 = .ok (.getfield 129, 3) := by decide +kernel
theorem dX12_readOwes_34 : decode cX12_readOwes 34 = .ok (.ifCond .eq 4, 3) := by decide +kernel
theorem dX12_readOwes_37 : decode cX12_readOwes 37 = .ok (.return_, 1) := by decide +kernel
theorem dX12_readOwes_38 : decode cX12_readOwes 38 = .ok (.aload_n 0, 1) := by decide +kernel
theorem dX12_readOwes_39 : decode cX12_readOwes 39 = .ok (.invokevirtual 138, 3) := by decide +kernel
theorem dX12_readOwes_42 : decode cX12_readOwes 42 = .ok (.aload_n 0, 1) := by decide +kernel
theorem dX12_readOwes_43 : decode cX12_readOwes 43 = .ok (.getfield 24, 3) := by decide +kernel
theorem dX12_readOwes_46 : decode cX12_readOwes 46 = .ok (.iload_n 1, 1) := by decide +kernel
theorem dX12_readOwes_47 : decode cX12_readOwes 47 = .ok (.aload_n 0, 1) := by decide +kernel
theorem dX12_readOwes_48 : decode cX12_readOwes 48 = .ok (.iconst 0, 1) := by decide +kernel
theorem dX12_readOwes_49 : decode cX12_readOwes 49 = .ok (.iconst 4, 1) := by decide +kernel
theorem dX12_readOwes_50 : decode cX12_readOwes 50 = .ok (.invokevirtual 185, 3) := by decide +kernel
theorem dX12_readOwes_53 : decode cX12_readOwes 53 = .ok (.iastore, 1) := by decide +kernel
theorem dX12_readOwes_54 : decode cX12_readOwes 54 = .ok (.aload_n 0, 1) := by decide +kernel
theorem dX12_readOwes_55 : decode cX12_readOwes 55 = .ok (.bipush 29, 2) := by decide +kernel
theorem dX12_readOwes_57 : decode cX12_readOwes 57 = .ok (.invokevirtual 135, 3) := by decide +kernel
theorem dX12_readOwes_60 : decode cX12_readOwes 60 = .ok (.ifCond .eq 21, 3) := by decide +kernel
theorem dX12_readOwes_63 : decode cX12_readOwes 63 = .ok (.aload_n 0, 1) := by decide +kernel
theorem dX12_readOwes_64 : decode cX12_readOwes 64 = .ok (.getfield 124, 3) := by decide +kernel
theorem dX12_readOwes_67 : decode cX12_readOwes 67 = .ok (.aload_n 0, 1) := by decide +kernel
theorem dX12_readOwes_68 : decode cX12_readOwes 68 = .ok (.getfield 24, 3) := by decide +kernel
theorem dX12_readOwes_71 : decode cX12_readOwes 71 = .ok (.iload_n 1, 1) := by decide +kernel
theorem dX12_readOwes_72 : decode cX12_readOwes 72 = .ok (.iaload, 1) := by decide +kernel
theorem dX12_readOwes_73 : decode cX12_readOwes 73 = .ok (.if_icmp .ne 8, 3) := by decide +kernel
theorem dX12_readOwes_76 : decode cX12_readOwes 76 = .ok (.aload_n 0, 1) := by decide +kernel
theorem dX12_readOwes_77 : decode cX12_readOwes 77 = .ok (.iconst 3, 1) := by decide +kernel
theorem dX12_readOwes_78 : decode cX12_readOwes 78 = .ok (.invokevirtual 141, 3) := by decide +kernel
theorem dX12_readOwes_81 : decode cX12_readOwes 81 = .ok (.aload_n 0, 1) := by decide +kernel
theorem dX12_readOwes_82 : decode cX12_readOwes 82 = .ok (.getfield 24, 3) := by decide +kernel
theorem dX12_readOwes_85 : decode cX12_readOwes 85 = .ok (.iload_n 1, 1) := by decide +kernel
theorem dX12_readOwes_86 : decode cX12_readOwes 86 = .ok (.iconst 1, 1) := by decide +kernel
theorem dX12_readOwes_87 : decode cX12_readOwes 87 = .ok (.iadd, 1) := by decide +kernel
theorem dX12_readOwes_88 : decode cX12_readOwes 88 = .ok (.aload_n 0, 1) := by decide +kernel
theorem dX12_readOwes_89 : decode cX12_readOwes 89 = .ok (.iconst 0, 1) := by decide +kernel
theorem dX12_readOwes_90 : decode cX12_readOwes 90 = .ok (.iconst 4, 1) := by decide +kernel
theorem dX12_readOwes_91 : decode cX12_readOwes 91 = .ok (.invokevirtual 185, 3) := by decide +kernel
theorem dX12_readOwes_94 : decode cX12_readOwes 94 = .ok (.iastore, 1) := by decide +kernel
theorem dX12_readOwes_95 : decode cX12_readOwes 95 = .ok (.aload_n 0, 1) := by decide +kernel
theorem dX12_readOwes_96 : decode cX12_readOwes 96 = .ok (.getfield 24, 3) := by decide +kernel
theorem dX12_readOwes_99 : decode cX12_readOwes 99 = .ok (.iload_n 1, 1) := by decide +kernel
theorem dX12_readOwes_100 : decode cX12_readOwes 100 = .ok (.iconst 2, 1) := by decide +kernel
theorem dX12_readOwes_101 : decode cX12_readOwes 101 = .ok (.iadd, 1) := by decide +kernel
theorem dX12_readOwes_102 : decode cX12_readOwes 102 = .ok (.aload_n 0, 1) := by decide +kernel
theorem dX12_readOwes_103 : decode cX12_readOwes 103 = .ok (.iconst 0, 1) := by decide +kernel
theorem dX12_readOwes_104 : decode cX12_readOwes 104 = .ok (.bipush 99, 2) := by decide +kernel
theorem dX12_readOwes_106 : decode cX12_readOwes 106 = .ok (.invokevirtual 185, 3) := by decide +kernel
theorem dX12_readOwes_109 : decode cX12_readOwes 109 = .ok (.iastore, 1) := by decide +kernel
theorem dX12_readOwes_110 : decode cX12_readOwes 110 = .ok (.aload_n 0, 1) := by decide +kernel
theorem dX12_readOwes_111 : decode cX12_readOwes 111 = .ok (.getfield 129, 3) := by decide +kernel
theorem dX12_readOwes_114 : decode cX12_readOwes 114 = .ok (.ifCond .ne 14, 3) := by decide +kernel
theorem dX12_readOwes_117 : decode cX12_readOwes 117 = .ok (.aload_n 0, 1) := by decide +kernel
theorem dX12_readOwes_118 : decode cX12_readOwes 118 = .ok (.getfield 24, 3) := by decide +kernel
theorem dX12_readOwes_121 : decode cX12_readOwes 121 = .ok (.bipush 6, 2) := by decide +kernel
theorem dX12_readOwes_123 : decode cX12_readOwes 123 = .ok (.dup2, 1) := by decide +kernel
theorem dX12_readOwes_124 : decode cX12_readOwes 124 = .ok (.iaload, 1) := by decide +kernel
theorem dX12_readOwes_125 : decode cX12_readOwes 125 = .ok (.iconst 1, 1) := by decide +kernel
theorem dX12_readOwes_126 : decode cX12_readOwes 126 = .ok (.iadd, 1) := by decide +kernel
theorem dX12_readOwes_127 : decode cX12_readOwes 127 = .ok (.iastore, 1) := by decide +kernel
theorem dX12_readOwes_128 : decode cX12_readOwes 128 = .ok (.return_, 1) := by decide +kernel
theorem dX12_readLaw_0 : decode cX12_readLaw 0 = .ok (.aload_n 0, 1) := by decide +kernel
theorem dX12_readLaw_1 : decode cX12_readLaw 1 = .ok (.invokevirtual 138, 3) := by decide +kernel
theorem dX12_readLaw_4 : decode cX12_readLaw 4 = .ok (.aload_n 0, 1) := by decide +kernel
theorem dX12_readLaw_5 : decode cX12_readLaw 5 = .ok (.bipush 33, 2) := by decide +kernel
theorem dX12_readLaw_7 : decode cX12_readLaw 7 = .ok (.invokevirtual 164, 3) := by decide +kernel
theorem dX12_readLaw_10 : decode cX12_readLaw 10 = .ok (.ifCond .ne 8, 3) := by decide +kernel
theorem dX12_readLaw_13 : decode cX12_readLaw 13 = .ok (.aload_n 0, 1) := by decide +kernel
theorem dX12_readLaw_14 : decode cX12_readLaw 14 = .ok (.iconst 2, 1) := by decide +kernel
theorem dX12_readLaw_15 : decode cX12_readLaw 15 = .ok (.invokevirtual 141, 3) := by decide +kernel
theorem dX12_readLaw_18 : decode cX12_readLaw 18 = .ok (.aload_n 0, 1) := by decide +kernel
theorem dX12_readLaw_19 : decode cX12_readLaw 19 = .ok (.getfield 24, 3) := by decide +kernel
theorem dX12_readLaw_22 : decode cX12_readLaw 22 = .ok (.sipush 519, 3) := by decide +kernel
theorem dX12_readLaw_25 : decode cX12_readLaw 25 = .ok (.iaload, 1) := by decide +kernel
theorem dX12_readLaw_26 : decode cX12_readLaw 26 = .ok (.istore_n 2, 1) := by decide +kernel
theorem dX12_readLaw_27 : decode cX12_readLaw 27 = .ok (.aload_n 0, 1) := by decide +kernel
theorem dX12_readLaw_28 : decode cX12_readLaw 28 = .ok (.iload_n 1, 1) := by decide +kernel
theorem dX12_readLaw_29 : decode cX12_readLaw 29 = .ok (.putfield 149, 3) := by decide +kernel
theorem dX12_readLaw_32 : decode cX12_readLaw 32 = .ok (.aload_n 0, 1) := by decide +kernel
theorem dX12_readLaw_33 : decode cX12_readLaw 33 = .ok (.iconst 0, 1) := by decide +kernel
theorem dX12_readLaw_34 : decode cX12_readLaw 34 = .ok (.invokevirtual 161, 3) := by decide +kernel
theorem dX12_readLaw_37 : decode cX12_readLaw 37 = .ok (.aload_n 0, 1) := by decide +kernel
theorem dX12_readLaw_38 : decode cX12_readLaw 38 = .ok (.getfield 129, 3) := by decide +kernel
theorem dX12_readLaw_41 : decode cX12_readLaw 41 = .ok (.ifCond .eq 4, 3) := by decide +kernel
theorem dX12_readLaw_44 : decode cX12_readLaw 44 = .ok (.return_, 1) := by decide +kernel
theorem dX12_readLaw_45 : decode cX12_readLaw 45 = .ok (.aload_n 0, 1) := by decide +kernel
theorem dX12_readLaw_46 : decode cX12_readLaw 46 = .ok (.getfield 24, 3) := by decide +kernel
theorem dX12_readLaw_49 : decode cX12_readLaw 49 = .ok (.bipush 7, 2) := by decide +kernel
theorem dX12_readLaw_51 : decode cX12_readLaw 51 = .ok (.iload_n 1, 1) := by decide +kernel
theorem dX12_readLaw_52 : decode cX12_readLaw 52 = .ok (.iadd, 1) := by decide +kernel
theorem dX12_readLaw_53 : decode cX12_readLaw 53 = .ok (.iconst 1, 1) := by decide +kernel
theorem dX12_readLaw_54 : decode cX12_readLaw 54 = .ok (.iastore, 1) := by decide +kernel
theorem dX12_readLaw_55 : decode cX12_readLaw 55 = .ok (.aload_n 0, 1) := by decide +kernel
theorem dX12_readLaw_56 : decode cX12_readLaw 56 = .ok (.getfield 24, 3) := by decide +kernel
theorem dX12_readLaw_59 : decode cX12_readLaw 59 = .ok (.bipush 9, 2) := by decide +kernel
theorem dX12_readLaw_61 : decode cX12_readLaw 61 = .ok (.iload_n 1, 1) := by decide +kernel
theorem dX12_readLaw_62 : decode cX12_readLaw 62 = .ok (.iadd, 1) := by decide +kernel
theorem dX12_readLaw_63 : decode cX12_readLaw 63 = .ok (.iload_n 2, 1) := by decide +kernel
theorem dX12_readLaw_64 : decode cX12_readLaw 64 = .ok (.iastore, 1) := by decide +kernel
theorem dX12_readLaw_65 : decode cX12_readLaw 65 = .ok (.aload_n 0, 1) := by decide +kernel
theorem dX12_readLaw_66 : decode cX12_readLaw 66 = .ok (.getfield 24, 3) := by decide +kernel
theorem dX12_readLaw_69 : decode cX12_readLaw 69 = .ok (.bipush 11, 2) := by decide +kernel
theorem dX12_readLaw_71 : decode cX12_readLaw 71 = .ok (.iload_n 1, 1) := by decide +kernel
theorem dX12_readLaw_72 : decode cX12_readLaw 72 = .ok (.iadd, 1) := by decide +kernel
theorem dX12_readLaw_73 : decode cX12_readLaw 73 = .ok (.aload_n 0, 1) := by decide +kernel
theorem dX12_readLaw_74 : decode cX12_readLaw 74 = .ok (.getfield 24, 3) := by decide +kernel
theorem dX12_readLaw_77 : decode cX12_readLaw 77 = .ok (.sipush 519, 3) := by decide +kernel
theorem dX12_readLaw_80 : decode cX12_readLaw 80 = .ok (.iaload, 1) := by decide +kernel
theorem dX12_readLaw_81 : decode cX12_readLaw 81 = .ok (.iload_n 2, 1) := by decide +kernel
theorem dX12_readLaw_82 : decode cX12_readLaw 82 = .ok (.isub, 1) := by decide +kernel
theorem dX12_readLaw_83 : decode cX12_readLaw 83 = .ok (.iastore, 1) := by decide +kernel
theorem dX12_readLaw_84 : decode cX12_readLaw 84 = .ok (.return_, 1) := by decide +kernel
theorem dX12_readLine_0 : decode cX12_readLine 0 = .ok (.aload_n 0, 1) := by decide +kernel
theorem dX12_readLine_1 : decode cX12_readLine 1 = .ok (.getfield 129, 3) := by decide +kernel
theorem dX12_readLine_4 : decode cX12_readLine 4 = .ok (.ifCond .eq 4, 3) := by decide +kernel
theorem dX12_readLine_7 : decode cX12_readLine 7 = .ok (.return_, 1) := by decide +kernel
theorem dX12_readLine_8 : decode cX12_readLine 8 = .ok (.aload_n 0, 1) := by decide +kernel
theorem dX12_readLine_9 : decode cX12_readLine 9 = .ok (.iconst 3, 1) := by decide +kernel
theorem dX12_readLine_10 : decode cX12_readLine 10 = .ok (.invokevirtual 135, 3) := by decide +kernel
theorem dX12_readLine_13 : decode cX12_readLine 13 = .ok (.ifCond .eq 10, 3) := by decide +kernel
theorem dX12_readLine_16 : decode cX12_readLine 16 = .ok (.aload_n 0, 1) := by decide +kernel
theorem dX12_readLine_17 : decode cX12_readLine 17 = .ok (.invokevirtual 203, 3) := by decide +kernel
theorem dX12_readLine_20 : decode cX12_readLine 20 = .ok (.goto 154, 3) := by decide +kernel
theorem dX12_readLine_23 : decode cX12_readLine 23 = .ok (.aload_n 0, 1) := by decide +kernel
theorem dX12_readLine_24 : decode cX12_readLine 24 = .ok (.iconst 4, 1) := by decide +kernel
theorem dX12_readLine_25 : decode cX12_readLine 25 = .ok (.invokevirtual 135, 3) := by decide +kernel
theorem dX12_readLine_28 : decode cX12_readLine 28 = .ok (.ifCond .eq 10, 3) := by decide +kernel
theorem dX12_readLine_31 : decode cX12_readLine 31 = .ok (.aload_n 0, 1) := by decide +kernel
theorem dX12_readLine_32 : decode cX12_readLine 32 = .ok (.invokevirtual 206, 3) := by decide +kernel
theorem dX12_readLine_35 : decode cX12_readLine 35 = .ok (.goto 139, 3) := by decide +kernel
theorem dX12_readLine_38 : decode cX12_readLine 38 = .ok (.aload_n 0, 1) := by decide +kernel
theorem dX12_readLine_39 : decode cX12_readLine 39 = .ok (.bipush 6, 2) := by decide +kernel
theorem dX12_readLine_41 : decode cX12_readLine 41 = .ok (.invokevirtual 135, 3) := by decide +kernel
theorem dX12_readLine_44 : decode cX12_readLine 44 = .ok (.ifCond .eq 10, 3) := by decide +kernel
theorem dX12_readLine_47 : decode cX12_readLine 47 = .ok (.aload_n 0, 1) := by decide +kernel
theorem dX12_readLine_48 : decode cX12_readLine 48 = .ok (.invokevirtual 209, 3) := by decide +kernel
theorem dX12_readLine_51 : decode cX12_readLine 51 = .ok (.goto 123, 3) := by decide +kernel
theorem dX12_readLine_54 : decode cX12_readLine 54 = .ok (.aload_n 0, 1) := by decide +kernel
theorem dX12_readLine_55 : decode cX12_readLine 55 = .ok (.bipush 9, 2) := by decide +kernel
theorem dX12_readLine_57 : decode cX12_readLine 57 = .ok (.invokevirtual 135, 3) := by decide +kernel
theorem dX12_readLine_60 : decode cX12_readLine 60 = .ok (.ifCond .eq 10, 3) := by decide +kernel
theorem dX12_readLine_63 : decode cX12_readLine 63 = .ok (.aload_n 0, 1) := by decide +kernel
theorem dX12_readLine_64 : decode cX12_readLine 64 = .ok (.invokevirtual 212, 3) := by decide +kernel
theorem dX12_readLine_67 : decode cX12_readLine 67 = .ok (.goto 107, 3) := by decide +kernel
theorem dX12_readLine_70 : decode cX12_readLine 70 = .ok (.aload_n 0, 1) := by decide +kernel
theorem dX12_readLine_71 : decode cX12_readLine 71 = .ok (.bipush 10, 2) := by decide +kernel
theorem dX12_readLine_73 : decode cX12_readLine 73 = .ok (.invokevirtual 135, 3) := by decide +kernel
theorem dX12_readLine_76 : decode cX12_readLine 76 = .ok (.ifCond .eq 10, 3) := by decide +kernel
theorem dX12_readLine_79 : decode cX12_readLine 79 = .ok (.aload_n 0, 1) := by decide +kernel
theorem dX12_readLine_80 : decode cX12_readLine 80 = .ok (.invokevirtual 215, 3) := by decide +kernel
theorem dX12_readLine_83 : decode cX12_readLine 83 = .ok (.goto 91, 3) := by decide +kernel
theorem dX12_readLine_86 : decode cX12_readLine 86 = .ok (.aload_n 0, 1) := by decide +kernel
theorem dX12_readLine_87 : decode cX12_readLine 87 = .ok (.bipush 11, 2) := by decide +kernel
theorem dX12_readLine_89 : decode cX12_readLine 89 = .ok (.invokevirtual 164, 3) := by decide +kernel
theorem dX12_readLine_92 : decode cX12_readLine 92 = .ok (.ifCond .eq 20, 3) := by decide +kernel
theorem dX12_readLine_95 : decode cX12_readLine 95 = .ok (.aload_n 0, 1) := by decide +kernel
theorem dX12_readLine_96 : decode cX12_readLine 96 = .ok (.getfield 24, 3) := by decide +kernel
theorem dX12_readLine_99 : decode cX12_readLine 99 = .ok (.bipush 106, 2) := by decide +kernel
theorem dX12_readLine_101 : decode cX12_readLine 101 = .ok (.aload_n 0, 1) := by decide +kernel
theorem dX12_readLine_102 : decode cX12_readLine 102 = .ok (.iconst 0, 1) := by decide +kernel
theorem dX12_readLine_103 : decode cX12_readLine 103 = .ok (.bipush 9, 2) := by decide +kernel
theorem dX12_readLine_105 : decode cX12_readLine 105 = .ok (.invokevirtual 185, 3) := by decide +kernel
theorem dX12_readLine_108 : decode cX12_readLine 108 = .ok (.iastore, 1) := by decide +kernel
theorem dX12_readLine_109 : decode cX12_readLine 109 = .ok (.goto 65, 3) := by decide +kernel
theorem dX12_readLine_112 : decode cX12_readLine 112 = .ok (.aload_n 0, 1) := by decide +kernel
theorem dX12_readLine_113 : decode cX12_readLine 113 = .ok (.bipush 12, 2) := by decide +kernel
theorem dX12_readLine_115 : decode cX12_readLine 115 = .ok (.invokevirtual 164, 3) := by decide +kernel
theorem dX12_readLine_118 : decode cX12_readLine 118 = .ok (.ifCond .eq 19, 3) := by decide +kernel
theorem dX12_readLine_121 : decode cX12_readLine 121 = .ok (.aload_n 0, 1) := by decide +kernel
theorem dX12_readLine_122 : decode cX12_readLine 122 = .ok (.getfield 24, 3) := by decide +kernel
theorem dX12_readLine_125 : decode cX12_readLine 125 = .ok (.iconst 3, 1) := by decide +kernel
theorem dX12_readLine_126 : decode cX12_readLine 126 = .ok (.aload_n 0, 1) := by decide +kernel
theorem dX12_readLine_127 : decode cX12_readLine 127 = .ok (.iconst 0, 1) := by decide +kernel
theorem dX12_readLine_128 : decode cX12_readLine 128 = .ok (.bipush 10, 2) := by decide +kernel
theorem dX12_readLine_130 : decode cX12_readLine 130 = .ok (.invokevirtual 185, 3) := by decide +kernel
theorem dX12_readLine_133 : decode cX12_readLine 133 = .ok (.iastore, 1) := by decide +kernel
theorem dX12_readLine_134 : decode cX12_readLine 134 = .ok (.goto 40, 3) := by decide +kernel
theorem dX12_readLine_137 : decode cX12_readLine 137 = .ok (.aload_n 0, 1) := by decide +kernel
theorem dX12_readLine_138 : decode cX12_readLine 138 = .ok (.bipush 13, 2) := by decide +kernel
theorem dX12_readLine_140 : decode cX12_readLine 140 = .ok (.invokevirtual 135, 3) := by decide +kernel
theorem dX12_readLine_143 : decode cX12_readLine 143 = .ok (.ifCond .ne 12, 3) := by decide +kernel
theorem dX12_readLine_146 : decode cX12_readLine 146 = .ok (.aload_n 0, 1) := by decide +kernel
theorem dX12_readLine_147 : decode cX12_readLine 147 = .ok (.bipush 14, 2) := by decide +kernel
theorem dX12_readLine_149 : decode cX12_readLine 149 = .ok (.invokevirtual 135, 3) := by decide +kernel
theorem dX12_readLine_152 : decode cX12_readLine 152 = .ok (.ifCond .eq 17, 3) := by decide +kernel
theorem dX12_readLine_155 : decode cX12_readLine 155 = .ok (.aload_n 0, 1) := by decide +kernel
theorem dX12_readLine_156 : decode cX12_readLine 156 = .ok (.aload_n 0, 1) := by decide +kernel
theorem dX12_readLine_157 : decode cX12_readLine 157 = .ok (.getfield 111, 3) := by decide +kernel
theorem dX12_readLine_160 : decode cX12_readLine 160 = .ok (.bipush 13, 2) := by decide +kernel
theorem dX12_readLine_162 : decode cX12_readLine 162 = .ok (.isub, 1) := by decide +kernel
theorem dX12_readLine_163 : decode cX12_readLine 163 = .ok (.invokevirtual 218, 3) := by decide +kernel
theorem dX12_readLine_166 : decode cX12_readLine 166 = .ok (.goto 8, 3) := by decide +kernel
theorem dX12_readLine_169 : decode cX12_readLine 169 = .ok (.aload_n 0, 1) := by decide +kernel
theorem dX12_readLine_170 : decode cX12_readLine 170 = .ok (.iconst 2, 1) := by decide +kernel
theorem dX12_readLine_171 : decode cX12_readLine 171 = .ok (.invokevirtual 141, 3) := by decide +kernel
theorem dX12_readLine_174 : decode cX12_readLine 174 = .ok (.return_, 1) := by decide +kernel
theorem dX12_closes_0 : decode cX12_closes 0 = .ok (.aload_n 0, 1) := by decide +kernel
theorem dX12_closes_1 : decode cX12_closes 1 = .ok (.bipush 32, 2) := by decide +kernel
theorem dX12_closes_3 : decode cX12_closes 3 = .ok (.invokevirtual 164, 3) := by decide +kernel
theorem dX12_closes_6 : decode cX12_closes 6 = .ok (.ifCond .ne 8, 3) := by decide +kernel
theorem dX12_closes_9 : decode cX12_closes 9 = .ok (.aload_n 0, 1) := by decide +kernel
theorem dX12_closes_10 : decode cX12_closes 10 = .ok (.iconst 2, 1) := by decide +kernel
theorem dX12_closes_11 : decode cX12_closes 11 = .ok (.invokevirtual 141, 3) := by decide +kernel
theorem dX12_closes_14 : decode cX12_closes 14 = .ok (.aload_n 0, 1) := by decide +kernel
theorem dX12_closes_15 : decode cX12_closes 15 = .ok (.getfield 24, 3) := by decide +kernel
theorem dX12_closes_18 : decode cX12_closes 18 = .ok (.iconst 0, 1) := by decide +kernel
theorem dX12_closes_19 : decode cX12_closes 19 = .ok (.dup2, 1) := by decide +kernel
theorem dX12_closes_20 : decode cX12_closes 20 = .ok (.iaload, 1) := by decide +kernel
theorem dX12_closes_21 : decode cX12_closes 21 = .ok (.iconst 1, 1) := by decide +kernel
theorem dX12_closes_22 : decode cX12_closes 22 = .ok (.iadd, 1) := by decide +kernel
theorem dX12_closes_23 : decode cX12_closes 23 = .ok (.iastore, 1) := by decide +kernel
theorem dX12_closes_24 : decode cX12_closes 24 = .ok (.return_, 1) := by decide +kernel
theorem dX12_shore_0 : decode cX12_shore 0 = .ok (.aload_n 0, 1) := by decide +kernel
theorem dX12_shore_1 : decode cX12_shore 1 = .ok (.iconst 0, 1) := by decide +kernel
theorem dX12_shore_2 : decode cX12_shore 2 = .ok (.putfield 1, 3) := by decide +kernel
theorem dX12_shore_5 : decode cX12_shore 5 = .ok (.iload_n 1, 1) := by decide +kernel
theorem dX12_shore_6 : decode cX12_shore 6 = .ok (.i2l, 1) := by decide +kernel
theorem dX12_shore_7 : decode cX12_shore 7 = .ok (.lconst 0, 1) := by decide +kernel
theorem dX12_shore_8 : decode cX12_shore 8 = .ok (.aload_n 0, 1) := by decide +kernel
theorem dX12_shore_9 : decode cX12_shore 9 = .ok (.getfield 83, 3) := by decide +kernel
theorem dX12_shore_12 : decode cX12_shore 12 = .ok (.i2l, 1) := by decide +kernel
theorem dX12_shore_13 : decode cX12_shore 13 = .ok (.invokestatic 145, 3) := by decide +kernel
theorem dX12_shore_16 : decode cX12_shore 16 = .ok (.ifCond .ne 6, 3) := by decide +kernel
theorem dX12_shore_19 : decode cX12_shore 19 = .ok (.bipush (-3), 2) := by decide +kernel
theorem dX12_shore_21 : decode cX12_shore 21 = .ok (.ireturn, 1) := by decide +kernel
theorem dX12_shore_22 : decode cX12_shore 22 = .ok (.aload_n 0, 1) := by decide +kernel
theorem dX12_shore_23 : decode cX12_shore 23 = .ok (.iload_n 1, 1) := by decide +kernel
theorem dX12_shore_24 : decode cX12_shore 24 = .ok (.putfield 86, 3) := by decide +kernel
theorem dX12_shore_27 : decode cX12_shore 27 = .ok (.aload_n 0, 1) := by decide +kernel
theorem dX12_shore_28 : decode cX12_shore 28 = .ok (.iconst 0, 1) := by decide +kernel
theorem dX12_shore_29 : decode cX12_shore 29 = .ok (.putfield 83, 3) := by decide +kernel
theorem dX12_shore_32 : decode cX12_shore 32 = .ok (.aload_n 0, 1) := by decide +kernel
theorem dX12_shore_33 : decode cX12_shore 33 = .ok (.iconst 0, 1) := by decide +kernel
theorem dX12_shore_34 : decode cX12_shore 34 = .ok (.putfield 104, 3) := by decide +kernel
theorem dX12_shore_37 : decode cX12_shore 37 = .ok (.aload_n 0, 1) := by decide +kernel
theorem dX12_shore_38 : decode cX12_shore 38 = .ok (.iconst 0, 1) := by decide +kernel
theorem dX12_shore_39 : decode cX12_shore 39 = .ok (.putfield 129, 3) := by decide +kernel
theorem dX12_shore_42 : decode cX12_shore 42 = .ok (.aload_n 0, 1) := by decide +kernel
theorem dX12_shore_43 : decode cX12_shore 43 = .ok (.getfield 24, 3) := by decide +kernel
theorem dX12_shore_46 : decode cX12_shore 46 = .ok (.invokestatic 79, 3) := by decide +kernel
theorem dX12_shore_49 : decode cX12_shore 49 = .ok (.aload_n 0, 1) := by decide +kernel
theorem dX12_shore_50 : decode cX12_shore 50 = .ok (.invokevirtual 138, 3) := by decide +kernel
theorem dX12_shore_53 : decode cX12_shore 53 = .ok (.aload_n 0, 1) := by decide +kernel
theorem dX12_shore_54 : decode cX12_shore 54 = .ok (.iconst 0, 1) := by decide +kernel
theorem dX12_shore_55 : decode cX12_shore 55 = .ok (.invokevirtual 164, 3) := by decide +kernel
theorem dX12_shore_58 : decode cX12_shore 58 = .ok (.ifCond .ne 8, 3) := by decide +kernel
theorem dX12_shore_61 : decode cX12_shore 61 = .ok (.aload_n 0, 1) := by decide +kernel
theorem dX12_shore_62 : decode cX12_shore 62 = .ok (.iconst 2, 1) := by decide +kernel
theorem dX12_shore_63 : decode cX12_shore 63 = .ok (.invokevirtual 141, 3) := by decide +kernel
theorem dX12_shore_66 : decode cX12_shore 66 = .ok (.aload_n 0, 1) := by decide +kernel
theorem dX12_shore_67 : decode cX12_shore 67 = .ok (.getfield 24, 3) := by decide +kernel
theorem dX12_shore_70 : decode cX12_shore 70 = .ok (.iconst 1, 1) := by decide +kernel
theorem dX12_shore_71 : decode cX12_shore 71 = .ok (.aload_n 0, 1) := by decide +kernel
theorem dX12_shore_72 : decode cX12_shore 72 = .ok (.iconst 1, 1) := by decide +kernel
theorem dX12_shore_73 : decode cX12_shore 73 = .ok (.iconst 1, 1) := by decide +kernel
theorem dX12_shore_74 : decode cX12_shore 74 = .ok (.iconst 5, 1) := by decide +kernel
theorem dX12_shore_75 : decode cX12_shore 75 = .ok (.invokevirtual 199, 3) := by decide +kernel
theorem dX12_shore_78 : decode cX12_shore 78 = .ok (.iastore, 1) := by decide +kernel
theorem dX12_shore_79 : decode cX12_shore 79 = .ok (.aload_n 0, 1) := by decide +kernel
theorem dX12_shore_80 : decode cX12_shore 80 = .ok (.getfield 24, 3) := by decide +kernel
theorem dX12_shore_83 : decode cX12_shore 83 = .ok (.iconst 2, 1) := by decide +kernel
theorem dX12_shore_84 : decode cX12_shore 84 = .ok (.aload_n 0, 1) := by decide +kernel
theorem dX12_shore_85 : decode cX12_shore 85 = .ok (.iconst 2, 1) := by decide +kernel
theorem dX12_shore_86 : decode cX12_shore 86 = .ok (.iconst 1, 1) := by decide +kernel
theorem dX12_shore_87 : decode cX12_shore 87 = .ok (.iconst 5, 1) := by decide +kernel
theorem dX12_shore_88 : decode cX12_shore 88 = .ok (.invokevirtual 199, 3) := by decide +kernel
theorem dX12_shore_91 : decode cX12_shore 91 = .ok (.iastore, 1) := by decide +kernel
theorem dX12_shore_92 : decode cX12_shore 92 = .ok (.aload_n 0, 1) := by decide +kernel
theorem dX12_shore_93 : decode cX12_shore 93 = .ok (.invokevirtual 221, 3) := by decide +kernel
theorem dX12_shore_96 : decode cX12_shore 96 = .ok (.iconst 0, 1) := by decide +kernel
theorem dX12_shore_97 : decode cX12_shore 97 = .ok (.istore_n 2, 1) := by decide +kernel
theorem dX12_shore_98 : decode cX12_shore 98 = .ok (.iload_n 2, 1) := by decide +kernel
theorem dX12_shore_99 : decode cX12_shore 99 = .ok (.bipush 25, 2) := by decide +kernel
theorem dX12_shore_101 : decode cX12_shore 101 = .ok (.if_icmp .ge 33, 3) := by decide +kernel
theorem dX12_shore_104 : decode cX12_shore 104 = .ok (.aload_n 0, 1) := by decide +kernel
theorem dX12_shore_105 : decode cX12_shore 105 = .ok (.getfield 129, 3) := by decide +kernel
theorem dX12_shore_108 : decode cX12_shore 108 = .ok (.ifCond .ne 26, 3) := by decide +kernel
theorem dX12_shore_111 : decode cX12_shore 111 = .ok (.aload_n 0, 1) := by decide +kernel
theorem dX12_shore_112 : decode cX12_shore 112 = .ok (.getfield 24, 3) := by decide +kernel
theorem dX12_shore_115 : decode cX12_shore 115 = .ok (.bipush 67, 2) := by decide +kernel
theorem dX12_shore_117 : decode cX12_shore 117 = .ok (.iload_n 2, 1) := by decide +kernel
theorem dX12_shore_118 : decode cX12_shore 118 = .ok (.iadd, 1) := by decide +kernel
theorem dX12_shore_119 : decode cX12_shore 119 = .ok (.iload_n 2, 1) := by decide +kernel
theorem dX12_shore_120 : decode cX12_shore 120 = .ok (.aload_n 0, 1) := by decide +kernel
theorem dX12_shore_121 : decode cX12_shore 121 = .ok (.getfield 24, 3) := by decide +kernel
theorem dX12_shore_124 : decode cX12_shore 124 = .ok (.iconst 2, 1) := by decide +kernel
theorem dX12_shore_125 : decode cX12_shore 125 = .ok (.iaload, 1) := by decide +kernel
theorem dX12_shore_126 : decode cX12_shore 126 = .ok (.idiv, 1) := by decide +kernel
theorem dX12_shore_127 : decode cX12_shore 127 = .ok (.iastore, 1) := by decide +kernel
theorem dX12_shore_128 : decode cX12_shore 128 = .ok (.iinc 2 1, 3) := by decide +kernel
theorem dX12_shore_131 : decode cX12_shore 131 = .ok (.goto (-33), 3) := by decide +kernel
theorem dX12_shore_134 : decode cX12_shore 134 = .ok (.aload_n 0, 1) := by decide +kernel
theorem dX12_shore_135 : decode cX12_shore 135 = .ok (.getfield 129, 3) := by decide +kernel
theorem dX12_shore_138 : decode cX12_shore 138 = .ok (.ifCond .ne 23, 3) := by decide +kernel
theorem dX12_shore_141 : decode cX12_shore 141 = .ok (.aload_n 0, 1) := by decide +kernel
theorem dX12_shore_142 : decode cX12_shore 142 = .ok (.getfield 111, 3) := by decide +kernel
theorem dX12_shore_145 : decode cX12_shore 145 = .ok (.bipush 30, 2) := by decide +kernel
theorem dX12_shore_147 : decode cX12_shore 147 = .ok (.if_icmp .eq 14, 3) := by decide +kernel
theorem dX12_shore_150 : decode cX12_shore 150 = .ok (.aload_n 0, 1) := by decide +kernel
theorem dX12_shore_151 : decode cX12_shore 151 = .ok (.invokevirtual 224, 3) := by decide +kernel
theorem dX12_shore_154 : decode cX12_shore 154 = .ok (.aload_n 0, 1) := by decide +kernel
theorem dX12_shore_155 : decode cX12_shore 155 = .ok (.invokevirtual 221, 3) := by decide +kernel
theorem dX12_shore_158 : decode cX12_shore 158 = .ok (.goto (-24), 3) := by decide +kernel
theorem dX12_shore_161 : decode cX12_shore 161 = .ok (.aload_n 0, 1) := by decide +kernel
theorem dX12_shore_162 : decode cX12_shore 162 = .ok (.aload_n 0, 1) := by decide +kernel
theorem dX12_shore_163 : decode cX12_shore 163 = .ok (.getfield 129, 3) := by decide +kernel
theorem dX12_shore_166 : decode cX12_shore 166 = .ok (.putfield 227, 3) := by decide +kernel
theorem dX12_shore_169 : decode cX12_shore 169 = .ok (.aload_n 0, 1) := by decide +kernel
theorem dX12_shore_170 : decode cX12_shore 170 = .ok (.aload_n 0, 1) := by decide +kernel
theorem dX12_shore_171 : decode cX12_shore 171 = .ok (.getfield 129, 3) := by decide +kernel
theorem dX12_shore_174 : decode cX12_shore 174 = .ok (.ifCond .ne 7, 3) := by decide +kernel
theorem dX12_shore_177 : decode cX12_shore 177 = .ok (.iconst (-1), 1) := by decide +kernel
theorem dX12_shore_178 : decode cX12_shore 178 = .ok (.goto 7, 3) := by decide +kernel
theorem dX12_shore_181 : decode cX12_shore 181 = .ok (.aload_n 0, 1) := by decide +kernel
theorem dX12_shore_182 : decode cX12_shore 182 = .ok (.getfield 132, 3) := by decide +kernel
theorem dX12_shore_185 : decode cX12_shore 185 = .ok (.putfield 27, 3) := by decide +kernel
theorem dX12_shore_188 : decode cX12_shore 188 = .ok (.aload_n 0, 1) := by decide +kernel
theorem dX12_shore_189 : decode cX12_shore 189 = .ok (.getfield 129, 3) := by decide +kernel
theorem dX12_shore_192 : decode cX12_shore 192 = .ok (.ifCond .eq 11, 3) := by decide +kernel
theorem dX12_shore_195 : decode cX12_shore 195 = .ok (.bipush (-30), 2) := by decide +kernel
theorem dX12_shore_197 : decode cX12_shore 197 = .ok (.aload_n 0, 1) := by decide +kernel
theorem dX12_shore_198 : decode cX12_shore 198 = .ok (.getfield 129, 3) := by decide +kernel
theorem dX12_shore_201 : decode cX12_shore 201 = .ok (.isub, 1) := by decide +kernel
theorem dX12_shore_202 : decode cX12_shore 202 = .ok (.ireturn, 1) := by decide +kernel
theorem dX12_shore_203 : decode cX12_shore 203 = .ok (.iconst 0, 1) := by decide +kernel
theorem dX12_shore_204 : decode cX12_shore 204 = .ok (.istore_n 2, 1) := by decide +kernel
theorem dX12_shore_205 : decode cX12_shore 205 = .ok (.iload_n 2, 1) := by decide +kernel
theorem dX12_shore_206 : decode cX12_shore 206 = .ok (.sipush 1420, 3) := by decide +kernel
theorem dX12_shore_209 : decode cX12_shore 209 = .ok (.if_icmp .ge 21, 3) := by decide +kernel
theorem dX12_shore_212 : decode cX12_shore 212 = .ok (.aload_n 0, 1) := by decide +kernel
theorem dX12_shore_213 : decode cX12_shore 213 = .ok (.getfield 13, 3) := by decide +kernel
theorem dX12_shore_216 : decode cX12_shore 216 = .ok (.iload_n 2, 1) := by decide +kernel
theorem dX12_shore_217 : decode cX12_shore 217 = .ok (.aload_n 0, 1) := by decide +kernel
theorem dX12_shore_218 : decode cX12_shore 218 = .ok (.getfield 24, 3) := by decide +kernel
theorem dX12_shore_221 : decode cX12_shore 221 = .ok (.iload_n 2, 1) := by decide +kernel
theorem dX12_shore_222 : decode cX12_shore 222 = .ok (.iaload, 1) := by decide +kernel
theorem dX12_shore_223 : decode cX12_shore 223 = .ok (.iastore, 1) := by decide +kernel
theorem dX12_shore_224 : decode cX12_shore 224 = .ok (.iinc 2 1, 3) := by decide +kernel
theorem dX12_shore_227 : decode cX12_shore 227 = .ok (.goto (-22), 3) := by decide +kernel
theorem dX12_shore_230 : decode cX12_shore 230 = .ok (.aload_n 0, 1) := by decide +kernel
theorem dX12_shore_231 : decode cX12_shore 231 = .ok (.getfield 13, 3) := by decide +kernel
theorem dX12_shore_234 : decode cX12_shore 234 = .ok (.iconst 0, 1) := by decide +kernel
theorem dX12_shore_235 : decode cX12_shore 235 = .ok (.iaload, 1) := by decide +kernel
theorem dX12_shore_236 : decode cX12_shore 236 = .ok (.ireturn, 1) := by decide +kernel
theorem dX12_fault_0 : decode cX12_fault 0 = .ok (.aload_n 0, 1) := by decide +kernel
theorem dX12_fault_1 : decode cX12_fault 1 = .ok (.iconst 0, 1) := by decide +kernel
theorem dX12_fault_2 : decode cX12_fault 2 = .ok (.putfield 1, 3) := by decide +kernel
theorem dX12_fault_5 : decode cX12_fault 5 = .ok (.iload_n 1, 1) := by decide +kernel
theorem dX12_fault_6 : decode cX12_fault 6 = .ok (.ifCond .ne 10, 3) := by decide +kernel
theorem dX12_fault_9 : decode cX12_fault 9 = .ok (.aload_n 0, 1) := by decide +kernel
theorem dX12_fault_10 : decode cX12_fault 10 = .ok (.getfield 227, 3) := by decide +kernel
theorem dX12_fault_13 : decode cX12_fault 13 = .ok (.goto 16, 3) := by decide +kernel
theorem dX12_fault_16 : decode cX12_fault 16 = .ok (.iload_n 1, 1) := by decide +kernel
theorem dX12_fault_17 : decode cX12_fault 17 = .ok (.iconst 1, 1) := by decide +kernel
theorem dX12_fault_18 : decode cX12_fault 18 = .ok (.if_icmp .ne 10, 3) := by decide +kernel
theorem dX12_fault_21 : decode cX12_fault 21 = .ok (.aload_n 0, 1) := by decide +kernel
theorem dX12_fault_22 : decode cX12_fault 22 = .ok (.getfield 27, 3) := by decide +kernel
theorem dX12_fault_25 : decode cX12_fault 25 = .ok (.goto 4, 3) := by decide +kernel
theorem dX12_fault_28 : decode cX12_fault 28 = .ok (.iconst (-1), 1) := by decide +kernel
theorem dX12_fault_29 : decode cX12_fault 29 = .ok (.ireturn, 1) := by decide +kernel
theorem dX12_isCell_0 : decode cX12_isCell 0 = .ok (.lload_n 1, 1) := by decide +kernel
theorem dX12_isCell_1 : decode cX12_isCell 1 = .ok (.lconst 0, 1) := by decide +kernel
theorem dX12_isCell_2 : decode cX12_isCell 2 = .ok (.aload_n 0, 1) := by decide +kernel
theorem dX12_isCell_3 : decode cX12_isCell 3 = .ok (.aload_n 0, 1) := by decide +kernel
theorem dX12_isCell_4 : decode cX12_isCell 4 = .ok (.getfield 13, 3) := by decide +kernel
theorem dX12_isCell_7 : decode cX12_isCell 7 = .ok (.invokevirtual 189, 3) := by decide +kernel
theorem dX12_isCell_10 : decode cX12_isCell 10 = .ok (.iconst 1, 1) := by decide +kernel
theorem dX12_isCell_11 : decode cX12_isCell 11 = .ok (.isub, 1) := by decide +kernel
theorem dX12_isCell_12 : decode cX12_isCell 12 = .ok (.i2l, 1) := by decide +kernel
theorem dX12_isCell_13 : decode cX12_isCell 13 = .ok (.invokestatic 145, 3) := by decide +kernel
theorem dX12_isCell_16 : decode cX12_isCell 16 = .ok (.ireturn, 1) := by decide +kernel
theorem dX12_isHouse_0 : decode cX12_isHouse 0 = .ok (.lload_n 1, 1) := by decide +kernel
theorem dX12_isHouse_1 : decode cX12_isHouse 1 = .ok (.lconst 0, 1) := by decide +kernel
theorem dX12_isHouse_2 : decode cX12_isHouse 2 = .ok (.aload_n 0, 1) := by decide +kernel
theorem dX12_isHouse_3 : decode cX12_isHouse 3 = .ok (.getfield 13, 3) := by decide +kernel
theorem dX12_isHouse_6 : decode cX12_isHouse 6 = .ok (.bipush 92, 2) := by decide +kernel
theorem dX12_isHouse_8 : decode cX12_isHouse 8 = .ok (.iaload, 1) := by decide +kernel
theorem dX12_isHouse_9 : decode cX12_isHouse 9 = .ok (.iconst 1, 1) := by decide +kernel
theorem dX12_isHouse_10 : decode cX12_isHouse 10 = .ok (.isub, 1) := by decide +kernel
theorem dX12_isHouse_11 : decode cX12_isHouse 11 = .ok (.i2l, 1) := by decide +kernel
theorem dX12_isHouse_12 : decode cX12_isHouse 12 = .ok (.invokestatic 145, 3) := by decide +kernel
theorem dX12_isHouse_15 : decode cX12_isHouse 15 = .ok (.ireturn, 1) := by decide +kernel
theorem dX12_bitsOf_0 : decode cX12_bitsOf 0 = .ok (.iconst 0, 1) := by decide +kernel
theorem dX12_bitsOf_1 : decode cX12_bitsOf 1 = .ok (.istore_n 1, 1) := by decide +kernel
theorem dX12_bitsOf_2 : decode cX12_bitsOf 2 = .ok (.iconst 0, 1) := by decide +kernel
theorem dX12_bitsOf_3 : decode cX12_bitsOf 3 = .ok (.istore_n 2, 1) := by decide +kernel
theorem dX12_bitsOf_4 : decode cX12_bitsOf 4 = .ok (.iload_n 2, 1) := by decide +kernel
theorem dX12_bitsOf_5 : decode cX12_bitsOf 5 = .ok (.bipush 25, 2) := by decide +kernel
theorem dX12_bitsOf_7 : decode cX12_bitsOf 7 = .ok (.if_icmp .ge 17, 3) := by decide +kernel
theorem dX12_bitsOf_10 : decode cX12_bitsOf 10 = .ok (.iload_n 1, 1) := by decide +kernel
theorem dX12_bitsOf_11 : decode cX12_bitsOf 11 = .ok (.iload_n 0, 1) := by decide +kernel
theorem dX12_bitsOf_12 : decode cX12_bitsOf 12 = .ok (.iload_n 2, 1) := by decide +kernel
theorem dX12_bitsOf_13 : decode cX12_bitsOf 13 = .ok (.ishr, 1) := by decide +kernel
theorem dX12_bitsOf_14 : decode cX12_bitsOf 14 = .ok (.iconst 1, 1) := by decide +kernel
theorem dX12_bitsOf_15 : decode cX12_bitsOf 15 = .ok (.iand, 1) := by decide +kernel
theorem dX12_bitsOf_16 : decode cX12_bitsOf 16 = .ok (.iadd, 1) := by decide +kernel
theorem dX12_bitsOf_17 : decode cX12_bitsOf 17 = .ok (.istore_n 1, 1) := by decide +kernel
theorem dX12_bitsOf_18 : decode cX12_bitsOf 18 = .ok (.iinc 2 1, 3) := by decide +kernel
theorem dX12_bitsOf_21 : decode cX12_bitsOf 21 = .ok (.goto (-17), 3) := by decide +kernel
theorem dX12_bitsOf_24 : decode cX12_bitsOf 24 = .ok (.iload_n 1, 1) := by decide +kernel
theorem dX12_bitsOf_25 : decode cX12_bitsOf 25 = .ok (.ireturn, 1) := by decide +kernel
theorem dX12_besides_0 : decode cX12_besides 0 = .ok (.aload_n 0, 1) := by decide +kernel
theorem dX12_besides_1 : decode cX12_besides 1 = .ok (.getfield 13, 3) := by decide +kernel
theorem dX12_besides_4 : decode cX12_besides 4 = .ok (.iconst 2, 1) := by decide +kernel
theorem dX12_besides_5 : decode cX12_besides 5 = .ok (.iaload, 1) := by decide +kernel
theorem dX12_besides_6 : decode cX12_besides 6 = .ok (.istore_n 2, 1) := by decide +kernel
theorem dX12_besides_7 : decode cX12_besides 7 = .ok (.iconst 0, 1) := by decide +kernel
theorem dX12_besides_8 : decode cX12_besides 8 = .ok (.istore_n 3, 1) := by decide +kernel
theorem dX12_besides_9 : decode cX12_besides 9 = .ok (.iload_n 1, 1) := by decide +kernel
theorem dX12_besides_10 : decode cX12_besides 10 = .ok (.iload_n 2, 1) := by decide +kernel
theorem dX12_besides_11 : decode cX12_besides 11 = .ok (.if_icmp .lt 11, 3) := by decide +kernel
theorem dX12_besides_14 : decode cX12_besides 14 = .ok (.iload_n 3, 1) := by decide +kernel
theorem dX12_besides_15 : decode cX12_besides 15 = .ok (.iconst 1, 1) := by decide +kernel
theorem dX12_besides_16 : decode cX12_besides 16 = .ok (.iload_n 1, 1) := by decide +kernel
theorem dX12_besides_17 : decode cX12_besides 17 = .ok (.iload_n 2, 1) := by decide +kernel
theorem dX12_besides_18 : decode cX12_besides 18 = .ok (.isub, 1) := by decide +kernel
theorem dX12_besides_19 : decode cX12_besides 19 = .ok (.ishl, 1) := by decide +kernel
theorem dX12_besides_20 : decode cX12_besides 20 = .ok (.ior, 1) := by decide +kernel
theorem dX12_besides_21 : decode cX12_besides 21 = .ok (.istore_n 3, 1) := by decide +kernel
theorem dX12_besides_22 : decode cX12_besides 22 = .ok (.aload_n 0, 1) := by decide +kernel
theorem dX12_besides_23 : decode cX12_besides 23 = .ok (.iload_n 1, 1) := by decide +kernel
theorem dX12_besides_24 : decode cX12_besides 24 = .ok (.iload_n 2, 1) := by decide +kernel
theorem dX12_besides_25 : decode cX12_besides 25 = .ok (.iadd, 1) := by decide +kernel
theorem dX12_besides_26 : decode cX12_besides 26 = .ok (.i2l, 1) := by decide +kernel
theorem dX12_besides_27 : decode cX12_besides 27 = .ok (.invokevirtual 230, 3) := by decide +kernel
theorem dX12_besides_30 : decode cX12_besides 30 = .ok (.ifCond .eq 11, 3) := by decide +kernel
theorem dX12_besides_33 : decode cX12_besides 33 = .ok (.iload_n 3, 1) := by decide +kernel
theorem dX12_besides_34 : decode cX12_besides 34 = .ok (.iconst 1, 1) := by decide +kernel
theorem dX12_besides_35 : decode cX12_besides 35 = .ok (.iload_n 1, 1) := by decide +kernel
theorem dX12_besides_36 : decode cX12_besides 36 = .ok (.iload_n 2, 1) := by decide +kernel
theorem dX12_besides_37 : decode cX12_besides 37 = .ok (.iadd, 1) := by decide +kernel
theorem dX12_besides_38 : decode cX12_besides 38 = .ok (.ishl, 1) := by decide +kernel
theorem dX12_besides_39 : decode cX12_besides 39 = .ok (.ior, 1) := by decide +kernel
theorem dX12_besides_40 : decode cX12_besides 40 = .ok (.istore_n 3, 1) := by decide +kernel
theorem dX12_besides_41 : decode cX12_besides 41 = .ok (.iload_n 1, 1) := by decide +kernel
theorem dX12_besides_42 : decode cX12_besides 42 = .ok (.iload_n 2, 1) := by decide +kernel
theorem dX12_besides_43 : decode cX12_besides 43 = .ok (.irem, 1) := by decide +kernel
theorem dX12_besides_44 : decode cX12_besides 44 = .ok (.ifCond .le 11, 3) := by decide +kernel
theorem dX12_besides_47 : decode cX12_besides 47 = .ok (.iload_n 3, 1) := by decide +kernel
theorem dX12_besides_48 : decode cX12_besides 48 = .ok (.iconst 1, 1) := by decide +kernel
theorem dX12_besides_49 : decode cX12_besides 49 = .ok (.iload_n 1, 1) := by decide +kernel
theorem dX12_besides_50 : decode cX12_besides 50 = .ok (.iconst 1, 1) := by decide +kernel
theorem dX12_besides_51 : decode cX12_besides 51 = .ok (.isub, 1) := by decide +kernel
theorem dX12_besides_52 : decode cX12_besides 52 = .ok (.ishl, 1) := by decide +kernel
theorem dX12_besides_53 : decode cX12_besides 53 = .ok (.ior, 1) := by decide +kernel
theorem dX12_besides_54 : decode cX12_besides 54 = .ok (.istore_n 3, 1) := by decide +kernel
theorem dX12_besides_55 : decode cX12_besides 55 = .ok (.iload_n 1, 1) := by decide +kernel
theorem dX12_besides_56 : decode cX12_besides 56 = .ok (.iload_n 2, 1) := by decide +kernel
theorem dX12_besides_57 : decode cX12_besides 57 = .ok (.irem, 1) := by decide +kernel
theorem dX12_besides_58 : decode cX12_besides 58 = .ok (.iload_n 2, 1) := by decide +kernel
theorem dX12_besides_59 : decode cX12_besides 59 = .ok (.iconst 1, 1) := by decide +kernel
theorem dX12_besides_60 : decode cX12_besides 60 = .ok (.isub, 1) := by decide +kernel
theorem dX12_besides_61 : decode cX12_besides 61 = .ok (.if_icmp .ge 11, 3) := by decide +kernel
theorem dX12_besides_64 : decode cX12_besides 64 = .ok (.iload_n 3, 1) := by decide +kernel
theorem dX12_besides_65 : decode cX12_besides 65 = .ok (.iconst 1, 1) := by decide +kernel
theorem dX12_besides_66 : decode cX12_besides 66 = .ok (.iload_n 1, 1) := by decide +kernel
theorem dX12_besides_67 : decode cX12_besides 67 = .ok (.iconst 1, 1) := by decide +kernel
theorem dX12_besides_68 : decode cX12_besides 68 = .ok (.iadd, 1) := by decide +kernel
theorem dX12_besides_69 : decode cX12_besides 69 = .ok (.ishl, 1) := by decide +kernel
theorem dX12_besides_70 : decode cX12_besides 70 = .ok (.ior, 1) := by decide +kernel
theorem dX12_besides_71 : decode cX12_besides 71 = .ok (.istore_n 3, 1) := by decide +kernel
theorem dX12_besides_72 : decode cX12_besides 72 = .ok (.iload_n 3, 1) := by decide +kernel
theorem dX12_besides_73 : decode cX12_besides 73 = .ok (.ireturn, 1) := by decide +kernel
theorem dX12_standing_0 : decode cX12_standing 0 = .ok (.iconst 1, 1) := by decide +kernel
theorem dX12_standing_1 : decode cX12_standing 1 = .ok (.aload_n 0, 1) := by decide +kernel
theorem dX12_standing_2 : decode cX12_standing 2 = .ok (.getfield 13, 3) := by decide +kernel
theorem dX12_standing_5 : decode cX12_standing 5 = .ok (.bipush 92, 2) := by decide +kernel
theorem dX12_standing_7 : decode cX12_standing 7 = .ok (.iaload, 1) := by decide +kernel
theorem dX12_standing_8 : decode cX12_standing 8 = .ok (.ishl, 1) := by decide +kernel
theorem dX12_standing_9 : decode cX12_standing 9 = .ok (.iconst 1, 1) := by decide +kernel
theorem dX12_standing_10 : decode cX12_standing 10 = .ok (.isub, 1) := by decide +kernel
theorem dX12_standing_11 : decode cX12_standing 11 = .ok (.aload_n 0, 1) := by decide +kernel
theorem dX12_standing_12 : decode cX12_standing 12 = .ok (.getfield 13, 3) := by decide +kernel
theorem dX12_standing_15 : decode cX12_standing 15 = .ok (.bipush 105, 2) := by decide +kernel
theorem dX12_standing_17 : decode cX12_standing 17 = .ok (.iaload, 1) := by decide +kernel
theorem dX12_standing_18 : decode cX12_standing 18 = .ok (.iconst (-1), 1) := by decide +kernel
theorem dX12_standing_19 : decode cX12_standing 19 = .ok (.ixor, 1) := by decide +kernel
theorem dX12_standing_20 : decode cX12_standing 20 = .ok (.iand, 1) := by decide +kernel
theorem dX12_standing_21 : decode cX12_standing 21 = .ok (.ireturn, 1) := by decide +kernel
theorem dX12_between_0 : decode cX12_between 0 = .ok (.iload_n 0, 1) := by decide +kernel
theorem dX12_between_1 : decode cX12_between 1 = .ok (.tableswitch 80 3003 3008 #[39, 50, 61, 80, 72, 76], 39) := by decide +kernel
theorem dX12_between_40 : decode cX12_between 40 = .ok (.iload_n 1, 1) := by decide +kernel
theorem dX12_between_41 : decode cX12_between 41 = .ok (.iload_n 2, 1) := by decide +kernel
theorem dX12_between_42 : decode cX12_between 42 = .ok (.if_icmp .ne 7, 3) := by decide +kernel
theorem dX12_between_45 : decode cX12_between 45 = .ok (.iconst 1, 1) := by decide +kernel
theorem dX12_between_46 : decode cX12_between 46 = .ok (.goto 4, 3) := by decide +kernel
theorem dX12_between_49 : decode cX12_between 49 = .ok (.iconst 0, 1) := by decide +kernel
theorem dX12_between_50 : decode cX12_between 50 = .ok (.ireturn, 1) := by decide +kernel
theorem dX12_between_51 : decode cX12_between 51 = .ok (.iload_n 1, 1) := by decide +kernel
theorem dX12_between_52 : decode cX12_between 52 = .ok (.iload_n 2, 1) := by decide +kernel
theorem dX12_between_53 : decode cX12_between 53 = .ok (.if_icmp .ge 7, 3) := by decide +kernel
theorem dX12_between_56 : decode cX12_between 56 = .ok (.iconst 1, 1) := by decide +kernel
theorem dX12_between_57 : decode cX12_between 57 = .ok (.goto 4, 3) := by decide +kernel
theorem dX12_between_60 : decode cX12_between 60 = .ok (.iconst 0, 1) := by decide +kernel
theorem dX12_between_61 : decode cX12_between 61 = .ok (.ireturn, 1) := by decide +kernel
theorem dX12_between_62 : decode cX12_between 62 = .ok (.iload_n 1, 1) := by decide +kernel
theorem dX12_between_63 : decode cX12_between 63 = .ok (.iload_n 2, 1) := by decide +kernel
theorem dX12_between_64 : decode cX12_between 64 = .ok (.if_icmp .le 7, 3) := by decide +kernel
theorem dX12_between_67 : decode cX12_between 67 = .ok (.iconst 1, 1) := by decide +kernel
theorem dX12_between_68 : decode cX12_between 68 = .ok (.goto 4, 3) := by decide +kernel
theorem dX12_between_71 : decode cX12_between 71 = .ok (.iconst 0, 1) := by decide +kernel
theorem dX12_between_72 : decode cX12_between 72 = .ok (.ireturn, 1) := by decide +kernel
theorem dX12_between_73 : decode cX12_between 73 = .ok (.iload_n 1, 1) := by decide +kernel
theorem dX12_between_74 : decode cX12_between 74 = .ok (.iload_n 2, 1) := by decide +kernel
theorem dX12_between_75 : decode cX12_between 75 = .ok (.iand, 1) := by decide +kernel
theorem dX12_between_76 : decode cX12_between 76 = .ok (.ireturn, 1) := by decide +kernel
theorem dX12_between_77 : decode cX12_between 77 = .ok (.iload_n 1, 1) := by decide +kernel
theorem dX12_between_78 : decode cX12_between 78 = .ok (.iload_n 2, 1) := by decide +kernel
theorem dX12_between_79 : decode cX12_between 79 = .ok (.ior, 1) := by decide +kernel
theorem dX12_between_80 : decode cX12_between 80 = .ok (.ireturn, 1) := by decide +kernel
theorem dX12_between_81 : decode cX12_between 81 = .ok (.iload_n 0, 1) := by decide +kernel
theorem dX12_between_82 : decode cX12_between 82 = .ok (.sipush 3000, 3) := by decide +kernel
theorem dX12_between_85 : decode cX12_between 85 = .ok (.if_icmp .ne 11, 3) := by decide +kernel
theorem dX12_between_88 : decode cX12_between 88 = .ok (.iload_n 1, 1) := by decide +kernel
theorem dX12_between_89 : decode cX12_between 89 = .ok (.i2l, 1) := by decide +kernel
theorem dX12_between_90 : decode cX12_between 90 = .ok (.iload_n 2, 1) := by decide +kernel
theorem dX12_between_91 : decode cX12_between 91 = .ok (.i2l, 1) := by decide +kernel
theorem dX12_between_92 : decode cX12_between 92 = .ok (.ladd, 1) := by decide +kernel
theorem dX12_between_93 : decode cX12_between 93 = .ok (.goto 23, 3) := by decide +kernel
theorem dX12_between_96 : decode cX12_between 96 = .ok (.iload_n 0, 1) := by decide +kernel
theorem dX12_between_97 : decode cX12_between 97 = .ok (.sipush 3001, 3) := by decide +kernel
theorem dX12_between_100 : decode cX12_between 100 = .ok (.if_icmp .ne 11, 3) := by decide +kernel
theorem dX12_between_103 : decode cX12_between 103 = .ok (.iload_n 1, 1) := by decide +kernel
theorem dX12_between_104 : decode cX12_between 104 = .ok (.i2l, 1) := by decide +kernel
theorem dX12_between_105 : decode cX12_between 105 = .ok (.iload_n 2, 1) := by decide +kernel
theorem dX12_between_106 : decode cX12_between 106 = .ok (.i2l, 1) := by decide +kernel
theorem dX12_between_107 : decode cX12_between 107 = .ok (.lsub, 1) := by decide +kernel
theorem dX12_between_108 : decode cX12_between 108 = .ok (.goto 8, 3) := by decide +kernel
theorem dX12_between_111 : decode cX12_between 111 = .ok (.iload_n 1, 1) := by decide +kernel
theorem dX12_between_112 : decode cX12_between 112 = .ok (.i2l, 1) := by decide +kernel
theorem dX12_between_113 : decode cX12_between 113 = .ok (.iload_n 2, 1) := by decide +kernel
theorem dX12_between_114 : decode cX12_between 114 = .ok (.i2l, 1) := by decide +kernel
theorem dX12_between_115 : decode cX12_between 115 = .ok (.lmul, 1) := by decide +kernel
theorem dX12_between_116 : decode cX12_between 116 = .ok (.lstore_n 3, 1) := by decide +kernel
theorem dX12_between_117 : decode cX12_between 117 = .ok (.lload_n 3, 1) := by decide +kernel
theorem dX12_between_118 : decode cX12_between 118 = .ok (.ldc2_w 234, 3) := by decide +kernel
theorem dX12_between_121 : decode cX12_between 121 = .ok (.lcmp, 1) := by decide +kernel
theorem dX12_between_122 : decode cX12_between 122 = .ok (.ifCond .le 9, 3) := by decide +kernel
theorem dX12_between_125 : decode cX12_between 125 = .ok (.ldc2_w 234, 3) := by decide +kernel
theorem dX12_between_128 : decode cX12_between 128 = .ok (.goto 18, 3) := by decide +kernel
theorem dX12_between_131 : decode cX12_between 131 = .ok (.lload_n 3, 1) := by decide +kernel
theorem dX12_between_132 : decode cX12_between 132 = .ok (.ldc2_w 236, 3) := by decide +kernel
theorem dX12_between_135 : decode cX12_between 135 = .ok (.lcmp, 1) := by decide +kernel
theorem dX12_between_136 : decode cX12_between 136 = .ok (.ifCond .ge 9, 3) := by decide +kernel
theorem dX12_between_139 : decode cX12_between 139 = .ok (.ldc2_w 236, 3) := by decide +kernel
theorem dX12_between_142 : decode cX12_between 142 = .ok (.goto 4, 3) := by decide +kernel
theorem dX12_between_145 : decode cX12_between 145 = .ok (.lload_n 3, 1) := by decide +kernel
theorem dX12_between_146 : decode cX12_between 146 = .ok (.l2i, 1) := by decide +kernel
theorem dX12_between_147 : decode cX12_between 147 = .ok (.ireturn, 1) := by decide +kernel
theorem dX12_reckons_0 : decode cX12_reckons 0 = .ok (.iconst 0, 1) := by decide +kernel
theorem dX12_reckons_1 : decode cX12_reckons 1 = .ok (.istore_n 2, 1) := by decide +kernel
theorem dX12_reckons_2 : decode cX12_reckons 2 = .ok (.iconst 0, 1) := by decide +kernel
theorem dX12_reckons_3 : decode cX12_reckons 3 = .ok (.istore_n 3, 1) := by decide +kernel
theorem dX12_reckons_4 : decode cX12_reckons 4 = .ok (.iload_n 3, 1) := by decide +kernel
theorem dX12_reckons_5 : decode cX12_reckons 5 = .ok (.aload_n 0, 1) := by decide +kernel
theorem dX12_reckons_6 : decode cX12_reckons 6 = .ok (.getfield 13, 3) := by decide +kernel
theorem dX12_reckons_9 : decode cX12_reckons 9 = .ok (.bipush 11, 2) := by decide +kernel
theorem dX12_reckons_11 : decode cX12_reckons 11 = .ok (.iload_n 1, 1) := by decide +kernel
theorem dX12_reckons_12 : decode cX12_reckons 12 = .ok (.iadd, 1) := by decide +kernel
theorem dX12_reckons_13 : decode cX12_reckons 13 = .ok (.iaload, 1) := by decide +kernel
theorem dX12_reckons_14 : decode cX12_reckons 14 = .ok (.if_icmp .ge 185, 3) := by decide +kernel
theorem dX12_reckons_17 : decode cX12_reckons 17 = .ok (.aload_n 0, 1) := by decide +kernel
theorem dX12_reckons_18 : decode cX12_reckons 18 = .ok (.getfield 13, 3) := by decide +kernel
theorem dX12_reckons_21 : decode cX12_reckons 21 = .ok (.sipush 520, 3) := by decide +kernel
theorem dX12_reckons_24 : decode cX12_reckons 24 = .ok (.aload_n 0, 1) := by decide +kernel
theorem dX12_reckons_25 : decode cX12_reckons 25 = .ok (.getfield 13, 3) := by decide +kernel
theorem dX12_reckons_28 : decode cX12_reckons 28 = .ok (.bipush 9, 2) := by decide +kernel
theorem dX12_reckons_30 : decode cX12_reckons 30 = .ok (.iload_n 1, 1) := by decide +kernel
theorem dX12_reckons_31 : decode cX12_reckons 31 = .ok (.iadd, 1) := by decide +kernel
theorem dX12_reckons_32 : decode cX12_reckons 32 = .ok (.iaload, 1) := by decide +kernel
theorem dX12_reckons_33 : decode cX12_reckons 33 = .ok (.iadd, 1) := by decide +kernel
theorem dX12_reckons_34 : decode cX12_reckons 34 = .ok (.iload_n 3, 1) := by decide +kernel
theorem dX12_reckons_35 : decode cX12_reckons 35 = .ok (.iadd, 1) := by decide +kernel
theorem dX12_reckons_36 : decode cX12_reckons 36 = .ok (.iaload, 1) := by decide +kernel
theorem dX12_reckons_37 : decode cX12_reckons 37 = .ok (.istore 4, 2) := by decide +kernel
theorem dX12_reckons_39 : decode cX12_reckons 39 = .ok (.iload 4, 2) := by decide +kernel
theorem dX12_reckons_41 : decode cX12_reckons 41 = .ok (.sipush 3000, 3) := by decide +kernel
theorem dX12_reckons_44 : decode cX12_reckons 44 = .ok (.if_icmp .ge 39, 3) := by decide +kernel
theorem dX12_reckons_47 : decode cX12_reckons 47 = .ok (.aload_n 0, 1) := by decide +kernel
theorem dX12_reckons_48 : decode cX12_reckons 48 = .ok (.getfield 30, 3) := by decide +kernel
theorem dX12_reckons_51 : decode cX12_reckons 51 = .ok (.iload_n 2, 1) := by decide +kernel
theorem dX12_reckons_52 : decode cX12_reckons 52 = .ok (.iload 4, 2) := by decide +kernel
theorem dX12_reckons_54 : decode cX12_reckons 54 = .ok (.sipush 1000, 3) := by decide +kernel
theorem dX12_reckons_57 : decode cX12_reckons 57 = .ok (.if_icmp .ge 8, 3) := by decide +kernel
theorem dX12_reckons_60 : decode cX12_reckons 60 = .ok (.iload 4, 2) := by decide +kernel
theorem dX12_reckons_62 : decode cX12_reckons 62 = .ok (.goto 14, 3) := by decide +kernel
theorem dX12_reckons_65 : decode cX12_reckons 65 = .ok (.aload_n 0, 1) := by decide +kernel
theorem dX12_reckons_66 : decode cX12_reckons 66 = .ok (.getfield 33, 3) := by decide +kernel
theorem dX12_reckons_69 : decode cX12_reckons 69 = .ok (.iload 4, 2) := by decide +kernel
theorem dX12_reckons_71 : decode cX12_reckons 71 = .ok (.sipush 1000, 3) := by decide +kernel
theorem dX12_reckons_74 : decode cX12_reckons 74 = .ok (.isub, 1) := by decide +kernel
theorem dX12_reckons_75 : decode cX12_reckons 75 = .ok (.iaload, 1) := by decide +kernel
theorem dX12_reckons_76 : decode cX12_reckons 76 = .ok (.iastore, 1) := by decide +kernel
theorem dX12_reckons_77 : decode cX12_reckons 77 = .ok (.iinc 2 1, 3) := by decide +kernel
theorem dX12_reckons_80 : decode cX12_reckons 80 = .ok (.goto 113, 3) := by decide +kernel
theorem dX12_reckons_83 : decode cX12_reckons 83 = .ok (.iload 4, 2) := by decide +kernel
theorem dX12_reckons_85 : decode cX12_reckons 85 = .ok (.sipush 3006, 3) := by decide +kernel
theorem dX12_reckons_88 : decode cX12_reckons 88 = .ok (.if_icmp .ne 24, 3) := by decide +kernel
theorem dX12_reckons_91 : decode cX12_reckons 91 = .ok (.aload_n 0, 1) := by decide +kernel
theorem dX12_reckons_92 : decode cX12_reckons 92 = .ok (.getfield 30, 3) := by decide +kernel
theorem dX12_reckons_95 : decode cX12_reckons 95 = .ok (.iload_n 2, 1) := by decide +kernel
theorem dX12_reckons_96 : decode cX12_reckons 96 = .ok (.iconst 1, 1) := by decide +kernel
theorem dX12_reckons_97 : decode cX12_reckons 97 = .ok (.isub, 1) := by decide +kernel
theorem dX12_reckons_98 : decode cX12_reckons 98 = .ok (.iconst 1, 1) := by decide +kernel
theorem dX12_reckons_99 : decode cX12_reckons 99 = .ok (.aload_n 0, 1) := by decide +kernel
theorem dX12_reckons_100 : decode cX12_reckons 100 = .ok (.getfield 30, 3) := by decide +kernel
theorem dX12_reckons_103 : decode cX12_reckons 103 = .ok (.iload_n 2, 1) := by decide +kernel
theorem dX12_reckons_104 : decode cX12_reckons 104 = .ok (.iconst 1, 1) := by decide +kernel
theorem dX12_reckons_105 : decode cX12_reckons 105 = .ok (.isub, 1) := by decide +kernel
theorem dX12_reckons_106 : decode cX12_reckons 106 = .ok (.iaload, 1) := by decide +kernel
theorem dX12_reckons_107 : decode cX12_reckons 107 = .ok (.isub, 1) := by decide +kernel
theorem dX12_reckons_108 : decode cX12_reckons 108 = .ok (.iastore, 1) := by decide +kernel
theorem dX12_reckons_109 : decode cX12_reckons 109 = .ok (.goto 84, 3) := by decide +kernel
theorem dX12_reckons_112 : decode cX12_reckons 112 = .ok (.iload 4, 2) := by decide +kernel
theorem dX12_reckons_114 : decode cX12_reckons 114 = .ok (.sipush 3009, 3) := by decide +kernel
theorem dX12_reckons_117 : decode cX12_reckons 117 = .ok (.if_icmp .ne 46, 3) := by decide +kernel
theorem dX12_reckons_120 : decode cX12_reckons 120 = .ok (.iinc 2 (-2), 3) := by decide +kernel
theorem dX12_reckons_123 : decode cX12_reckons 123 = .ok (.aload_n 0, 1) := by decide +kernel
theorem dX12_reckons_124 : decode cX12_reckons 124 = .ok (.getfield 30, 3) := by decide +kernel
theorem dX12_reckons_127 : decode cX12_reckons 127 = .ok (.iload_n 2, 1) := by decide +kernel
theorem dX12_reckons_128 : decode cX12_reckons 128 = .ok (.iconst 1, 1) := by decide +kernel
theorem dX12_reckons_129 : decode cX12_reckons 129 = .ok (.isub, 1) := by decide +kernel
theorem dX12_reckons_130 : decode cX12_reckons 130 = .ok (.aload_n 0, 1) := by decide +kernel
theorem dX12_reckons_131 : decode cX12_reckons 131 = .ok (.getfield 30, 3) := by decide +kernel
theorem dX12_reckons_134 : decode cX12_reckons 134 = .ok (.iload_n 2, 1) := by decide +kernel
theorem dX12_reckons_135 : decode cX12_reckons 135 = .ok (.iconst 1, 1) := by decide +kernel
theorem dX12_reckons_136 : decode cX12_reckons 136 = .ok (.isub, 1) := by decide +kernel
theorem dX12_reckons_137 : decode cX12_reckons 137 = .ok (.iaload, 1) := by decide +kernel
theorem dX12_reckons_138 : decode cX12_reckons 138 = .ok (.iconst 1, 1) := by decide +kernel
theorem dX12_reckons_139 : decode cX12_reckons 139 = .ok (.if_icmp .ne 12, 3) := by decide +kernel
theorem dX12_reckons_142 : decode cX12_reckons 142 = .ok (.aload_n 0, 1) := by decide +kernel
theorem dX12_reckons_143 : decode cX12_reckons 143 = .ok (.getfield 30, 3) := by decide +kernel
theorem dX12_reckons_146 : decode cX12_reckons 146 = .ok (.iload_n 2, 1) := by decide +kernel
theorem dX12_reckons_147 : decode cX12_reckons 147 = .ok (.iaload, 1) := by decide +kernel
theorem dX12_reckons_148 : decode cX12_reckons 148 = .ok (.goto 11, 3) := by decide +kernel
theorem dX12_reckons_151 : decode cX12_reckons 151 = .ok (.aload_n 0, 1) := by decide +kernel
theorem dX12_reckons_152 : decode cX12_reckons 152 = .ok (.getfield 30, 3) := by decide +kernel
theorem dX12_reckons_155 : decode cX12_reckons 155 = .ok (.iload_n 2, 1) := by decide +kernel
theorem dX12_reckons_156 : decode cX12_reckons 156 = .ok (.iconst 1, 1) := by decide +kernel
theorem dX12_reckons_157 : decode cX12_reckons 157 = .ok (.iadd, 1) := by decide +kernel
theorem dX12_reckons_158 : decode cX12_reckons 158 = .ok (.iaload, 1) := by decide +kernel
theorem dX12_reckons_159 : decode cX12_reckons 159 = .ok (.iastore, 1) := by decide +kernel
theorem dX12_reckons_160 : decode cX12_reckons 160 = .ok (.goto 33, 3) := by decide +kernel
theorem dX12_reckons_163 : decode cX12_reckons 163 = .ok (.iinc 2 (-1), 3) := by decide +kernel
theorem dX12_reckons_166 : decode cX12_reckons 166 = .ok (.aload_n 0, 1) := by decide +kernel
theorem dX12_reckons_167 : decode cX12_reckons 167 = .ok (.getfield 30, 3) := by decide +kernel
theorem dX12_reckons_170 : decode cX12_reckons 170 = .ok (.iload_n 2, 1) := by decide +kernel
theorem dX12_reckons_171 : decode cX12_reckons 171 = .ok (.iconst 1, 1) := by decide +kernel
theorem dX12_reckons_172 : decode cX12_reckons 172 = .ok (.isub, 1) := by decide +kernel
theorem dX12_reckons_173 : decode cX12_reckons 173 = .ok (.iload 4, 2) := by decide +kernel
theorem dX12_reckons_175 : decode cX12_reckons 175 = .ok (.aload_n 0, 1) := by decide +kernel
theorem dX12_reckons_176 : decode cX12_reckons 176 = .ok (.getfield 30, 3) := by decide +kernel
theorem dX12_reckons_179 : decode cX12_reckons 179 = .ok (.iload_n 2, 1) := by decide +kernel
theorem dX12_reckons_180 : decode cX12_reckons 180 = .ok (.iconst 1, 1) := by decide +kernel
theorem dX12_reckons_181 : decode cX12_reckons 181 = .ok (.isub, 1) := by decide +kernel
theorem dX12_reckons_182 : decode cX12_reckons 182 = .ok (.iaload, 1) := by decide +kernel
theorem dX12_reckons_183 : decode cX12_reckons 183 = .ok (.aload_n 0, 1) := by decide +kernel
theorem dX12_reckons_184 : decode cX12_reckons 184 = .ok (.getfield 30, 3) := by decide +kernel
theorem dX12_reckons_187 : decode cX12_reckons 187 = .ok (.iload_n 2, 1) := by decide +kernel
theorem dX12_reckons_188 : decode cX12_reckons 188 = .ok (.iaload, 1) := by decide +kernel
theorem dX12_reckons_189 : decode cX12_reckons 189 = .ok (.invokestatic 238, 3) := by decide +kernel
theorem dX12_reckons_192 : decode cX12_reckons 192 = .ok (.iastore, 1) := by decide +kernel
theorem dX12_reckons_193 : decode cX12_reckons 193 = .ok (.iinc 3 1, 3) := by decide +kernel
theorem dX12_reckons_196 : decode cX12_reckons 196 = .ok (.goto (-192), 3) := by decide +kernel
theorem dX12_reckons_199 : decode cX12_reckons 199 = .ok (.aload_n 0, 1) := by decide +kernel
theorem dX12_reckons_200 : decode cX12_reckons 200 = .ok (.getfield 30, 3) := by decide +kernel
theorem dX12_reckons_203 : decode cX12_reckons 203 = .ok (.iconst 0, 1) := by decide +kernel
theorem dX12_reckons_204 : decode cX12_reckons 204 = .ok (.iaload, 1) := by decide +kernel
theorem dX12_reckons_205 : decode cX12_reckons 205 = .ok (.ireturn, 1) := by decide +kernel
theorem dX12_kept_0 : decode cX12_kept 0 = .ok (.iload_n 0, 1) := by decide +kernel
theorem dX12_kept_1 : decode cX12_kept 1 = .ok (.ifCond .ge 7, 3) := by decide +kernel
theorem dX12_kept_4 : decode cX12_kept 4 = .ok (.iconst 0, 1) := by decide +kernel
theorem dX12_kept_5 : decode cX12_kept 5 = .ok (.goto 13, 3) := by decide +kernel
theorem dX12_kept_8 : decode cX12_kept 8 = .ok (.iload_n 0, 1) := by decide +kernel
theorem dX12_kept_9 : decode cX12_kept 9 = .ok (.iload_n 1, 1) := by decide +kernel
theorem dX12_kept_10 : decode cX12_kept 10 = .ok (.if_icmp .le 7, 3) := by decide +kernel
theorem dX12_kept_13 : decode cX12_kept 13 = .ok (.iload_n 1, 1) := by decide +kernel
theorem dX12_kept_14 : decode cX12_kept 14 = .ok (.goto 4, 3) := by decide +kernel
theorem dX12_kept_17 : decode cX12_kept 17 = .ok (.iload_n 0, 1) := by decide +kernel
theorem dX12_kept_18 : decode cX12_kept 18 = .ok (.ireturn, 1) := by decide +kernel
theorem dX12_levelOf_0 : decode cX12_levelOf 0 = .ok (.aload_n 0, 1) := by decide +kernel
theorem dX12_levelOf_1 : decode cX12_levelOf 1 = .ok (.getfield 33, 3) := by decide +kernel
theorem dX12_levelOf_4 : decode cX12_levelOf 4 = .ok (.iconst 0, 1) := by decide +kernel
theorem dX12_levelOf_5 : decode cX12_levelOf 5 = .ok (.iload_n 1, 1) := by decide +kernel
theorem dX12_levelOf_6 : decode cX12_levelOf 6 = .ok (.iastore, 1) := by decide +kernel
theorem dX12_levelOf_7 : decode cX12_levelOf 7 = .ok (.aload_n 0, 1) := by decide +kernel
theorem dX12_levelOf_8 : decode cX12_levelOf 8 = .ok (.getfield 33, 3) := by decide +kernel
theorem dX12_levelOf_11 : decode cX12_levelOf 11 = .ok (.iconst 1, 1) := by decide +kernel
theorem dX12_levelOf_12 : decode cX12_levelOf 12 = .ok (.iload_n 2, 1) := by decide +kernel
theorem dX12_levelOf_13 : decode cX12_levelOf 13 = .ok (.iastore, 1) := by decide +kernel
theorem dX12_levelOf_14 : decode cX12_levelOf 14 = .ok (.aload_n 0, 1) := by decide +kernel
theorem dX12_levelOf_15 : decode cX12_levelOf 15 = .ok (.getfield 13, 3) := by decide +kernel
theorem dX12_levelOf_18 : decode cX12_levelOf 18 = .ok (.bipush 7, 2) := by decide +kernel
theorem dX12_levelOf_20 : decode cX12_levelOf 20 = .ok (.iaload, 1) := by decide +kernel
theorem dX12_levelOf_21 : decode cX12_levelOf 21 = .ok (.iconst 1, 1) := by decide +kernel
theorem dX12_levelOf_22 : decode cX12_levelOf 22 = .ok (.if_icmp .ne 14, 3) := by decide +kernel
theorem dX12_levelOf_25 : decode cX12_levelOf 25 = .ok (.aload_n 0, 1) := by decide +kernel
theorem dX12_levelOf_26 : decode cX12_levelOf 26 = .ok (.iconst 0, 1) := by decide +kernel
theorem dX12_levelOf_27 : decode cX12_levelOf 27 = .ok (.invokevirtual 241, 3) := by decide +kernel
theorem dX12_levelOf_30 : decode cX12_levelOf 30 = .ok (.bipush 10, 2) := by decide +kernel
theorem dX12_levelOf_32 : decode cX12_levelOf 32 = .ok (.invokestatic 244, 3) := by decide +kernel
theorem dX12_levelOf_35 : decode cX12_levelOf 35 = .ok (.ireturn, 1) := by decide +kernel
theorem dX12_levelOf_36 : decode cX12_levelOf 36 = .ok (.iload_n 1, 1) := by decide +kernel
theorem dX12_levelOf_37 : decode cX12_levelOf 37 = .ok (.bipush 18, 2) := by decide +kernel
theorem dX12_levelOf_39 : decode cX12_levelOf 39 = .ok (.irem, 1) := by decide +kernel
theorem dX12_levelOf_40 : decode cX12_levelOf 40 = .ok (.istore_n 3, 1) := by decide +kernel
theorem dX12_levelOf_41 : decode cX12_levelOf 41 = .ok (.iload_n 3, 1) := by decide +kernel
theorem dX12_levelOf_42 : decode cX12_levelOf 42 = .ok (.bipush 9, 2) := by decide +kernel
theorem dX12_levelOf_44 : decode cX12_levelOf 44 = .ok (.if_icmp .le 10, 3) := by decide +kernel
theorem dX12_levelOf_47 : decode cX12_levelOf 47 = .ok (.bipush 18, 2) := by decide +kernel
theorem dX12_levelOf_49 : decode cX12_levelOf 49 = .ok (.iload_n 3, 1) := by decide +kernel
theorem dX12_levelOf_50 : decode cX12_levelOf 50 = .ok (.isub, 1) := by decide +kernel
theorem dX12_levelOf_51 : decode cX12_levelOf 51 = .ok (.goto 4, 3) := by decide +kernel
theorem dX12_levelOf_54 : decode cX12_levelOf 54 = .ok (.iload_n 3, 1) := by decide +kernel
theorem dX12_levelOf_55 : decode cX12_levelOf 55 = .ok (.ireturn, 1) := by decide +kernel
theorem dX12_begins_0 : decode cX12_begins 0 = .ok (.iconst 0, 1) := by decide +kernel
theorem dX12_begins_1 : decode cX12_begins 1 = .ok (.istore_n 1, 1) := by decide +kernel
theorem dX12_begins_2 : decode cX12_begins 2 = .ok (.iload_n 1, 1) := by decide +kernel
theorem dX12_begins_3 : decode cX12_begins 3 = .ok (.bipush 25, 2) := by decide +kernel
theorem dX12_begins_5 : decode cX12_begins 5 = .ok (.if_icmp .ge 24, 3) := by decide +kernel
theorem dX12_begins_8 : decode cX12_begins 8 = .ok (.aload_n 0, 1) := by decide +kernel
theorem dX12_begins_9 : decode cX12_begins 9 = .ok (.getfield 36, 3) := by decide +kernel
theorem dX12_begins_12 : decode cX12_begins 12 = .ok (.iload_n 1, 1) := by decide +kernel
theorem dX12_begins_13 : decode cX12_begins 13 = .ok (.aload_n 0, 1) := by decide +kernel
theorem dX12_begins_14 : decode cX12_begins 14 = .ok (.getfield 13, 3) := by decide +kernel
theorem dX12_begins_17 : decode cX12_begins 17 = .ok (.bipush 67, 2) := by decide +kernel
theorem dX12_begins_19 : decode cX12_begins 19 = .ok (.iload_n 1, 1) := by decide +kernel
theorem dX12_begins_20 : decode cX12_begins 20 = .ok (.iadd, 1) := by decide +kernel
theorem dX12_begins_21 : decode cX12_begins 21 = .ok (.iaload, 1) := by decide +kernel
theorem dX12_begins_22 : decode cX12_begins 22 = .ok (.iastore, 1) := by decide +kernel
theorem dX12_begins_23 : decode cX12_begins 23 = .ok (.iinc 1 1, 3) := by decide +kernel
theorem dX12_begins_26 : decode cX12_begins 26 = .ok (.goto (-24), 3) := by decide +kernel
theorem dX12_begins_29 : decode cX12_begins 29 = .ok (.aload_n 0, 1) := by decide +kernel
theorem dX12_begins_30 : decode cX12_begins 30 = .ok (.aload_n 0, 1) := by decide +kernel
theorem dX12_begins_31 : decode cX12_begins 31 = .ok (.getfield 13, 3) := by decide +kernel
theorem dX12_begins_34 : decode cX12_begins 34 = .ok (.bipush 105, 2) := by decide +kernel
theorem dX12_begins_36 : decode cX12_begins 36 = .ok (.iaload, 1) := by decide +kernel
theorem dX12_begins_37 : decode cX12_begins 37 = .ok (.putfield 247, 3) := by decide +kernel
theorem dX12_begins_40 : decode cX12_begins 40 = .ok (.aload_n 0, 1) := by decide +kernel
theorem dX12_begins_41 : decode cX12_begins 41 = .ok (.aload_n 0, 1) := by decide +kernel
theorem dX12_begins_42 : decode cX12_begins 42 = .ok (.getfield 13, 3) := by decide +kernel
theorem dX12_begins_45 : decode cX12_begins 45 = .ok (.bipush 107, 2) := by decide +kernel
theorem dX12_begins_47 : decode cX12_begins 47 = .ok (.iaload, 1) := by decide +kernel
theorem dX12_begins_48 : decode cX12_begins 48 = .ok (.putfield 250, 3) := by decide +kernel
theorem dX12_begins_51 : decode cX12_begins 51 = .ok (.return_, 1) := by decide +kernel
theorem dX12_wetOf_0 : decode cX12_wetOf 0 = .ok (.iconst 0, 1) := by decide +kernel
theorem dX12_wetOf_1 : decode cX12_wetOf 1 = .ok (.istore_n 2, 1) := by decide +kernel
theorem dX12_wetOf_2 : decode cX12_wetOf 2 = .ok (.iconst 1, 1) := by decide +kernel
theorem dX12_wetOf_3 : decode cX12_wetOf 3 = .ok (.istore_n 3, 1) := by decide +kernel
theorem dX12_wetOf_4 : decode cX12_wetOf 4 = .ok (.iload_n 3, 1) := by decide +kernel
theorem dX12_wetOf_5 : decode cX12_wetOf 5 = .ok (.ifCond .eq 82, 3) := by decide +kernel
theorem dX12_wetOf_8 : decode cX12_wetOf 8 = .ok (.iconst 0, 1) := by decide +kernel
theorem dX12_wetOf_9 : decode cX12_wetOf 9 = .ok (.istore_n 3, 1) := by decide +kernel
theorem dX12_wetOf_10 : decode cX12_wetOf 10 = .ok (.iconst 0, 1) := by decide +kernel
theorem dX12_wetOf_11 : decode cX12_wetOf 11 = .ok (.istore 4, 2) := by decide +kernel
theorem dX12_wetOf_13 : decode cX12_wetOf 13 = .ok (.aload_n 0, 1) := by decide +kernel
theorem dX12_wetOf_14 : decode cX12_wetOf 14 = .ok (.iload 4, 2) := by decide +kernel
theorem dX12_wetOf_16 : decode cX12_wetOf 16 = .ok (.i2l, 1) := by decide +kernel
theorem dX12_wetOf_17 : decode cX12_wetOf 17 = .ok (.invokevirtual 230, 3) := by decide +kernel
theorem dX12_wetOf_20 : decode cX12_wetOf 20 = .ok (.ifCond .eq 64, 3) := by decide +kernel
theorem dX12_wetOf_23 : decode cX12_wetOf 23 = .ok (.iload_n 2, 1) := by decide +kernel
theorem dX12_wetOf_24 : decode cX12_wetOf 24 = .ok (.i2l, 1) := by decide +kernel
theorem dX12_wetOf_25 : decode cX12_wetOf 25 = .ok (.iload 4, 2) := by decide +kernel
theorem dX12_wetOf_27 : decode cX12_wetOf 27 = .ok (.invokestatic 253, 3) := by decide +kernel
theorem dX12_wetOf_30 : decode cX12_wetOf 30 = .ok (.ifCond .ne 48, 3) := by decide +kernel
theorem dX12_wetOf_33 : decode cX12_wetOf 33 = .ok (.aload_n 0, 1) := by decide +kernel
theorem dX12_wetOf_34 : decode cX12_wetOf 34 = .ok (.getfield 36, 3) := by decide +kernel
theorem dX12_wetOf_37 : decode cX12_wetOf 37 = .ok (.iload 4, 2) := by decide +kernel
theorem dX12_wetOf_39 : decode cX12_wetOf 39 = .ok (.iaload, 1) := by decide +kernel
theorem dX12_wetOf_40 : decode cX12_wetOf 40 = .ok (.iload_n 1, 1) := by decide +kernel
theorem dX12_wetOf_41 : decode cX12_wetOf 41 = .ok (.if_icmp .ge 37, 3) := by decide +kernel
theorem dX12_wetOf_44 : decode cX12_wetOf 44 = .ok (.iload 4, 2) := by decide +kernel
theorem dX12_wetOf_46 : decode cX12_wetOf 46 = .ok (.aload_n 0, 1) := by decide +kernel
theorem dX12_wetOf_47 : decode cX12_wetOf 47 = .ok (.getfield 13, 3) := by decide +kernel
theorem dX12_wetOf_50 : decode cX12_wetOf 50 = .ok (.iconst 2, 1) := by decide +kernel
theorem dX12_wetOf_51 : decode cX12_wetOf 51 = .ok (.iaload, 1) := by decide +kernel
theorem dX12_wetOf_52 : decode cX12_wetOf 52 = .ok (.if_icmp .lt 17, 3) := by decide +kernel
theorem dX12_wetOf_55 : decode cX12_wetOf 55 = .ok (.aload_n 0, 1) := by decide +kernel
theorem dX12_wetOf_56 : decode cX12_wetOf 56 = .ok (.iload 4, 2) := by decide +kernel
theorem dX12_wetOf_58 : decode cX12_wetOf 58 = .ok (.invokevirtual 257, 3) := by decide +kernel
theorem dX12_wetOf_61 : decode cX12_wetOf 61 = .ok (.iload_n 2, 1) := by decide +kernel
theorem dX12_wetOf_62 : decode cX12_wetOf 62 = .ok (.iand, 1) := by decide +kernel
theorem dX12_wetOf_63 : decode cX12_wetOf 63 = .ok (.ifCond .ne 6, 3) := by decide +kernel
theorem dX12_wetOf_66 : decode cX12_wetOf 66 = .ok (.goto 12, 3) := by decide +kernel
theorem dX12_wetOf_69 : decode cX12_wetOf 69 = .ok (.iload_n 2, 1) := by decide +kernel
theorem dX12_wetOf_70 : decode cX12_wetOf 70 = .ok (.iconst 1, 1) := by decide +kernel
theorem dX12_wetOf_71 : decode cX12_wetOf 71 = .ok (.iload 4, 2) := by decide +kernel
theorem dX12_wetOf_73 : decode cX12_wetOf 73 = .ok (.ishl, 1) := by decide +kernel
theorem dX12_wetOf_74 : decode cX12_wetOf 74 = .ok (.ior, 1) := by decide +kernel
theorem dX12_wetOf_75 : decode cX12_wetOf 75 = .ok (.istore_n 2, 1) := by decide +kernel
theorem dX12_wetOf_76 : decode cX12_wetOf 76 = .ok (.iconst 1, 1) := by decide +kernel
theorem dX12_wetOf_77 : decode cX12_wetOf 77 = .ok (.istore_n 3, 1) := by decide +kernel
theorem dX12_wetOf_78 : decode cX12_wetOf 78 = .ok (.iinc 4 1, 3) := by decide +kernel
theorem dX12_wetOf_81 : decode cX12_wetOf 81 = .ok (.goto (-68), 3) := by decide +kernel
theorem dX12_wetOf_84 : decode cX12_wetOf 84 = .ok (.goto (-80), 3) := by decide +kernel
theorem dX12_wetOf_87 : decode cX12_wetOf 87 = .ok (.iload_n 2, 1) := by decide +kernel
theorem dX12_wetOf_88 : decode cX12_wetOf 88 = .ok (.ireturn, 1) := by decide +kernel
theorem dX12_washedTo_0 : decode cX12_washedTo 0 = .ok (.aload_n 0, 1) := by decide +kernel
theorem dX12_washedTo_1 : decode cX12_washedTo 1 = .ok (.getfield 13, 3) := by decide +kernel
theorem dX12_washedTo_4 : decode cX12_washedTo 4 = .ok (.bipush 8, 2) := by decide +kernel
theorem dX12_washedTo_6 : decode cX12_washedTo 6 = .ok (.iaload, 1) := by decide +kernel
theorem dX12_washedTo_7 : decode cX12_washedTo 7 = .ok (.ifCond .ne 10, 3) := by decide +kernel
theorem dX12_washedTo_10 : decode cX12_washedTo 10 = .ok (.aload_n 0, 1) := by decide +kernel
theorem dX12_washedTo_11 : decode cX12_washedTo 11 = .ok (.getfield 36, 3) := by decide +kernel
theorem dX12_washedTo_14 : decode cX12_washedTo 14 = .ok (.iload_n 1, 1) := by decide +kernel
theorem dX12_washedTo_15 : decode cX12_washedTo 15 = .ok (.iaload, 1) := by decide +kernel
theorem dX12_washedTo_16 : decode cX12_washedTo 16 = .ok (.ireturn, 1) := by decide +kernel
theorem dX12_washedTo_17 : decode cX12_washedTo 17 = .ok (.aload_n 0, 1) := by decide +kernel
theorem dX12_washedTo_18 : decode cX12_washedTo 18 = .ok (.getfield 33, 3) := by decide +kernel
theorem dX12_washedTo_21 : decode cX12_washedTo 21 = .ok (.iconst 0, 1) := by decide +kernel
theorem dX12_washedTo_22 : decode cX12_washedTo 22 = .ok (.aload_n 0, 1) := by decide +kernel
theorem dX12_washedTo_23 : decode cX12_washedTo 23 = .ok (.getfield 250, 3) := by decide +kernel
theorem dX12_washedTo_26 : decode cX12_washedTo 26 = .ok (.iastore, 1) := by decide +kernel
theorem dX12_washedTo_27 : decode cX12_washedTo 27 = .ok (.aload_n 0, 1) := by decide +kernel
theorem dX12_washedTo_28 : decode cX12_washedTo 28 = .ok (.getfield 33, 3) := by decide +kernel
theorem dX12_washedTo_31 : decode cX12_washedTo 31 = .ok (.iconst 1, 1) := by decide +kernel
theorem dX12_washedTo_32 : decode cX12_washedTo 32 = .ok (.aload_n 0, 1) := by decide +kernel
theorem dX12_washedTo_33 : decode cX12_washedTo 33 = .ok (.getfield 13, 3) := by decide +kernel
theorem dX12_washedTo_36 : decode cX12_washedTo 36 = .ok (.bipush 106, 2) := by decide +kernel
theorem dX12_washedTo_38 : decode cX12_washedTo 38 = .ok (.iaload, 1) := by decide +kernel
theorem dX12_washedTo_39 : decode cX12_washedTo 39 = .ok (.iastore, 1) := by decide +kernel
theorem dX12_washedTo_40 : decode cX12_washedTo 40 = .ok (.aload_n 0, 1) := by decide +kernel
theorem dX12_washedTo_41 : decode cX12_washedTo 41 = .ok (.getfield 33, 3) := by decide +kernel
theorem dX12_washedTo_44 : decode cX12_washedTo 44 = .ok (.iconst 2, 1) := by decide +kernel
theorem dX12_washedTo_45 : decode cX12_washedTo 45 = .ok (.iload_n 1, 1) := by decide +kernel
theorem dX12_washedTo_46 : decode cX12_washedTo 46 = .ok (.aload_n 0, 1) := by decide +kernel
theorem dX12_washedTo_47 : decode cX12_washedTo 47 = .ok (.getfield 13, 3) := by decide +kernel
theorem dX12_washedTo_50 : decode cX12_washedTo 50 = .ok (.iconst 2, 1) := by decide +kernel
theorem dX12_washedTo_51 : decode cX12_washedTo 51 = .ok (.iaload, 1) := by decide +kernel
theorem dX12_washedTo_52 : decode cX12_washedTo 52 = .ok (.idiv, 1) := by decide +kernel
theorem dX12_washedTo_53 : decode cX12_washedTo 53 = .ok (.iastore, 1) := by decide +kernel
theorem dX12_washedTo_54 : decode cX12_washedTo 54 = .ok (.aload_n 0, 1) := by decide +kernel
theorem dX12_washedTo_55 : decode cX12_washedTo 55 = .ok (.getfield 33, 3) := by decide +kernel
theorem dX12_washedTo_58 : decode cX12_washedTo 58 = .ok (.iconst 3, 1) := by decide +kernel
theorem dX12_washedTo_59 : decode cX12_washedTo 59 = .ok (.aload_n 0, 1) := by decide +kernel
theorem dX12_washedTo_60 : decode cX12_washedTo 60 = .ok (.getfield 36, 3) := by decide +kernel
theorem dX12_washedTo_63 : decode cX12_washedTo 63 = .ok (.iload_n 1, 1) := by decide +kernel
theorem dX12_washedTo_64 : decode cX12_washedTo 64 = .ok (.iaload, 1) := by decide +kernel
theorem dX12_washedTo_65 : decode cX12_washedTo 65 = .ok (.iastore, 1) := by decide +kernel
theorem dX12_washedTo_66 : decode cX12_washedTo 66 = .ok (.aload_n 0, 1) := by decide +kernel
theorem dX12_washedTo_67 : decode cX12_washedTo 67 = .ok (.getfield 33, 3) := by decide +kernel
theorem dX12_washedTo_70 : decode cX12_washedTo 70 = .ok (.iconst 4, 1) := by decide +kernel
theorem dX12_washedTo_71 : decode cX12_washedTo 71 = .ok (.iload_n 2, 1) := by decide +kernel
theorem dX12_washedTo_72 : decode cX12_washedTo 72 = .ok (.iastore, 1) := by decide +kernel
theorem dX12_washedTo_73 : decode cX12_washedTo 73 = .ok (.aload_n 0, 1) := by decide +kernel
theorem dX12_washedTo_74 : decode cX12_washedTo 74 = .ok (.getfield 33, 3) := by decide +kernel
theorem dX12_washedTo_77 : decode cX12_washedTo 77 = .ok (.iconst 5, 1) := by decide +kernel
theorem dX12_washedTo_78 : decode cX12_washedTo 78 = .ok (.aload_n 0, 1) := by decide +kernel
theorem dX12_washedTo_79 : decode cX12_washedTo 79 = .ok (.iload_n 1, 1) := by decide +kernel
theorem dX12_washedTo_80 : decode cX12_washedTo 80 = .ok (.invokevirtual 257, 3) := by decide +kernel
theorem dX12_washedTo_83 : decode cX12_washedTo 83 = .ok (.iload_n 3, 1) := by decide +kernel
theorem dX12_washedTo_84 : decode cX12_washedTo 84 = .ok (.iand, 1) := by decide +kernel
theorem dX12_washedTo_85 : decode cX12_washedTo 85 = .ok (.invokestatic 260, 3) := by decide +kernel
theorem dX12_washedTo_88 : decode cX12_washedTo 88 = .ok (.iastore, 1) := by decide +kernel
theorem dX12_washedTo_89 : decode cX12_washedTo 89 = .ok (.aload_n 0, 1) := by decide +kernel
theorem dX12_washedTo_90 : decode cX12_washedTo 90 = .ok (.iconst 1, 1) := by decide +kernel
theorem dX12_washedTo_91 : decode cX12_washedTo 91 = .ok (.invokevirtual 241, 3) := by decide +kernel
theorem dX12_washedTo_94 : decode cX12_washedTo 94 = .ok (.bipush 9, 2) := by decide +kernel
theorem dX12_washedTo_96 : decode cX12_washedTo 96 = .ok (.invokestatic 244, 3) := by decide +kernel
theorem dX12_washedTo_99 : decode cX12_washedTo 99 = .ok (.ireturn, 1) := by decide +kernel
theorem dX12_goesOn_0 : decode cX12_goesOn 0 = .ok (.aload_n 0, 1) := by decide +kernel
theorem dX12_goesOn_1 : decode cX12_goesOn 1 = .ok (.dup, 1) := by decide +kernel
theorem dX12_goesOn_2 : decode cX12_goesOn 2 = .ok (.getfield 250, 3) := by decide +kernel
theorem dX12_goesOn_5 : decode cX12_goesOn 5 = .ok (.iconst 1, 1) := by decide +kernel
theorem dX12_goesOn_6 : decode cX12_goesOn 6 = .ok (.iadd, 1) := by decide +kernel
theorem dX12_goesOn_7 : decode cX12_goesOn 7 = .ok (.putfield 250, 3) := by decide +kernel
theorem dX12_goesOn_10 : decode cX12_goesOn 10 = .ok (.aload_n 0, 1) := by decide +kernel
theorem dX12_goesOn_11 : decode cX12_goesOn 11 = .ok (.aload_n 0, 1) := by decide +kernel
theorem dX12_goesOn_12 : decode cX12_goesOn 12 = .ok (.getfield 250, 3) := by decide +kernel
theorem dX12_goesOn_15 : decode cX12_goesOn 15 = .ok (.aload_n 0, 1) := by decide +kernel
theorem dX12_goesOn_16 : decode cX12_goesOn 16 = .ok (.getfield 13, 3) := by decide +kernel
theorem dX12_goesOn_19 : decode cX12_goesOn 19 = .ok (.bipush 106, 2) := by decide +kernel
theorem dX12_goesOn_21 : decode cX12_goesOn 21 = .ok (.iaload, 1) := by decide +kernel
theorem dX12_goesOn_22 : decode cX12_goesOn 22 = .ok (.invokevirtual 263, 3) := by decide +kernel
theorem dX12_goesOn_25 : decode cX12_goesOn 25 = .ok (.iload_n 1, 1) := by decide +kernel
theorem dX12_goesOn_26 : decode cX12_goesOn 26 = .ok (.iadd, 1) := by decide +kernel
theorem dX12_goesOn_27 : decode cX12_goesOn 27 = .ok (.bipush 10, 2) := by decide +kernel
theorem dX12_goesOn_29 : decode cX12_goesOn 29 = .ok (.invokestatic 244, 3) := by decide +kernel
theorem dX12_goesOn_32 : decode cX12_goesOn 32 = .ok (.istore_n 2, 1) := by decide +kernel
theorem dX12_goesOn_33 : decode cX12_goesOn 33 = .ok (.aload_n 0, 1) := by decide +kernel
theorem dX12_goesOn_34 : decode cX12_goesOn 34 = .ok (.iload_n 2, 1) := by decide +kernel
theorem dX12_goesOn_35 : decode cX12_goesOn 35 = .ok (.invokevirtual 266, 3) := by decide +kernel
theorem dX12_goesOn_38 : decode cX12_goesOn 38 = .ok (.istore_n 3, 1) := by decide +kernel
theorem dX12_goesOn_39 : decode cX12_goesOn 39 = .ok (.iconst 0, 1) := by decide +kernel
theorem dX12_goesOn_40 : decode cX12_goesOn 40 = .ok (.istore 4, 2) := by decide +kernel
theorem dX12_goesOn_42 : decode cX12_goesOn 42 = .ok (.iload 4, 2) := by decide +kernel
theorem dX12_goesOn_44 : decode cX12_goesOn 44 = .ok (.aload_n 0, 1) := by decide +kernel
theorem dX12_goesOn_45 : decode cX12_goesOn 45 = .ok (.getfield 13, 3) := by decide +kernel
theorem dX12_goesOn_48 : decode cX12_goesOn 48 = .ok (.bipush 92, 2) := by decide +kernel
theorem dX12_goesOn_50 : decode cX12_goesOn 50 = .ok (.iaload, 1) := by decide +kernel
theorem dX12_goesOn_51 : decode cX12_goesOn 51 = .ok (.if_icmp .ge 42, 3) := by decide +kernel
theorem dX12_goesOn_54 : decode cX12_goesOn 54 = .ok (.iload_n 3, 1) := by decide +kernel
theorem dX12_goesOn_55 : decode cX12_goesOn 55 = .ok (.i2l, 1) := by decide +kernel
theorem dX12_goesOn_56 : decode cX12_goesOn 56 = .ok (.aload_n 0, 1) := by decide +kernel
theorem dX12_goesOn_57 : decode cX12_goesOn 57 = .ok (.getfield 13, 3) := by decide +kernel
theorem dX12_goesOn_60 : decode cX12_goesOn 60 = .ok (.bipush 93, 2) := by decide +kernel
theorem dX12_goesOn_62 : decode cX12_goesOn 62 = .ok (.iconst 2, 1) := by decide +kernel
theorem dX12_goesOn_63 : decode cX12_goesOn 63 = .ok (.iload 4, 2) := by decide +kernel
theorem dX12_goesOn_65 : decode cX12_goesOn 65 = .ok (.imul, 1) := by decide +kernel
theorem dX12_goesOn_66 : decode cX12_goesOn 66 = .ok (.iadd, 1) := by decide +kernel
theorem dX12_goesOn_67 : decode cX12_goesOn 67 = .ok (.iaload, 1) := by decide +kernel
theorem dX12_goesOn_68 : decode cX12_goesOn 68 = .ok (.invokestatic 253, 3) := by decide +kernel
theorem dX12_goesOn_71 : decode cX12_goesOn 71 = .ok (.ifCond .eq 16, 3) := by decide +kernel
theorem dX12_goesOn_74 : decode cX12_goesOn 74 = .ok (.aload_n 0, 1) := by decide +kernel
theorem dX12_goesOn_75 : decode cX12_goesOn 75 = .ok (.dup, 1) := by decide +kernel
theorem dX12_goesOn_76 : decode cX12_goesOn 76 = .ok (.getfield 247, 3) := by decide +kernel
theorem dX12_goesOn_79 : decode cX12_goesOn 79 = .ok (.iconst 1, 1) := by decide +kernel
theorem dX12_goesOn_80 : decode cX12_goesOn 80 = .ok (.iload 4, 2) := by decide +kernel
theorem dX12_goesOn_82 : decode cX12_goesOn 82 = .ok (.ishl, 1) := by decide +kernel
theorem dX12_goesOn_83 : decode cX12_goesOn 83 = .ok (.ior, 1) := by decide +kernel
theorem dX12_goesOn_84 : decode cX12_goesOn 84 = .ok (.putfield 247, 3) := by decide +kernel
theorem dX12_goesOn_87 : decode cX12_goesOn 87 = .ok (.iinc 4 1, 3) := by decide +kernel
theorem dX12_goesOn_90 : decode cX12_goesOn 90 = .ok (.goto (-48), 3) := by decide +kernel
theorem dX12_goesOn_93 : decode cX12_goesOn 93 = .ok (.iconst 0, 1) := by decide +kernel
theorem dX12_goesOn_94 : decode cX12_goesOn 94 = .ok (.istore 4, 2) := by decide +kernel
theorem dX12_goesOn_96 : decode cX12_goesOn 96 = .ok (.aload_n 0, 1) := by decide +kernel
theorem dX12_goesOn_97 : decode cX12_goesOn 97 = .ok (.iload 4, 2) := by decide +kernel
theorem dX12_goesOn_99 : decode cX12_goesOn 99 = .ok (.i2l, 1) := by decide +kernel
theorem dX12_goesOn_100 : decode cX12_goesOn 100 = .ok (.invokevirtual 230, 3) := by decide +kernel
theorem dX12_goesOn_103 : decode cX12_goesOn 103 = .ok (.ifCond .eq 44, 3) := by decide +kernel
theorem dX12_goesOn_106 : decode cX12_goesOn 106 = .ok (.aload_n 0, 1) := by decide +kernel
theorem dX12_goesOn_107 : decode cX12_goesOn 107 = .ok (.getfield 39, 3) := by decide +kernel
theorem dX12_goesOn_110 : decode cX12_goesOn 110 = .ok (.iload 4, 2) := by decide +kernel
theorem dX12_goesOn_112 : decode cX12_goesOn 112 = .ok (.iload_n 3, 1) := by decide +kernel
theorem dX12_goesOn_113 : decode cX12_goesOn 113 = .ok (.i2l, 1) := by decide +kernel
theorem dX12_goesOn_114 : decode cX12_goesOn 114 = .ok (.iload 4, 2) := by decide +kernel
theorem dX12_goesOn_116 : decode cX12_goesOn 116 = .ok (.invokestatic 253, 3) := by decide +kernel
theorem dX12_goesOn_119 : decode cX12_goesOn 119 = .ok (.ifCond .eq 14, 3) := by decide +kernel
theorem dX12_goesOn_122 : decode cX12_goesOn 122 = .ok (.aload_n 0, 1) := by decide +kernel
theorem dX12_goesOn_123 : decode cX12_goesOn 123 = .ok (.iload 4, 2) := by decide +kernel
theorem dX12_goesOn_125 : decode cX12_goesOn 125 = .ok (.iload_n 2, 1) := by decide +kernel
theorem dX12_goesOn_126 : decode cX12_goesOn 126 = .ok (.iload_n 3, 1) := by decide +kernel
theorem dX12_goesOn_127 : decode cX12_goesOn 127 = .ok (.invokevirtual 269, 3) := by decide +kernel
theorem dX12_goesOn_130 : decode cX12_goesOn 130 = .ok (.goto 10, 3) := by decide +kernel
theorem dX12_goesOn_133 : decode cX12_goesOn 133 = .ok (.aload_n 0, 1) := by decide +kernel
theorem dX12_goesOn_134 : decode cX12_goesOn 134 = .ok (.getfield 36, 3) := by decide +kernel
theorem dX12_goesOn_137 : decode cX12_goesOn 137 = .ok (.iload 4, 2) := by decide +kernel
theorem dX12_goesOn_139 : decode cX12_goesOn 139 = .ok (.iaload, 1) := by decide +kernel
theorem dX12_goesOn_140 : decode cX12_goesOn 140 = .ok (.iastore, 1) := by decide +kernel
theorem dX12_goesOn_141 : decode cX12_goesOn 141 = .ok (.iinc 4 1, 3) := by decide +kernel
theorem dX12_goesOn_144 : decode cX12_goesOn 144 = .ok (.goto (-48), 3) := by decide +kernel
theorem dX12_goesOn_147 : decode cX12_goesOn 147 = .ok (.iconst 0, 1) := by decide +kernel
theorem dX12_goesOn_148 : decode cX12_goesOn 148 = .ok (.istore 4, 2) := by decide +kernel
theorem dX12_goesOn_150 : decode cX12_goesOn 150 = .ok (.aload_n 0, 1) := by decide +kernel
theorem dX12_goesOn_151 : decode cX12_goesOn 151 = .ok (.iload 4, 2) := by decide +kernel
theorem dX12_goesOn_153 : decode cX12_goesOn 153 = .ok (.i2l, 1) := by decide +kernel
theorem dX12_goesOn_154 : decode cX12_goesOn 154 = .ok (.invokevirtual 230, 3) := by decide +kernel
theorem dX12_goesOn_157 : decode cX12_goesOn 157 = .ok (.ifCond .eq 23, 3) := by decide +kernel
theorem dX12_goesOn_160 : decode cX12_goesOn 160 = .ok (.aload_n 0, 1) := by decide +kernel
theorem dX12_goesOn_161 : decode cX12_goesOn 161 = .ok (.getfield 36, 3) := by decide +kernel
theorem dX12_goesOn_164 : decode cX12_goesOn 164 = .ok (.iload 4, 2) := by decide +kernel
theorem dX12_goesOn_166 : decode cX12_goesOn 166 = .ok (.aload_n 0, 1) := by decide +kernel
theorem dX12_goesOn_167 : decode cX12_goesOn 167 = .ok (.getfield 39, 3) := by decide +kernel
theorem dX12_goesOn_170 : decode cX12_goesOn 170 = .ok (.iload 4, 2) := by decide +kernel
theorem dX12_goesOn_172 : decode cX12_goesOn 172 = .ok (.iaload, 1) := by decide +kernel
theorem dX12_goesOn_173 : decode cX12_goesOn 173 = .ok (.iastore, 1) := by decide +kernel
theorem dX12_goesOn_174 : decode cX12_goesOn 174 = .ok (.iinc 4 1, 3) := by decide +kernel
theorem dX12_goesOn_177 : decode cX12_goesOn 177 = .ok (.goto (-27), 3) := by decide +kernel
theorem dX12_goesOn_180 : decode cX12_goesOn 180 = .ok (.iload_n 3, 1) := by decide +kernel
theorem dX12_goesOn_181 : decode cX12_goesOn 181 = .ok (.ireturn, 1) := by decide +kernel
theorem dX12_goesOnFor_0 : decode cX12_goesOnFor 0 = .ok (.aload_n 0, 1) := by decide +kernel
theorem dX12_goesOnFor_1 : decode cX12_goesOnFor 1 = .ok (.invokevirtual 272, 3) := by decide +kernel
theorem dX12_goesOnFor_4 : decode cX12_goesOnFor 4 = .ok (.iconst 0, 1) := by decide +kernel
theorem dX12_goesOnFor_5 : decode cX12_goesOnFor 5 = .ok (.istore_n 2, 1) := by decide +kernel
theorem dX12_goesOnFor_6 : decode cX12_goesOnFor 6 = .ok (.iload_n 2, 1) := by decide +kernel
theorem dX12_goesOnFor_7 : decode cX12_goesOnFor 7 = .ok (.iload_n 1, 1) := by decide +kernel
theorem dX12_goesOnFor_8 : decode cX12_goesOnFor 8 = .ok (.if_icmp .ge 15, 3) := by decide +kernel
theorem dX12_goesOnFor_11 : decode cX12_goesOnFor 11 = .ok (.aload_n 0, 1) := by decide +kernel
theorem dX12_goesOnFor_12 : decode cX12_goesOnFor 12 = .ok (.iconst 0, 1) := by decide +kernel
theorem dX12_goesOnFor_13 : decode cX12_goesOnFor 13 = .ok (.invokevirtual 275, 3) := by decide +kernel
theorem dX12_goesOnFor_16 : decode cX12_goesOnFor 16 = .ok (.pop, 1) := by decide +kernel
theorem dX12_goesOnFor_17 : decode cX12_goesOnFor 17 = .ok (.iinc 2 1, 3) := by decide +kernel
theorem dX12_goesOnFor_20 : decode cX12_goesOnFor 20 = .ok (.goto (-14), 3) := by decide +kernel
theorem dX12_goesOnFor_23 : decode cX12_goesOnFor 23 = .ok (.return_, 1) := by decide +kernel
theorem dX12_standingOn_0 : decode cX12_standingOn 0 = .ok (.iconst 1, 1) := by decide +kernel
theorem dX12_standingOn_1 : decode cX12_standingOn 1 = .ok (.aload_n 0, 1) := by decide +kernel
theorem dX12_standingOn_2 : decode cX12_standingOn 2 = .ok (.getfield 13, 3) := by decide +kernel
theorem dX12_standingOn_5 : decode cX12_standingOn 5 = .ok (.bipush 92, 2) := by decide +kernel
theorem dX12_standingOn_7 : decode cX12_standingOn 7 = .ok (.iaload, 1) := by decide +kernel
theorem dX12_standingOn_8 : decode cX12_standingOn 8 = .ok (.ishl, 1) := by decide +kernel
theorem dX12_standingOn_9 : decode cX12_standingOn 9 = .ok (.iconst 1, 1) := by decide +kernel
theorem dX12_standingOn_10 : decode cX12_standingOn 10 = .ok (.isub, 1) := by decide +kernel
theorem dX12_standingOn_11 : decode cX12_standingOn 11 = .ok (.aload_n 0, 1) := by decide +kernel
theorem dX12_standingOn_12 : decode cX12_standingOn 12 = .ok (.getfield 247, 3) := by decide +kernel
theorem dX12_standingOn_15 : decode cX12_standingOn 15 = .ok (.iconst (-1), 1) := by decide +kernel
theorem dX12_standingOn_16 : decode cX12_standingOn 16 = .ok (.ixor, 1) := by decide +kernel
theorem dX12_standingOn_17 : decode cX12_standingOn 17 = .ok (.iand, 1) := by decide +kernel
theorem dX12_standingOn_18 : decode cX12_standingOn 18 = .ok (.ireturn, 1) := by decide +kernel
theorem dX12_sand_0 : decode cX12_sand 0 = .ok (.aload_n 0, 1) := by decide +kernel
theorem dX12_sand_1 : decode cX12_sand 1 = .ok (.iconst 0, 1) := by decide +kernel
theorem dX12_sand_2 : decode cX12_sand 2 = .ok (.putfield 1, 3) := by decide +kernel
theorem dX12_sand_5 : decode cX12_sand 5 = .ok (.aload_n 0, 1) := by decide +kernel
theorem dX12_sand_6 : decode cX12_sand 6 = .ok (.iload_n 1, 1) := by decide +kernel
theorem dX12_sand_7 : decode cX12_sand 7 = .ok (.i2l, 1) := by decide +kernel
theorem dX12_sand_8 : decode cX12_sand 8 = .ok (.invokevirtual 230, 3) := by decide +kernel
theorem dX12_sand_11 : decode cX12_sand 11 = .ok (.ifCond .eq 15, 3) := by decide +kernel
theorem dX12_sand_14 : decode cX12_sand 14 = .ok (.aload_n 0, 1) := by decide +kernel
theorem dX12_sand_15 : decode cX12_sand 15 = .ok (.getfield 13, 3) := by decide +kernel
theorem dX12_sand_18 : decode cX12_sand 18 = .ok (.bipush 67, 2) := by decide +kernel
theorem dX12_sand_20 : decode cX12_sand 20 = .ok (.iload_n 1, 1) := by decide +kernel
theorem dX12_sand_21 : decode cX12_sand 21 = .ok (.iadd, 1) := by decide +kernel
theorem dX12_sand_22 : decode cX12_sand 22 = .ok (.iaload, 1) := by decide +kernel
theorem dX12_sand_23 : decode cX12_sand 23 = .ok (.goto 5, 3) := by decide +kernel
theorem dX12_sand_26 : decode cX12_sand 26 = .ok (.bipush (-2), 2) := by decide +kernel
theorem dX12_sand_28 : decode cX12_sand 28 = .ok (.ireturn, 1) := by decide +kernel
theorem dX12_house_0 : decode cX12_house 0 = .ok (.aload_n 0, 1) := by decide +kernel
theorem dX12_house_1 : decode cX12_house 1 = .ok (.iconst 0, 1) := by decide +kernel
theorem dX12_house_2 : decode cX12_house 2 = .ok (.putfield 1, 3) := by decide +kernel
theorem dX12_house_5 : decode cX12_house 5 = .ok (.aload_n 0, 1) := by decide +kernel
theorem dX12_house_6 : decode cX12_house 6 = .ok (.iload_n 1, 1) := by decide +kernel
theorem dX12_house_7 : decode cX12_house 7 = .ok (.i2l, 1) := by decide +kernel
theorem dX12_house_8 : decode cX12_house 8 = .ok (.invokevirtual 278, 3) := by decide +kernel
theorem dX12_house_11 : decode cX12_house 11 = .ok (.ifCond .ne 6, 3) := by decide +kernel
theorem dX12_house_14 : decode cX12_house 14 = .ok (.bipush (-2), 2) := by decide +kernel
theorem dX12_house_16 : decode cX12_house 16 = .ok (.ireturn, 1) := by decide +kernel
theorem dX12_house_17 : decode cX12_house 17 = .ok (.iload_n 2, 1) := by decide +kernel
theorem dX12_house_18 : decode cX12_house 18 = .ok (.tableswitch 73 0 2 #[26, 38, 52], 26) := by decide +kernel
theorem dX12_house_44 : decode cX12_house 44 = .ok (.aload_n 0, 1) := by decide +kernel
theorem dX12_house_45 : decode cX12_house 45 = .ok (.getfield 13, 3) := by decide +kernel
theorem dX12_house_48 : decode cX12_house 48 = .ok (.bipush 93, 2) := by decide +kernel
theorem dX12_house_50 : decode cX12_house 50 = .ok (.iconst 2, 1) := by decide +kernel
theorem dX12_house_51 : decode cX12_house 51 = .ok (.iload_n 1, 1) := by decide +kernel
theorem dX12_house_52 : decode cX12_house 52 = .ok (.imul, 1) := by decide +kernel
theorem dX12_house_53 : decode cX12_house 53 = .ok (.iadd, 1) := by decide +kernel
theorem dX12_house_54 : decode cX12_house 54 = .ok (.iaload, 1) := by decide +kernel
theorem dX12_house_55 : decode cX12_house 55 = .ok (.ireturn, 1) := by decide +kernel
theorem dX12_house_56 : decode cX12_house 56 = .ok (.aload_n 0, 1) := by decide +kernel
theorem dX12_house_57 : decode cX12_house 57 = .ok (.getfield 13, 3) := by decide +kernel
theorem dX12_house_60 : decode cX12_house 60 = .ok (.bipush 93, 2) := by decide +kernel
theorem dX12_house_62 : decode cX12_house 62 = .ok (.iconst 2, 1) := by decide +kernel
theorem dX12_house_63 : decode cX12_house 63 = .ok (.iload_n 1, 1) := by decide +kernel
theorem dX12_house_64 : decode cX12_house 64 = .ok (.imul, 1) := by decide +kernel
theorem dX12_house_65 : decode cX12_house 65 = .ok (.iadd, 1) := by decide +kernel
theorem dX12_house_66 : decode cX12_house 66 = .ok (.iconst 1, 1) := by decide +kernel
theorem dX12_house_67 : decode cX12_house 67 = .ok (.iadd, 1) := by decide +kernel
theorem dX12_house_68 : decode cX12_house 68 = .ok (.iaload, 1) := by decide +kernel
theorem dX12_house_69 : decode cX12_house 69 = .ok (.ireturn, 1) := by decide +kernel
theorem dX12_house_70 : decode cX12_house 70 = .ok (.aload_n 0, 1) := by decide +kernel
theorem dX12_house_71 : decode cX12_house 71 = .ok (.getfield 13, 3) := by decide +kernel
theorem dX12_house_74 : decode cX12_house 74 = .ok (.bipush 105, 2) := by decide +kernel
theorem dX12_house_76 : decode cX12_house 76 = .ok (.iaload, 1) := by decide +kernel
theorem dX12_house_77 : decode cX12_house 77 = .ok (.i2l, 1) := by decide +kernel
theorem dX12_house_78 : decode cX12_house 78 = .ok (.iload_n 1, 1) := by decide +kernel
theorem dX12_house_79 : decode cX12_house 79 = .ok (.invokestatic 253, 3) := by decide +kernel
theorem dX12_house_82 : decode cX12_house 82 = .ok (.ifCond .eq 7, 3) := by decide +kernel
theorem dX12_house_85 : decode cX12_house 85 = .ok (.iconst 0, 1) := by decide +kernel
theorem dX12_house_86 : decode cX12_house 86 = .ok (.goto 4, 3) := by decide +kernel
theorem dX12_house_89 : decode cX12_house 89 = .ok (.iconst 1, 1) := by decide +kernel
theorem dX12_house_90 : decode cX12_house 90 = .ok (.ireturn, 1) := by decide +kernel
theorem dX12_house_91 : decode cX12_house 91 = .ok (.bipush (-2), 2) := by decide +kernel
theorem dX12_house_93 : decode cX12_house 93 = .ok (.ireturn, 1) := by decide +kernel
theorem dX12_plot_0 : decode cX12_plot 0 = .ok (.aload_n 0, 1) := by decide +kernel
theorem dX12_plot_1 : decode cX12_plot 1 = .ok (.iconst 0, 1) := by decide +kernel
theorem dX12_plot_2 : decode cX12_plot 2 = .ok (.putfield 1, 3) := by decide +kernel
theorem dX12_plot_5 : decode cX12_plot 5 = .ok (.iload_n 1, 1) := by decide +kernel
theorem dX12_plot_6 : decode cX12_plot 6 = .ok (.i2l, 1) := by decide +kernel
theorem dX12_plot_7 : decode cX12_plot 7 = .ok (.lconst 0, 1) := by decide +kernel
theorem dX12_plot_8 : decode cX12_plot 8 = .ok (.aload_n 0, 1) := by decide +kernel
theorem dX12_plot_9 : decode cX12_plot 9 = .ok (.getfield 13, 3) := by decide +kernel
theorem dX12_plot_12 : decode cX12_plot 12 = .ok (.iconst 4, 1) := by decide +kernel
theorem dX12_plot_13 : decode cX12_plot 13 = .ok (.iaload, 1) := by decide +kernel
theorem dX12_plot_14 : decode cX12_plot 14 = .ok (.iconst 1, 1) := by decide +kernel
theorem dX12_plot_15 : decode cX12_plot 15 = .ok (.isub, 1) := by decide +kernel
theorem dX12_plot_16 : decode cX12_plot 16 = .ok (.i2l, 1) := by decide +kernel
theorem dX12_plot_17 : decode cX12_plot 17 = .ok (.invokestatic 145, 3) := by decide +kernel
theorem dX12_plot_20 : decode cX12_plot 20 = .ok (.ifCond .eq 31, 3) := by decide +kernel
theorem dX12_plot_23 : decode cX12_plot 23 = .ok (.iload_n 2, 1) := by decide +kernel
theorem dX12_plot_24 : decode cX12_plot 24 = .ok (.i2l, 1) := by decide +kernel
theorem dX12_plot_25 : decode cX12_plot 25 = .ok (.lconst 0, 1) := by decide +kernel
theorem dX12_plot_26 : decode cX12_plot 26 = .ok (.ldc2_w 281, 3) := by decide +kernel
theorem dX12_plot_29 : decode cX12_plot 29 = .ok (.invokestatic 145, 3) := by decide +kernel
theorem dX12_plot_32 : decode cX12_plot 32 = .ok (.ifCond .eq 19, 3) := by decide +kernel
theorem dX12_plot_35 : decode cX12_plot 35 = .ok (.aload_n 0, 1) := by decide +kernel
theorem dX12_plot_36 : decode cX12_plot 36 = .ok (.getfield 13, 3) := by decide +kernel
theorem dX12_plot_39 : decode cX12_plot 39 = .ok (.bipush 13, 2) := by decide +kernel
theorem dX12_plot_41 : decode cX12_plot 41 = .ok (.iconst 3, 1) := by decide +kernel
theorem dX12_plot_42 : decode cX12_plot 42 = .ok (.iload_n 1, 1) := by decide +kernel
theorem dX12_plot_43 : decode cX12_plot 43 = .ok (.imul, 1) := by decide +kernel
theorem dX12_plot_44 : decode cX12_plot 44 = .ok (.iadd, 1) := by decide +kernel
theorem dX12_plot_45 : decode cX12_plot 45 = .ok (.iload_n 2, 1) := by decide +kernel
theorem dX12_plot_46 : decode cX12_plot 46 = .ok (.iadd, 1) := by decide +kernel
theorem dX12_plot_47 : decode cX12_plot 47 = .ok (.iaload, 1) := by decide +kernel
theorem dX12_plot_48 : decode cX12_plot 48 = .ok (.goto 5, 3) := by decide +kernel
theorem dX12_plot_51 : decode cX12_plot 51 = .ok (.bipush (-2), 2) := by decide +kernel
theorem dX12_plot_53 : decode cX12_plot 53 = .ok (.ireturn, 1) := by decide +kernel
theorem dX12_level_0 : decode cX12_level 0 = .ok (.aload_n 0, 1) := by decide +kernel
theorem dX12_level_1 : decode cX12_level 1 = .ok (.iconst 0, 1) := by decide +kernel
theorem dX12_level_2 : decode cX12_level 2 = .ok (.putfield 1, 3) := by decide +kernel
theorem dX12_level_5 : decode cX12_level 5 = .ok (.iload_n 1, 1) := by decide +kernel
theorem dX12_level_6 : decode cX12_level 6 = .ok (.i2l, 1) := by decide +kernel
theorem dX12_level_7 : decode cX12_level 7 = .ok (.lconst 0, 1) := by decide +kernel
theorem dX12_level_8 : decode cX12_level 8 = .ok (.ldc2_w 283, 3) := by decide +kernel
theorem dX12_level_11 : decode cX12_level 11 = .ok (.invokestatic 145, 3) := by decide +kernel
theorem dX12_level_14 : decode cX12_level 14 = .ok (.ifCond .eq 18, 3) := by decide +kernel
theorem dX12_level_17 : decode cX12_level 17 = .ok (.aload_n 0, 1) := by decide +kernel
theorem dX12_level_18 : decode cX12_level 18 = .ok (.iload_n 1, 1) := by decide +kernel
theorem dX12_level_19 : decode cX12_level 19 = .ok (.aload_n 0, 1) := by decide +kernel
theorem dX12_level_20 : decode cX12_level 20 = .ok (.getfield 13, 3) := by decide +kernel
theorem dX12_level_23 : decode cX12_level 23 = .ok (.bipush 106, 2) := by decide +kernel
theorem dX12_level_25 : decode cX12_level 25 = .ok (.iaload, 1) := by decide +kernel
theorem dX12_level_26 : decode cX12_level 26 = .ok (.invokevirtual 263, 3) := by decide +kernel
theorem dX12_level_29 : decode cX12_level 29 = .ok (.goto 5, 3) := by decide +kernel
theorem dX12_level_32 : decode cX12_level 32 = .ok (.bipush (-3), 2) := by decide +kernel
theorem dX12_level_34 : decode cX12_level 34 = .ok (.ireturn, 1) := by decide +kernel
theorem dX12_wet_0 : decode cX12_wet 0 = .ok (.aload_n 0, 1) := by decide +kernel
theorem dX12_wet_1 : decode cX12_wet 1 = .ok (.iconst 0, 1) := by decide +kernel
theorem dX12_wet_2 : decode cX12_wet 2 = .ok (.putfield 1, 3) := by decide +kernel
theorem dX12_wet_5 : decode cX12_wet 5 = .ok (.iload_n 1, 1) := by decide +kernel
theorem dX12_wet_6 : decode cX12_wet 6 = .ok (.i2l, 1) := by decide +kernel
theorem dX12_wet_7 : decode cX12_wet 7 = .ok (.lconst 0, 1) := by decide +kernel
theorem dX12_wet_8 : decode cX12_wet 8 = .ok (.ldc2_w 285, 3) := by decide +kernel
theorem dX12_wet_11 : decode cX12_wet 11 = .ok (.invokestatic 145, 3) := by decide +kernel
theorem dX12_wet_14 : decode cX12_wet 14 = .ok (.ifCond .ne 6, 3) := by decide +kernel
theorem dX12_wet_17 : decode cX12_wet 17 = .ok (.bipush (-3), 2) := by decide +kernel
theorem dX12_wet_19 : decode cX12_wet 19 = .ok (.ireturn, 1) := by decide +kernel
theorem dX12_wet_20 : decode cX12_wet 20 = .ok (.aload_n 0, 1) := by decide +kernel
theorem dX12_wet_21 : decode cX12_wet 21 = .ok (.invokevirtual 272, 3) := by decide +kernel
theorem dX12_wet_24 : decode cX12_wet 24 = .ok (.aload_n 0, 1) := by decide +kernel
theorem dX12_wet_25 : decode cX12_wet 25 = .ok (.iload_n 1, 1) := by decide +kernel
theorem dX12_wet_26 : decode cX12_wet 26 = .ok (.invokevirtual 266, 3) := by decide +kernel
theorem dX12_wet_29 : decode cX12_wet 29 = .ok (.ireturn, 1) := by decide +kernel
