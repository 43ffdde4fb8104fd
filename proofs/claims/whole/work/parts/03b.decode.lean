theorem dX7_readSum_5 : decode cX7_readSum 5 = .ok (.iconst 0, 1) := by decide +kernel
theorem dX7_readSum_6 : decode cX7_readSum 6 = .ok (.istore_n 2, 1) := by decide +kernel
theorem dX7_readSum_7 : decode cX7_readSum 7 = .ok (.iload_n 2, 1) := by decide +kernel
theorem dX7_readSum_8 : decode cX7_readSum 8 = .ok (.sipush 900, 3) := by decide +kernel
theorem dX7_readSum_11 : decode cX7_readSum 11 = .ok (.if_icmp .ge 70, 3) := by decide +kernel
theorem dX7_readSum_14 : decode cX7_readSum 14 = .ok (.aload_n 0, 1) := by decide +kernel
theorem dX7_readSum_15 : decode cX7_readSum 15 = .ok (.getfield 48, 3) := by decide +kernel
theorem dX7_readSum_18 : decode cX7_readSum 18 = .ok (.ifCond .ne 63, 3) := by decide +kernel
theorem dX7_readSum_21 : decode cX7_readSum 21 = .ok (.aload_n 0, 1) := by decide +kernel
theorem dX7_readSum_22 : decode cX7_readSum 22 = .ok (.bipush 43, 2) := by decide +kernel
theorem dX7_readSum_24 : decode cX7_readSum 24 = .ok (.invokevirtual 107, 3) := by decide +kernel
theorem dX7_readSum_27 : decode cX7_readSum 27 = .ok (.ifCond .ne 12, 3) := by decide +kernel
theorem dX7_readSum_30 : decode cX7_readSum 30 = .ok (.aload_n 0, 1) := by decide +kernel
theorem dX7_readSum_31 : decode cX7_readSum 31 = .ok (.bipush 45, 2) := by decide +kernel
theorem dX7_readSum_33 : decode cX7_readSum 33 = .ok (.invokevirtual 107, 3) := by decide +kernel
theorem dX7_readSum_36 : decode cX7_readSum 36 = .ok (.ifCond .eq 45, 3) := by decide +kernel
theorem dX7_readSum_39 : decode cX7_readSum 39 = .ok (.aload_n 0, 1) := by decide +kernel
theorem dX7_readSum_40 : decode cX7_readSum 40 = .ok (.bipush 43, 2) := by decide +kernel
theorem dX7_readSum_42 : decode cX7_readSum 42 = .ok (.invokevirtual 107, 3) := by decide +kernel
theorem dX7_readSum_45 : decode cX7_readSum 45 = .ok (.ifCond .eq 9, 3) := by decide +kernel
theorem dX7_readSum_48 : decode cX7_readSum 48 = .ok (.sipush 1000, 3) := by decide +kernel
theorem dX7_readSum_51 : decode cX7_readSum 51 = .ok (.goto 6, 3) := by decide +kernel
theorem dX7_readSum_54 : decode cX7_readSum 54 = .ok (.sipush 1001, 3) := by decide +kernel
theorem dX7_readSum_57 : decode cX7_readSum 57 = .ok (.istore_n 3, 1) := by decide +kernel
theorem dX7_readSum_58 : decode cX7_readSum 58 = .ok (.aload_n 0, 1) := by decide +kernel
theorem dX7_readSum_59 : decode cX7_readSum 59 = .ok (.invokevirtual 58, 3) := by decide +kernel
theorem dX7_readSum_62 : decode cX7_readSum 62 = .ok (.aload_n 0, 1) := by decide +kernel
theorem dX7_readSum_63 : decode cX7_readSum 63 = .ok (.iload_n 1, 1) := by decide +kernel
theorem dX7_readSum_64 : decode cX7_readSum 64 = .ok (.invokevirtual 238, 3) := by decide +kernel
theorem dX7_readSum_67 : decode cX7_readSum 67 = .ok (.aload_n 0, 1) := by decide +kernel
theorem dX7_readSum_68 : decode cX7_readSum 68 = .ok (.getfield 22, 3) := by decide +kernel
theorem dX7_readSum_71 : decode cX7_readSum 71 = .ok (.iload_n 3, 1) := by decide +kernel
theorem dX7_readSum_72 : decode cX7_readSum 72 = .ok (.invokevirtual 243, 3) := by decide +kernel
theorem dX7_readSum_75 : decode cX7_readSum 75 = .ok (.iinc 2 1, 3) := by decide +kernel
theorem dX7_readSum_78 : decode cX7_readSum 78 = .ok (.goto (-71), 3) := by decide +kernel
theorem dX7_readSum_81 : decode cX7_readSum 81 = .ok (.return_, 1) := by decide +kernel
theorem dX7_readTerm_0 : decode cX7_readTerm 0 = .ok (.aload_n 0, 1) := by decide +kernel
theorem dX7_readTerm_1 : decode cX7_readTerm 1 = .ok (.iload_n 1, 1) := by decide +kernel
theorem dX7_readTerm_2 : decode cX7_readTerm 2 = .ok (.invokevirtual 246, 3) := by decide +kernel
theorem dX7_readTerm_5 : decode cX7_readTerm 5 = .ok (.iconst 0, 1) := by decide +kernel
theorem dX7_readTerm_6 : decode cX7_readTerm 6 = .ok (.istore_n 2, 1) := by decide +kernel
theorem dX7_readTerm_7 : decode cX7_readTerm 7 = .ok (.iload_n 2, 1) := by decide +kernel
theorem dX7_readTerm_8 : decode cX7_readTerm 8 = .ok (.sipush 900, 3) := by decide +kernel
theorem dX7_readTerm_11 : decode cX7_readTerm 11 = .ok (.if_icmp .ge 44, 3) := by decide +kernel
theorem dX7_readTerm_14 : decode cX7_readTerm 14 = .ok (.aload_n 0, 1) := by decide +kernel
theorem dX7_readTerm_15 : decode cX7_readTerm 15 = .ok (.getfield 48, 3) := by decide +kernel
theorem dX7_readTerm_18 : decode cX7_readTerm 18 = .ok (.ifCond .ne 37, 3) := by decide +kernel
theorem dX7_readTerm_21 : decode cX7_readTerm 21 = .ok (.aload_n 0, 1) := by decide +kernel
theorem dX7_readTerm_22 : decode cX7_readTerm 22 = .ok (.bipush 42, 2) := by decide +kernel
theorem dX7_readTerm_24 : decode cX7_readTerm 24 = .ok (.invokevirtual 107, 3) := by decide +kernel
theorem dX7_readTerm_27 : decode cX7_readTerm 27 = .ok (.ifCond .eq 28, 3) := by decide +kernel
theorem dX7_readTerm_30 : decode cX7_readTerm 30 = .ok (.aload_n 0, 1) := by decide +kernel
theorem dX7_readTerm_31 : decode cX7_readTerm 31 = .ok (.invokevirtual 58, 3) := by decide +kernel
theorem dX7_readTerm_34 : decode cX7_readTerm 34 = .ok (.aload_n 0, 1) := by decide +kernel
theorem dX7_readTerm_35 : decode cX7_readTerm 35 = .ok (.iload_n 1, 1) := by decide +kernel
theorem dX7_readTerm_36 : decode cX7_readTerm 36 = .ok (.invokevirtual 246, 3) := by decide +kernel
theorem dX7_readTerm_39 : decode cX7_readTerm 39 = .ok (.aload_n 0, 1) := by decide +kernel
theorem dX7_readTerm_40 : decode cX7_readTerm 40 = .ok (.getfield 22, 3) := by decide +kernel
theorem dX7_readTerm_43 : decode cX7_readTerm 43 = .ok (.sipush 1002, 3) := by decide +kernel
theorem dX7_readTerm_46 : decode cX7_readTerm 46 = .ok (.invokevirtual 243, 3) := by decide +kernel
theorem dX7_readTerm_49 : decode cX7_readTerm 49 = .ok (.iinc 2 1, 3) := by decide +kernel
theorem dX7_readTerm_52 : decode cX7_readTerm 52 = .ok (.goto (-45), 3) := by decide +kernel
theorem dX7_readTerm_55 : decode cX7_readTerm 55 = .ok (.return_, 1) := by decide +kernel
theorem dX7_readAtom_0 : decode cX7_readAtom 0 = .ok (.aload_n 0, 1) := by decide +kernel
theorem dX7_readAtom_1 : decode cX7_readAtom 1 = .ok (.getfield 48, 3) := by decide +kernel
theorem dX7_readAtom_4 : decode cX7_readAtom 4 = .ok (.ifCond .eq 4, 3) := by decide +kernel
theorem dX7_readAtom_7 : decode cX7_readAtom 7 = .ok (.return_, 1) := by decide +kernel
theorem dX7_readAtom_8 : decode cX7_readAtom 8 = .ok (.aload_n 0, 1) := by decide +kernel
theorem dX7_readAtom_9 : decode cX7_readAtom 9 = .ok (.invokevirtual 249, 3) := by decide +kernel
theorem dX7_readAtom_12 : decode cX7_readAtom 12 = .ok (.istore_n 2, 1) := by decide +kernel
theorem dX7_readAtom_13 : decode cX7_readAtom 13 = .ok (.aload_n 0, 1) := by decide +kernel
theorem dX7_readAtom_14 : decode cX7_readAtom 14 = .ok (.getfield 64, 3) := by decide +kernel
theorem dX7_readAtom_17 : decode cX7_readAtom 17 = .ok (.iconst 3, 1) := by decide +kernel
theorem dX7_readAtom_18 : decode cX7_readAtom 18 = .ok (.if_icmp .ne 21, 3) := by decide +kernel
theorem dX7_readAtom_21 : decode cX7_readAtom 21 = .ok (.aload_n 0, 1) := by decide +kernel
theorem dX7_readAtom_22 : decode cX7_readAtom 22 = .ok (.getfield 22, 3) := by decide +kernel
theorem dX7_readAtom_25 : decode cX7_readAtom 25 = .ok (.aload_n 0, 1) := by decide +kernel
theorem dX7_readAtom_26 : decode cX7_readAtom 26 = .ok (.invokevirtual 111, 3) := by decide +kernel
theorem dX7_readAtom_29 : decode cX7_readAtom 29 = .ok (.invokevirtual 243, 3) := by decide +kernel
theorem dX7_readAtom_32 : decode cX7_readAtom 32 = .ok (.aload_n 0, 1) := by decide +kernel
theorem dX7_readAtom_33 : decode cX7_readAtom 33 = .ok (.invokevirtual 58, 3) := by decide +kernel
theorem dX7_readAtom_36 : decode cX7_readAtom 36 = .ok (.goto 93, 3) := by decide +kernel
theorem dX7_readAtom_39 : decode cX7_readAtom 39 = .ok (.iload_n 2, 1) := by decide +kernel
theorem dX7_readAtom_40 : decode cX7_readAtom 40 = .ok (.iconst (-1), 1) := by decide +kernel
theorem dX7_readAtom_41 : decode cX7_readAtom 41 = .ok (.if_icmp .eq 22, 3) := by decide +kernel
theorem dX7_readAtom_44 : decode cX7_readAtom 44 = .ok (.aload_n 0, 1) := by decide +kernel
theorem dX7_readAtom_45 : decode cX7_readAtom 45 = .ok (.getfield 22, 3) := by decide +kernel
theorem dX7_readAtom_48 : decode cX7_readAtom 48 = .ok (.sipush 1010, 3) := by decide +kernel
theorem dX7_readAtom_51 : decode cX7_readAtom 51 = .ok (.iload_n 2, 1) := by decide +kernel
theorem dX7_readAtom_52 : decode cX7_readAtom 52 = .ok (.iadd, 1) := by decide +kernel
theorem dX7_readAtom_53 : decode cX7_readAtom 53 = .ok (.invokevirtual 243, 3) := by decide +kernel
theorem dX7_readAtom_56 : decode cX7_readAtom 56 = .ok (.aload_n 0, 1) := by decide +kernel
theorem dX7_readAtom_57 : decode cX7_readAtom 57 = .ok (.invokevirtual 58, 3) := by decide +kernel
theorem dX7_readAtom_60 : decode cX7_readAtom 60 = .ok (.goto 69, 3) := by decide +kernel
theorem dX7_readAtom_63 : decode cX7_readAtom 63 = .ok (.aload_n 0, 1) := by decide +kernel
theorem dX7_readAtom_64 : decode cX7_readAtom 64 = .ok (.bipush 40, 2) := by decide +kernel
theorem dX7_readAtom_66 : decode cX7_readAtom 66 = .ok (.invokevirtual 107, 3) := by decide +kernel
theorem dX7_readAtom_69 : decode cX7_readAtom 69 = .ok (.ifCond .eq 27, 3) := by decide +kernel
theorem dX7_readAtom_72 : decode cX7_readAtom 72 = .ok (.aload_n 0, 1) := by decide +kernel
theorem dX7_readAtom_73 : decode cX7_readAtom 73 = .ok (.iload_n 1, 1) := by decide +kernel
theorem dX7_readAtom_74 : decode cX7_readAtom 74 = .ok (.invokevirtual 252, 3) := by decide +kernel
theorem dX7_readAtom_77 : decode cX7_readAtom 77 = .ok (.ifCond .eq 52, 3) := by decide +kernel
theorem dX7_readAtom_80 : decode cX7_readAtom 80 = .ok (.aload_n 0, 1) := by decide +kernel
theorem dX7_readAtom_81 : decode cX7_readAtom 81 = .ok (.iload_n 1, 1) := by decide +kernel
theorem dX7_readAtom_82 : decode cX7_readAtom 82 = .ok (.iconst 1, 1) := by decide +kernel
theorem dX7_readAtom_83 : decode cX7_readAtom 83 = .ok (.iadd, 1) := by decide +kernel
theorem dX7_readAtom_84 : decode cX7_readAtom 84 = .ok (.invokevirtual 223, 3) := by decide +kernel
theorem dX7_readAtom_87 : decode cX7_readAtom 87 = .ok (.aload_n 0, 1) := by decide +kernel
theorem dX7_readAtom_88 : decode cX7_readAtom 88 = .ok (.bipush 41, 2) := by decide +kernel
theorem dX7_readAtom_90 : decode cX7_readAtom 90 = .ok (.invokevirtual 70, 3) := by decide +kernel
theorem dX7_readAtom_93 : decode cX7_readAtom 93 = .ok (.goto 36, 3) := by decide +kernel
theorem dX7_readAtom_96 : decode cX7_readAtom 96 = .ok (.aload_n 0, 1) := by decide +kernel
theorem dX7_readAtom_97 : decode cX7_readAtom 97 = .ok (.ldc_w 256, 3) := by decide +kernel
theorem dX7_readAtom_100 : decode cX7_readAtom 100 = .ok (.invokevirtual 99, 3) := by decide +kernel
theorem dX7_readAtom_103 : decode cX7_readAtom 103 = .ok (.ifCond .eq 21, 3) := by decide +kernel
theorem dX7_readAtom_106 : decode cX7_readAtom 106 = .ok (.aload_n 0, 1) := by decide +kernel
theorem dX7_readAtom_107 : decode cX7_readAtom 107 = .ok (.iload_n 1, 1) := by decide +kernel
theorem dX7_readAtom_108 : decode cX7_readAtom 108 = .ok (.invokevirtual 252, 3) := by decide +kernel
theorem dX7_readAtom_111 : decode cX7_readAtom 111 = .ok (.ifCond .eq 18, 3) := by decide +kernel
theorem dX7_readAtom_114 : decode cX7_readAtom 114 = .ok (.aload_n 0, 1) := by decide +kernel
theorem dX7_readAtom_115 : decode cX7_readAtom 115 = .ok (.iload_n 1, 1) := by decide +kernel
theorem dX7_readAtom_116 : decode cX7_readAtom 116 = .ok (.iconst 1, 1) := by decide +kernel
theorem dX7_readAtom_117 : decode cX7_readAtom 117 = .ok (.iadd, 1) := by decide +kernel
theorem dX7_readAtom_118 : decode cX7_readAtom 118 = .ok (.invokevirtual 258, 3) := by decide +kernel
theorem dX7_readAtom_121 : decode cX7_readAtom 121 = .ok (.goto 8, 3) := by decide +kernel
theorem dX7_readAtom_124 : decode cX7_readAtom 124 = .ok (.aload_n 0, 1) := by decide +kernel
theorem dX7_readAtom_125 : decode cX7_readAtom 125 = .ok (.iconst 2, 1) := by decide +kernel
theorem dX7_readAtom_126 : decode cX7_readAtom 126 = .ok (.invokevirtual 103, 3) := by decide +kernel
theorem dX7_readAtom_129 : decode cX7_readAtom 129 = .ok (.return_, 1) := by decide +kernel
theorem dX7_nameHere_0 : decode cX7_nameHere 0 = .ok (.aload_n 0, 1) := by decide +kernel
theorem dX7_nameHere_1 : decode cX7_nameHere 1 = .ok (.ldc_w 261, 3) := by decide +kernel
theorem dX7_nameHere_4 : decode cX7_nameHere 4 = .ok (.invokevirtual 99, 3) := by decide +kernel
theorem dX7_nameHere_7 : decode cX7_nameHere 7 = .ok (.ifCond .eq 5, 3) := by decide +kernel
theorem dX7_nameHere_10 : decode cX7_nameHere 10 = .ok (.iconst 0, 1) := by decide +kernel
theorem dX7_nameHere_11 : decode cX7_nameHere 11 = .ok (.ireturn, 1) := by decide +kernel
theorem dX7_nameHere_12 : decode cX7_nameHere 12 = .ok (.aload_n 0, 1) := by decide +kernel
theorem dX7_nameHere_13 : decode cX7_nameHere 13 = .ok (.ldc 163, 2) := by decide +kernel
theorem dX7_nameHere_15 : decode cX7_nameHere 15 = .ok (.invokevirtual 99, 3) := by decide +kernel
theorem dX7_nameHere_18 : decode cX7_nameHere 18 = .ok (.ifCond .eq 5, 3) := by decide +kernel
theorem dX7_nameHere_21 : decode cX7_nameHere 21 = .ok (.iconst 1, 1) := by decide +kernel
theorem dX7_nameHere_22 : decode cX7_nameHere 22 = .ok (.ireturn, 1) := by decide +kernel
theorem dX7_nameHere_23 : decode cX7_nameHere 23 = .ok (.aload_n 0, 1) := by decide +kernel
theorem dX7_nameHere_24 : decode cX7_nameHere 24 = .ok (.getfield 219, 3) := by decide +kernel
theorem dX7_nameHere_27 : decode cX7_nameHere 27 = .ok (.ifCond .ne 5, 3) := by decide +kernel
theorem dX7_nameHere_30 : decode cX7_nameHere 30 = .ok (.iconst (-1), 1) := by decide +kernel
theorem dX7_nameHere_31 : decode cX7_nameHere 31 = .ok (.ireturn, 1) := by decide +kernel
theorem dX7_nameHere_32 : decode cX7_nameHere 32 = .ok (.aload_n 0, 1) := by decide +kernel
theorem dX7_nameHere_33 : decode cX7_nameHere 33 = .ok (.ldc_w 263, 3) := by decide +kernel
theorem dX7_nameHere_36 : decode cX7_nameHere 36 = .ok (.invokevirtual 99, 3) := by decide +kernel
theorem dX7_nameHere_39 : decode cX7_nameHere 39 = .ok (.ifCond .eq 5, 3) := by decide +kernel
theorem dX7_nameHere_42 : decode cX7_nameHere 42 = .ok (.iconst 2, 1) := by decide +kernel
theorem dX7_nameHere_43 : decode cX7_nameHere 43 = .ok (.ireturn, 1) := by decide +kernel
theorem dX7_nameHere_44 : decode cX7_nameHere 44 = .ok (.aload_n 0, 1) := by decide +kernel
theorem dX7_nameHere_45 : decode cX7_nameHere 45 = .ok (.ldc_w 265, 3) := by decide +kernel
theorem dX7_nameHere_48 : decode cX7_nameHere 48 = .ok (.invokevirtual 99, 3) := by decide +kernel
theorem dX7_nameHere_51 : decode cX7_nameHere 51 = .ok (.ifCond .eq 5, 3) := by decide +kernel
theorem dX7_nameHere_54 : decode cX7_nameHere 54 = .ok (.iconst 3, 1) := by decide +kernel
theorem dX7_nameHere_55 : decode cX7_nameHere 55 = .ok (.ireturn, 1) := by decide +kernel
theorem dX7_nameHere_56 : decode cX7_nameHere 56 = .ok (.aload_n 0, 1) := by decide +kernel
theorem dX7_nameHere_57 : decode cX7_nameHere 57 = .ok (.ldc_w 267, 3) := by decide +kernel
theorem dX7_nameHere_60 : decode cX7_nameHere 60 = .ok (.invokevirtual 99, 3) := by decide +kernel
theorem dX7_nameHere_63 : decode cX7_nameHere 63 = .ok (.ifCond .eq 5, 3) := by decide +kernel
theorem dX7_nameHere_66 : decode cX7_nameHere 66 = .ok (.iconst 4, 1) := by decide +kernel
theorem dX7_nameHere_67 : decode cX7_nameHere 67 = .ok (.ireturn, 1) := by decide +kernel
theorem dX7_nameHere_68 : decode cX7_nameHere 68 = .ok (.aload_n 0, 1) := by decide +kernel
theorem dX7_nameHere_69 : decode cX7_nameHere 69 = .ok (.ldc_w 269, 3) := by decide +kernel
theorem dX7_nameHere_72 : decode cX7_nameHere 72 = .ok (.invokevirtual 99, 3) := by decide +kernel
theorem dX7_nameHere_75 : decode cX7_nameHere 75 = .ok (.ifCond .eq 7, 3) := by decide +kernel
theorem dX7_nameHere_78 : decode cX7_nameHere 78 = .ok (.iconst 5, 1) := by decide +kernel
theorem dX7_nameHere_79 : decode cX7_nameHere 79 = .ok (.goto 4, 3) := by decide +kernel
theorem dX7_nameHere_82 : decode cX7_nameHere 82 = .ok (.iconst (-1), 1) := by decide +kernel
theorem dX7_nameHere_83 : decode cX7_nameHere 83 = .ok (.ireturn, 1) := by decide +kernel
theorem dX7_goesDeeper_0 : decode cX7_goesDeeper 0 = .ok (.iload_n 1, 1) := by decide +kernel
theorem dX7_goesDeeper_1 : decode cX7_goesDeeper 1 = .ok (.bipush 6, 2) := by decide +kernel
theorem dX7_goesDeeper_3 : decode cX7_goesDeeper 3 = .ok (.if_icmp .lt 10, 3) := by decide +kernel
theorem dX7_goesDeeper_6 : decode cX7_goesDeeper 6 = .ok (.aload_n 0, 1) := by decide +kernel
theorem dX7_goesDeeper_7 : decode cX7_goesDeeper 7 = .ok (.iconst 4, 1) := by decide +kernel
theorem dX7_goesDeeper_8 : decode cX7_goesDeeper 8 = .ok (.invokevirtual 103, 3) := by decide +kernel
theorem dX7_goesDeeper_11 : decode cX7_goesDeeper 11 = .ok (.iconst 0, 1) := by decide +kernel
theorem dX7_goesDeeper_12 : decode cX7_goesDeeper 12 = .ok (.ireturn, 1) := by decide +kernel
theorem dX7_goesDeeper_13 : decode cX7_goesDeeper 13 = .ok (.aload_n 0, 1) := by decide +kernel
theorem dX7_goesDeeper_14 : decode cX7_goesDeeper 14 = .ok (.invokevirtual 58, 3) := by decide +kernel
theorem dX7_goesDeeper_17 : decode cX7_goesDeeper 17 = .ok (.iconst 1, 1) := by decide +kernel
theorem dX7_goesDeeper_18 : decode cX7_goesDeeper 18 = .ok (.ireturn, 1) := by decide +kernel
theorem dX7_readChoice_0 : decode cX7_readChoice 0 = .ok (.aload_n 0, 1) := by decide +kernel
theorem dX7_readChoice_1 : decode cX7_readChoice 1 = .ok (.iload_n 1, 1) := by decide +kernel
theorem dX7_readChoice_2 : decode cX7_readChoice 2 = .ok (.invokevirtual 271, 3) := by decide +kernel
theorem dX7_readChoice_5 : decode cX7_readChoice 5 = .ok (.aload_n 0, 1) := by decide +kernel
theorem dX7_readChoice_6 : decode cX7_readChoice 6 = .ok (.ldc_w 274, 3) := by decide +kernel
theorem dX7_readChoice_9 : decode cX7_readChoice 9 = .ok (.invokevirtual 123, 3) := by decide +kernel
theorem dX7_readChoice_12 : decode cX7_readChoice 12 = .ok (.aload_n 0, 1) := by decide +kernel
theorem dX7_readChoice_13 : decode cX7_readChoice 13 = .ok (.iload_n 1, 1) := by decide +kernel
theorem dX7_readChoice_14 : decode cX7_readChoice 14 = .ok (.invokevirtual 223, 3) := by decide +kernel
theorem dX7_readChoice_17 : decode cX7_readChoice 17 = .ok (.aload_n 0, 1) := by decide +kernel
theorem dX7_readChoice_18 : decode cX7_readChoice 18 = .ok (.ldc_w 276, 3) := by decide +kernel
theorem dX7_readChoice_21 : decode cX7_readChoice 21 = .ok (.invokevirtual 123, 3) := by decide +kernel
theorem dX7_readChoice_24 : decode cX7_readChoice 24 = .ok (.aload_n 0, 1) := by decide +kernel
theorem dX7_readChoice_25 : decode cX7_readChoice 25 = .ok (.iload_n 1, 1) := by decide +kernel
theorem dX7_readChoice_26 : decode cX7_readChoice 26 = .ok (.invokevirtual 223, 3) := by decide +kernel
theorem dX7_readChoice_29 : decode cX7_readChoice 29 = .ok (.aload_n 0, 1) := by decide +kernel
theorem dX7_readChoice_30 : decode cX7_readChoice 30 = .ok (.ldc_w 278, 3) := by decide +kernel
theorem dX7_readChoice_33 : decode cX7_readChoice 33 = .ok (.invokevirtual 123, 3) := by decide +kernel
theorem dX7_readChoice_36 : decode cX7_readChoice 36 = .ok (.aload_n 0, 1) := by decide +kernel
theorem dX7_readChoice_37 : decode cX7_readChoice 37 = .ok (.getfield 22, 3) := by decide +kernel
theorem dX7_readChoice_40 : decode cX7_readChoice 40 = .ok (.sipush 1009, 3) := by decide +kernel
theorem dX7_readChoice_43 : decode cX7_readChoice 43 = .ok (.invokevirtual 243, 3) := by decide +kernel
theorem dX7_readChoice_46 : decode cX7_readChoice 46 = .ok (.return_, 1) := by decide +kernel
theorem dX7_readTruth_0 : decode cX7_readTruth 0 = .ok (.aload_n 0, 1) := by decide +kernel
theorem dX7_readTruth_1 : decode cX7_readTruth 1 = .ok (.iload_n 1, 1) := by decide +kernel
theorem dX7_readTruth_2 : decode cX7_readTruth 2 = .ok (.invokevirtual 280, 3) := by decide +kernel
theorem dX7_readTruth_5 : decode cX7_readTruth 5 = .ok (.iconst 0, 1) := by decide +kernel
theorem dX7_readTruth_6 : decode cX7_readTruth 6 = .ok (.istore_n 2, 1) := by decide +kernel
theorem dX7_readTruth_7 : decode cX7_readTruth 7 = .ok (.iload_n 2, 1) := by decide +kernel
theorem dX7_readTruth_8 : decode cX7_readTruth 8 = .ok (.sipush 900, 3) := by decide +kernel
theorem dX7_readTruth_11 : decode cX7_readTruth 11 = .ok (.if_icmp .ge 45, 3) := by decide +kernel
theorem dX7_readTruth_14 : decode cX7_readTruth 14 = .ok (.aload_n 0, 1) := by decide +kernel
theorem dX7_readTruth_15 : decode cX7_readTruth 15 = .ok (.getfield 48, 3) := by decide +kernel
theorem dX7_readTruth_18 : decode cX7_readTruth 18 = .ok (.ifCond .ne 38, 3) := by decide +kernel
theorem dX7_readTruth_21 : decode cX7_readTruth 21 = .ok (.aload_n 0, 1) := by decide +kernel
theorem dX7_readTruth_22 : decode cX7_readTruth 22 = .ok (.ldc_w 283, 3) := by decide +kernel
theorem dX7_readTruth_25 : decode cX7_readTruth 25 = .ok (.invokevirtual 99, 3) := by decide +kernel
theorem dX7_readTruth_28 : decode cX7_readTruth 28 = .ok (.ifCond .eq 28, 3) := by decide +kernel
theorem dX7_readTruth_31 : decode cX7_readTruth 31 = .ok (.aload_n 0, 1) := by decide +kernel
theorem dX7_readTruth_32 : decode cX7_readTruth 32 = .ok (.invokevirtual 58, 3) := by decide +kernel
theorem dX7_readTruth_35 : decode cX7_readTruth 35 = .ok (.aload_n 0, 1) := by decide +kernel
theorem dX7_readTruth_36 : decode cX7_readTruth 36 = .ok (.iload_n 1, 1) := by decide +kernel
theorem dX7_readTruth_37 : decode cX7_readTruth 37 = .ok (.invokevirtual 280, 3) := by decide +kernel
theorem dX7_readTruth_40 : decode cX7_readTruth 40 = .ok (.aload_n 0, 1) := by decide +kernel
theorem dX7_readTruth_41 : decode cX7_readTruth 41 = .ok (.getfield 22, 3) := by decide +kernel
theorem dX7_readTruth_44 : decode cX7_readTruth 44 = .ok (.sipush 1007, 3) := by decide +kernel
theorem dX7_readTruth_47 : decode cX7_readTruth 47 = .ok (.invokevirtual 243, 3) := by decide +kernel
theorem dX7_readTruth_50 : decode cX7_readTruth 50 = .ok (.iinc 2 1, 3) := by decide +kernel
theorem dX7_readTruth_53 : decode cX7_readTruth 53 = .ok (.goto (-46), 3) := by decide +kernel
theorem dX7_readTruth_56 : decode cX7_readTruth 56 = .ok (.return_, 1) := by decide +kernel
theorem dX7_readBoth_0 : decode cX7_readBoth 0 = .ok (.aload_n 0, 1) := by decide +kernel
theorem dX7_readBoth_1 : decode cX7_readBoth 1 = .ok (.iload_n 1, 1) := by decide +kernel
theorem dX7_readBoth_2 : decode cX7_readBoth 2 = .ok (.invokevirtual 285, 3) := by decide +kernel
theorem dX7_readBoth_5 : decode cX7_readBoth 5 = .ok (.iconst 0, 1) := by decide +kernel
theorem dX7_readBoth_6 : decode cX7_readBoth 6 = .ok (.istore_n 2, 1) := by decide +kernel
theorem dX7_readBoth_7 : decode cX7_readBoth 7 = .ok (.iload_n 2, 1) := by decide +kernel
theorem dX7_readBoth_8 : decode cX7_readBoth 8 = .ok (.sipush 900, 3) := by decide +kernel
theorem dX7_readBoth_11 : decode cX7_readBoth 11 = .ok (.if_icmp .ge 45, 3) := by decide +kernel
theorem dX7_readBoth_14 : decode cX7_readBoth 14 = .ok (.aload_n 0, 1) := by decide +kernel
theorem dX7_readBoth_15 : decode cX7_readBoth 15 = .ok (.getfield 48, 3) := by decide +kernel
theorem dX7_readBoth_18 : decode cX7_readBoth 18 = .ok (.ifCond .ne 38, 3) := by decide +kernel
theorem dX7_readBoth_21 : decode cX7_readBoth 21 = .ok (.aload_n 0, 1) := by decide +kernel
theorem dX7_readBoth_22 : decode cX7_readBoth 22 = .ok (.ldc_w 288, 3) := by decide +kernel
theorem dX7_readBoth_25 : decode cX7_readBoth 25 = .ok (.invokevirtual 99, 3) := by decide +kernel
theorem dX7_readBoth_28 : decode cX7_readBoth 28 = .ok (.ifCond .eq 28, 3) := by decide +kernel
theorem dX7_readBoth_31 : decode cX7_readBoth 31 = .ok (.aload_n 0, 1) := by decide +kernel
theorem dX7_readBoth_32 : decode cX7_readBoth 32 = .ok (.invokevirtual 58, 3) := by decide +kernel
theorem dX7_readBoth_35 : decode cX7_readBoth 35 = .ok (.aload_n 0, 1) := by decide +kernel
theorem dX7_readBoth_36 : decode cX7_readBoth 36 = .ok (.iload_n 1, 1) := by decide +kernel
theorem dX7_readBoth_37 : decode cX7_readBoth 37 = .ok (.invokevirtual 285, 3) := by decide +kernel
theorem dX7_readBoth_40 : decode cX7_readBoth 40 = .ok (.aload_n 0, 1) := by decide +kernel
theorem dX7_readBoth_41 : decode cX7_readBoth 41 = .ok (.getfield 22, 3) := by decide +kernel
theorem dX7_readBoth_44 : decode cX7_readBoth 44 = .ok (.sipush 1006, 3) := by decide +kernel
theorem dX7_readBoth_47 : decode cX7_readBoth 47 = .ok (.invokevirtual 243, 3) := by decide +kernel
theorem dX7_readBoth_50 : decode cX7_readBoth 50 = .ok (.iinc 2 1, 3) := by decide +kernel
theorem dX7_readBoth_53 : decode cX7_readBoth 53 = .ok (.goto (-46), 3) := by decide +kernel
theorem dX7_readBoth_56 : decode cX7_readBoth 56 = .ok (.return_, 1) := by decide +kernel
theorem dX7_readUnit_0 : decode cX7_readUnit 0 = .ok (.aload_n 0, 1) := by decide +kernel
theorem dX7_readUnit_1 : decode cX7_readUnit 1 = .ok (.getfield 48, 3) := by decide +kernel
theorem dX7_readUnit_4 : decode cX7_readUnit 4 = .ok (.ifCond .eq 4, 3) := by decide +kernel
theorem dX7_readUnit_7 : decode cX7_readUnit 7 = .ok (.return_, 1) := by decide +kernel
theorem dX7_readUnit_8 : decode cX7_readUnit 8 = .ok (.aload_n 0, 1) := by decide +kernel
theorem dX7_readUnit_9 : decode cX7_readUnit 9 = .ok (.ldc_w 290, 3) := by decide +kernel
theorem dX7_readUnit_12 : decode cX7_readUnit 12 = .ok (.invokevirtual 99, 3) := by decide +kernel
theorem dX7_readUnit_15 : decode cX7_readUnit 15 = .ok (.ifCond .eq 31, 3) := by decide +kernel
theorem dX7_readUnit_18 : decode cX7_readUnit 18 = .ok (.aload_n 0, 1) := by decide +kernel
theorem dX7_readUnit_19 : decode cX7_readUnit 19 = .ok (.iload_n 1, 1) := by decide +kernel
theorem dX7_readUnit_20 : decode cX7_readUnit 20 = .ok (.invokevirtual 252, 3) := by decide +kernel
theorem dX7_readUnit_23 : decode cX7_readUnit 23 = .ok (.ifCond .eq 61, 3) := by decide +kernel
theorem dX7_readUnit_26 : decode cX7_readUnit 26 = .ok (.aload_n 0, 1) := by decide +kernel
theorem dX7_readUnit_27 : decode cX7_readUnit 27 = .ok (.iload_n 1, 1) := by decide +kernel
theorem dX7_readUnit_28 : decode cX7_readUnit 28 = .ok (.iconst 1, 1) := by decide +kernel
theorem dX7_readUnit_29 : decode cX7_readUnit 29 = .ok (.iadd, 1) := by decide +kernel
theorem dX7_readUnit_30 : decode cX7_readUnit 30 = .ok (.invokevirtual 285, 3) := by decide +kernel
theorem dX7_readUnit_33 : decode cX7_readUnit 33 = .ok (.aload_n 0, 1) := by decide +kernel
theorem dX7_readUnit_34 : decode cX7_readUnit 34 = .ok (.getfield 22, 3) := by decide +kernel
theorem dX7_readUnit_37 : decode cX7_readUnit 37 = .ok (.sipush 1008, 3) := by decide +kernel
theorem dX7_readUnit_40 : decode cX7_readUnit 40 = .ok (.invokevirtual 243, 3) := by decide +kernel
theorem dX7_readUnit_43 : decode cX7_readUnit 43 = .ok (.goto 41, 3) := by decide +kernel
theorem dX7_readUnit_46 : decode cX7_readUnit 46 = .ok (.aload_n 0, 1) := by decide +kernel
theorem dX7_readUnit_47 : decode cX7_readUnit 47 = .ok (.bipush 91, 2) := by decide +kernel
theorem dX7_readUnit_49 : decode cX7_readUnit 49 = .ok (.invokevirtual 107, 3) := by decide +kernel
theorem dX7_readUnit_52 : decode cX7_readUnit 52 = .ok (.ifCond .eq 27, 3) := by decide +kernel
theorem dX7_readUnit_55 : decode cX7_readUnit 55 = .ok (.aload_n 0, 1) := by decide +kernel
theorem dX7_readUnit_56 : decode cX7_readUnit 56 = .ok (.iload_n 1, 1) := by decide +kernel
theorem dX7_readUnit_57 : decode cX7_readUnit 57 = .ok (.invokevirtual 252, 3) := by decide +kernel
theorem dX7_readUnit_60 : decode cX7_readUnit 60 = .ok (.ifCond .eq 24, 3) := by decide +kernel
theorem dX7_readUnit_63 : decode cX7_readUnit 63 = .ok (.aload_n 0, 1) := by decide +kernel
theorem dX7_readUnit_64 : decode cX7_readUnit 64 = .ok (.iload_n 1, 1) := by decide +kernel
theorem dX7_readUnit_65 : decode cX7_readUnit 65 = .ok (.iconst 1, 1) := by decide +kernel
theorem dX7_readUnit_66 : decode cX7_readUnit 66 = .ok (.iadd, 1) := by decide +kernel
theorem dX7_readUnit_67 : decode cX7_readUnit 67 = .ok (.invokevirtual 271, 3) := by decide +kernel
theorem dX7_readUnit_70 : decode cX7_readUnit 70 = .ok (.aload_n 0, 1) := by decide +kernel
theorem dX7_readUnit_71 : decode cX7_readUnit 71 = .ok (.bipush 93, 2) := by decide +kernel
theorem dX7_readUnit_73 : decode cX7_readUnit 73 = .ok (.invokevirtual 70, 3) := by decide +kernel
theorem dX7_readUnit_76 : decode cX7_readUnit 76 = .ok (.goto 8, 3) := by decide +kernel
theorem dX7_readUnit_79 : decode cX7_readUnit 79 = .ok (.aload_n 0, 1) := by decide +kernel
theorem dX7_readUnit_80 : decode cX7_readUnit 80 = .ok (.iload_n 1, 1) := by decide +kernel
theorem dX7_readUnit_81 : decode cX7_readUnit 81 = .ok (.invokevirtual 292, 3) := by decide +kernel
theorem dX7_readUnit_84 : decode cX7_readUnit 84 = .ok (.return_, 1) := by decide +kernel
theorem dX7_readComparison_0 : decode cX7_readComparison 0 = .ok (.aload_n 0, 1) := by decide +kernel
theorem dX7_readComparison_1 : decode cX7_readComparison 1 = .ok (.iload_n 1, 1) := by decide +kernel
theorem dX7_readComparison_2 : decode cX7_readComparison 2 = .ok (.invokevirtual 223, 3) := by decide +kernel
theorem dX7_readComparison_5 : decode cX7_readComparison 5 = .ok (.sipush 1003, 3) := by decide +kernel
theorem dX7_readComparison_8 : decode cX7_readComparison 8 = .ok (.istore_n 2, 1) := by decide +kernel
theorem dX7_readComparison_9 : decode cX7_readComparison 9 = .ok (.aload_n 0, 1) := by decide +kernel
theorem dX7_readComparison_10 : decode cX7_readComparison 10 = .ok (.bipush 60, 2) := by decide +kernel
theorem dX7_readComparison_12 : decode cX7_readComparison 12 = .ok (.invokevirtual 107, 3) := by decide +kernel
theorem dX7_readComparison_15 : decode cX7_readComparison 15 = .ok (.ifCond .eq 10, 3) := by decide +kernel
theorem dX7_readComparison_18 : decode cX7_readComparison 18 = .ok (.sipush 1004, 3) := by decide +kernel
theorem dX7_readComparison_21 : decode cX7_readComparison 21 = .ok (.istore_n 2, 1) := by decide +kernel
theorem dX7_readComparison_22 : decode cX7_readComparison 22 = .ok (.goto 33, 3) := by decide +kernel
theorem dX7_readComparison_25 : decode cX7_readComparison 25 = .ok (.aload_n 0, 1) := by decide +kernel
theorem dX7_readComparison_26 : decode cX7_readComparison 26 = .ok (.bipush 62, 2) := by decide +kernel
theorem dX7_readComparison_28 : decode cX7_readComparison 28 = .ok (.invokevirtual 107, 3) := by decide +kernel
theorem dX7_readComparison_31 : decode cX7_readComparison 31 = .ok (.ifCond .eq 10, 3) := by decide +kernel
theorem dX7_readComparison_34 : decode cX7_readComparison 34 = .ok (.sipush 1005, 3) := by decide +kernel
theorem dX7_readComparison_37 : decode cX7_readComparison 37 = .ok (.istore_n 2, 1) := by decide +kernel
theorem dX7_readComparison_38 : decode cX7_readComparison 38 = .ok (.goto 17, 3) := by decide +kernel
theorem dX7_readComparison_41 : decode cX7_readComparison 41 = .ok (.aload_n 0, 1) := by decide +kernel
theorem dX7_readComparison_42 : decode cX7_readComparison 42 = .ok (.bipush 61, 2) := by decide +kernel
theorem dX7_readComparison_44 : decode cX7_readComparison 44 = .ok (.invokevirtual 107, 3) := by decide +kernel
theorem dX7_readComparison_47 : decode cX7_readComparison 47 = .ok (.ifCond .ne 8, 3) := by decide +kernel
theorem dX7_readComparison_50 : decode cX7_readComparison 50 = .ok (.aload_n 0, 1) := by decide +kernel
theorem dX7_readComparison_51 : decode cX7_readComparison 51 = .ok (.iconst 2, 1) := by decide +kernel
theorem dX7_readComparison_52 : decode cX7_readComparison 52 = .ok (.invokevirtual 103, 3) := by decide +kernel
theorem dX7_readComparison_55 : decode cX7_readComparison 55 = .ok (.aload_n 0, 1) := by decide +kernel
theorem dX7_readComparison_56 : decode cX7_readComparison 56 = .ok (.getfield 48, 3) := by decide +kernel
theorem dX7_readComparison_59 : decode cX7_readComparison 59 = .ok (.ifCond .ne 20, 3) := by decide +kernel
theorem dX7_readComparison_62 : decode cX7_readComparison 62 = .ok (.aload_n 0, 1) := by decide +kernel
theorem dX7_readComparison_63 : decode cX7_readComparison 63 = .ok (.invokevirtual 58, 3) := by decide +kernel
theorem dX7_readComparison_66 : decode cX7_readComparison 66 = .ok (.aload_n 0, 1) := by decide +kernel
theorem dX7_readComparison_67 : decode cX7_readComparison 67 = .ok (.iload_n 1, 1) := by decide +kernel
theorem dX7_readComparison_68 : decode cX7_readComparison 68 = .ok (.invokevirtual 223, 3) := by decide +kernel
theorem dX7_readComparison_71 : decode cX7_readComparison 71 = .ok (.aload_n 0, 1) := by decide +kernel
theorem dX7_readComparison_72 : decode cX7_readComparison 72 = .ok (.getfield 22, 3) := by decide +kernel
theorem dX7_readComparison_75 : decode cX7_readComparison 75 = .ok (.iload_n 2, 1) := by decide +kernel
theorem dX7_readComparison_76 : decode cX7_readComparison 76 = .ok (.invokevirtual 243, 3) := by decide +kernel
theorem dX7_readComparison_79 : decode cX7_readComparison 79 = .ok (.return_, 1) := by decide +kernel
theorem dX8_init_0 : decode cX8_init 0 = .ok (.aload_n 0, 1) := by decide +kernel
theorem dX8_init_1 : decode cX8_init 1 = .ok (.invokespecial 3, 3) := by decide +kernel
theorem dX8_init_4 : decode cX8_init 4 = .ok (.aload_n 0, 1) := by decide +kernel
theorem dX8_init_5 : decode cX8_init 5 = .ok (.new 9, 3) := by decide +kernel
theorem dX8_init_8 : decode cX8_init 8 = .ok (.dup, 1) := by decide +kernel
theorem dX8_init_9 : decode cX8_init 9 = .ok (.invokespecial 11, 3) := by decide +kernel
theorem dX8_init_12 : decode cX8_init 12 = .ok (.putfield 12, 3) := by decide +kernel
theorem dX8_init_15 : decode cX8_init 15 = .ok (.aload_n 0, 1) := by decide +kernel
theorem dX8_init_16 : decode cX8_init 16 = .ok (.bipush 25, 2) := by decide +kernel
theorem dX8_init_18 : decode cX8_init 18 = .ok (.newarray .int, 2) := by decide +kernel
theorem dX8_init_20 : decode cX8_init 20 = .ok (.putfield 18, 3) := by decide +kernel
theorem dX8_init_23 : decode cX8_init 23 = .ok (.aload_n 0, 1) := by decide +kernel
theorem dX8_init_24 : decode cX8_init 24 = .ok (.bipush 11, 2) := by decide +kernel
theorem dX8_init_26 : decode cX8_init 26 = .ok (.newarray .int, 2) := by decide +kernel
theorem dX8_init_28 : decode cX8_init 28 = .ok (.putfield 22, 3) := by decide +kernel
theorem dX8_init_31 : decode cX8_init 31 = .ok (.return_, 1) := by decide +kernel
theorem dX8_tideAt_0 : decode cX8_tideAt 0 = .ok (.aload_n 1, 1) := by decide +kernel
theorem dX8_tideAt_1 : decode cX8_tideAt 1 = .ok (.getfield 25, 3) := by decide +kernel
theorem dX8_tideAt_4 : decode cX8_tideAt 4 = .ok (.aload_n 1, 1) := by decide +kernel
theorem dX8_tideAt_5 : decode cX8_tideAt 5 = .ok (.getfield 31, 3) := by decide +kernel
theorem dX8_tideAt_8 : decode cX8_tideAt 8 = .ok (.if_icmp .lt 29, 3) := by decide +kernel
theorem dX8_tideAt_11 : decode cX8_tideAt 11 = .ok (.iload_n 2, 1) := by decide +kernel
theorem dX8_tideAt_12 : decode cX8_tideAt 12 = .ok (.bipush 18, 2) := by decide +kernel
theorem dX8_tideAt_14 : decode cX8_tideAt 14 = .ok (.invokestatic 34, 3) := by decide +kernel
theorem dX8_tideAt_17 : decode cX8_tideAt 17 = .ok (.istore 4, 2) := by decide +kernel
theorem dX8_tideAt_19 : decode cX8_tideAt 19 = .ok (.iload 4, 2) := by decide +kernel
theorem dX8_tideAt_21 : decode cX8_tideAt 21 = .ok (.bipush 9, 2) := by decide +kernel
theorem dX8_tideAt_23 : decode cX8_tideAt 23 = .ok (.if_icmp .le 11, 3) := by decide +kernel
theorem dX8_tideAt_26 : decode cX8_tideAt 26 = .ok (.bipush 18, 2) := by decide +kernel
theorem dX8_tideAt_28 : decode cX8_tideAt 28 = .ok (.iload 4, 2) := by decide +kernel
theorem dX8_tideAt_30 : decode cX8_tideAt 30 = .ok (.isub, 1) := by decide +kernel
theorem dX8_tideAt_31 : decode cX8_tideAt 31 = .ok (.goto 5, 3) := by decide +kernel
theorem dX8_tideAt_34 : decode cX8_tideAt 34 = .ok (.iload 4, 2) := by decide +kernel
theorem dX8_tideAt_36 : decode cX8_tideAt 36 = .ok (.ireturn, 1) := by decide +kernel
theorem dX8_tideAt_37 : decode cX8_tideAt 37 = .ok (.aload_n 0, 1) := by decide +kernel
theorem dX8_tideAt_38 : decode cX8_tideAt 38 = .ok (.getfield 12, 3) := by decide +kernel
theorem dX8_tideAt_41 : decode cX8_tideAt 41 = .ok (.getfield 40, 3) := by decide +kernel
theorem dX8_tideAt_44 : decode cX8_tideAt 44 = .ok (.iconst 0, 1) := by decide +kernel
theorem dX8_tideAt_45 : decode cX8_tideAt 45 = .ok (.iload_n 2, 1) := by decide +kernel
theorem dX8_tideAt_46 : decode cX8_tideAt 46 = .ok (.iastore, 1) := by decide +kernel
theorem dX8_tideAt_47 : decode cX8_tideAt 47 = .ok (.aload_n 0, 1) := by decide +kernel
theorem dX8_tideAt_48 : decode cX8_tideAt 48 = .ok (.getfield 12, 3) := by decide +kernel
theorem dX8_tideAt_51 : decode cX8_tideAt 51 = .ok (.getfield 40, 3) := by decide +kernel
theorem dX8_tideAt_54 : decode cX8_tideAt 54 = .ok (.iconst 1, 1) := by decide +kernel
theorem dX8_tideAt_55 : decode cX8_tideAt 55 = .ok (.iload_n 3, 1) := by decide +kernel
theorem dX8_tideAt_56 : decode cX8_tideAt 56 = .ok (.iastore, 1) := by decide +kernel
theorem dX8_tideAt_57 : decode cX8_tideAt 57 = .ok (.aload_n 0, 1) := by decide +kernel
theorem dX8_tideAt_58 : decode cX8_tideAt 58 = .ok (.getfield 12, 3) := by decide +kernel
theorem dX8_tideAt_61 : decode cX8_tideAt 61 = .ok (.aload_n 1, 1) := by decide +kernel
theorem dX8_tideAt_62 : decode cX8_tideAt 62 = .ok (.getfield 43, 3) := by decide +kernel
theorem dX8_tideAt_65 : decode cX8_tideAt 65 = .ok (.aload_n 1, 1) := by decide +kernel
theorem dX8_tideAt_66 : decode cX8_tideAt 66 = .ok (.getfield 25, 3) := by decide +kernel
theorem dX8_tideAt_69 : decode cX8_tideAt 69 = .ok (.aload_n 1, 1) := by decide +kernel
theorem dX8_tideAt_70 : decode cX8_tideAt 70 = .ok (.getfield 31, 3) := by decide +kernel
theorem dX8_tideAt_73 : decode cX8_tideAt 73 = .ok (.invokevirtual 46, 3) := by decide +kernel
theorem dX8_tideAt_76 : decode cX8_tideAt 76 = .ok (.istore 4, 2) := by decide +kernel
theorem dX8_tideAt_78 : decode cX8_tideAt 78 = .ok (.iconst 0, 1) := by decide +kernel
theorem dX8_tideAt_79 : decode cX8_tideAt 79 = .ok (.bipush 10, 2) := by decide +kernel
theorem dX8_tideAt_81 : decode cX8_tideAt 81 = .ok (.iload 4, 2) := by decide +kernel
theorem dX8_tideAt_83 : decode cX8_tideAt 83 = .ok (.invokestatic 50, 3) := by decide +kernel
theorem dX8_tideAt_86 : decode cX8_tideAt 86 = .ok (.invokestatic 53, 3) := by decide +kernel
theorem dX8_tideAt_89 : decode cX8_tideAt 89 = .ok (.ireturn, 1) := by decide +kernel
theorem dX8_wetAt_0 : decode cX8_wetAt 0 = .ok (.iconst 0, 1) := by decide +kernel
theorem dX8_wetAt_1 : decode cX8_wetAt 1 = .ok (.istore_n 3, 1) := by decide +kernel
theorem dX8_wetAt_2 : decode cX8_wetAt 2 = .ok (.aload_n 0, 1) := by decide +kernel
theorem dX8_wetAt_3 : decode cX8_wetAt 3 = .ok (.invokevirtual 56, 3) := by decide +kernel
theorem dX8_wetAt_6 : decode cX8_wetAt 6 = .ok (.aload_n 1, 1) := by decide +kernel
theorem dX8_wetAt_7 : decode cX8_wetAt 7 = .ok (.arraylength, 1) := by decide +kernel
theorem dX8_wetAt_8 : decode cX8_wetAt 8 = .ok (.invokestatic 50, 3) := by decide +kernel
theorem dX8_wetAt_11 : decode cX8_wetAt 11 = .ok (.istore 4, 2) := by decide +kernel
theorem dX8_wetAt_13 : decode cX8_wetAt 13 = .ok (.iconst 0, 1) := by decide +kernel
theorem dX8_wetAt_14 : decode cX8_wetAt 14 = .ok (.istore 5, 2) := by decide +kernel
theorem dX8_wetAt_16 : decode cX8_wetAt 16 = .ok (.iload 5, 2) := by decide +kernel
theorem dX8_wetAt_18 : decode cX8_wetAt 18 = .ok (.iload 4, 2) := by decide +kernel
theorem dX8_wetAt_20 : decode cX8_wetAt 20 = .ok (.if_icmp .ge 24, 3) := by decide +kernel
theorem dX8_wetAt_23 : decode cX8_wetAt 23 = .ok (.aload_n 1, 1) := by decide +kernel
theorem dX8_wetAt_24 : decode cX8_wetAt 24 = .ok (.iload 5, 2) := by decide +kernel
theorem dX8_wetAt_26 : decode cX8_wetAt 26 = .ok (.iaload, 1) := by decide +kernel
theorem dX8_wetAt_27 : decode cX8_wetAt 27 = .ok (.iload_n 2, 1) := by decide +kernel
theorem dX8_wetAt_28 : decode cX8_wetAt 28 = .ok (.if_icmp .ge 10, 3) := by decide +kernel
theorem dX8_wetAt_31 : decode cX8_wetAt 31 = .ok (.iload_n 3, 1) := by decide +kernel
theorem dX8_wetAt_32 : decode cX8_wetAt 32 = .ok (.iconst 1, 1) := by decide +kernel
theorem dX8_wetAt_33 : decode cX8_wetAt 33 = .ok (.iload 5, 2) := by decide +kernel
theorem dX8_wetAt_35 : decode cX8_wetAt 35 = .ok (.ishl, 1) := by decide +kernel
theorem dX8_wetAt_36 : decode cX8_wetAt 36 = .ok (.ior, 1) := by decide +kernel
theorem dX8_wetAt_37 : decode cX8_wetAt 37 = .ok (.istore_n 3, 1) := by decide +kernel
theorem dX8_wetAt_38 : decode cX8_wetAt 38 = .ok (.iinc 5 1, 3) := by decide +kernel
theorem dX8_wetAt_41 : decode cX8_wetAt 41 = .ok (.goto (-25), 3) := by decide +kernel
theorem dX8_wetAt_44 : decode cX8_wetAt 44 = .ok (.iload_n 3, 1) := by decide +kernel
theorem dX8_wetAt_45 : decode cX8_wetAt 45 = .ok (.iconst 1, 1) := by decide +kernel
theorem dX8_wetAt_46 : decode cX8_wetAt 46 = .ok (.aload_n 0, 1) := by decide +kernel
theorem dX8_wetAt_47 : decode cX8_wetAt 47 = .ok (.getfield 60, 3) := by decide +kernel
theorem dX8_wetAt_50 : decode cX8_wetAt 50 = .ok (.ishl, 1) := by decide +kernel
theorem dX8_wetAt_51 : decode cX8_wetAt 51 = .ok (.iconst 1, 1) := by decide +kernel
theorem dX8_wetAt_52 : decode cX8_wetAt 52 = .ok (.isub, 1) := by decide +kernel
theorem dX8_wetAt_53 : decode cX8_wetAt 53 = .ok (.iand, 1) := by decide +kernel
theorem dX8_wetAt_54 : decode cX8_wetAt 54 = .ok (.istore 5, 2) := by decide +kernel
theorem dX8_wetAt_56 : decode cX8_wetAt 56 = .ok (.iconst 0, 1) := by decide +kernel
theorem dX8_wetAt_57 : decode cX8_wetAt 57 = .ok (.istore 6, 2) := by decide +kernel
theorem dX8_wetAt_59 : decode cX8_wetAt 59 = .ok (.iload 6, 2) := by decide +kernel
theorem dX8_wetAt_61 : decode cX8_wetAt 61 = .ok (.bipush 25, 2) := by decide +kernel
theorem dX8_wetAt_63 : decode cX8_wetAt 63 = .ok (.if_icmp .ge 36, 3) := by decide +kernel
theorem dX8_wetAt_66 : decode cX8_wetAt 66 = .ok (.iload 5, 2) := by decide +kernel
theorem dX8_wetAt_68 : decode cX8_wetAt 68 = .ok (.aload_n 0, 1) := by decide +kernel
theorem dX8_wetAt_69 : decode cX8_wetAt 69 = .ok (.iload 5, 2) := by decide +kernel
theorem dX8_wetAt_71 : decode cX8_wetAt 71 = .ok (.invokestatic 63, 3) := by decide +kernel
theorem dX8_wetAt_74 : decode cX8_wetAt 74 = .ok (.iload_n 3, 1) := by decide +kernel
theorem dX8_wetAt_75 : decode cX8_wetAt 75 = .ok (.iand, 1) := by decide +kernel
theorem dX8_wetAt_76 : decode cX8_wetAt 76 = .ok (.ior, 1) := by decide +kernel
theorem dX8_wetAt_77 : decode cX8_wetAt 77 = .ok (.istore 7, 2) := by decide +kernel
theorem dX8_wetAt_79 : decode cX8_wetAt 79 = .ok (.iload 7, 2) := by decide +kernel
theorem dX8_wetAt_81 : decode cX8_wetAt 81 = .ok (.iload 5, 2) := by decide +kernel
theorem dX8_wetAt_83 : decode cX8_wetAt 83 = .ok (.if_icmp .ne 6, 3) := by decide +kernel
theorem dX8_wetAt_86 : decode cX8_wetAt 86 = .ok (.goto 13, 3) := by decide +kernel
theorem dX8_wetAt_89 : decode cX8_wetAt 89 = .ok (.iload 7, 2) := by decide +kernel
theorem dX8_wetAt_91 : decode cX8_wetAt 91 = .ok (.istore 5, 2) := by decide +kernel
theorem dX8_wetAt_93 : decode cX8_wetAt 93 = .ok (.iinc 6 1, 3) := by decide +kernel
theorem dX8_wetAt_96 : decode cX8_wetAt 96 = .ok (.goto (-37), 3) := by decide +kernel
theorem dX8_wetAt_99 : decode cX8_wetAt 99 = .ok (.iload 5, 2) := by decide +kernel
theorem dX8_wetAt_101 : decode cX8_wetAt 101 = .ok (.ireturn, 1) := by decide +kernel
theorem dX8_besides_0 : decode cX8_besides 0 = .ok (.aload_n 0, 1) := by decide +kernel
theorem dX8_besides_1 : decode cX8_besides 1 = .ok (.getfield 67, 3) := by decide +kernel
theorem dX8_besides_4 : decode cX8_besides 4 = .ok (.aload_n 0, 1) := by decide +kernel
theorem dX8_besides_5 : decode cX8_besides 5 = .ok (.getfield 60, 3) := by decide +kernel
theorem dX8_besides_8 : decode cX8_besides 8 = .ok (.iconst 1, 1) := by decide +kernel
theorem dX8_besides_9 : decode cX8_besides 9 = .ok (.isub, 1) := by decide +kernel
theorem dX8_besides_10 : decode cX8_besides 10 = .ok (.ishl, 1) := by decide +kernel
theorem dX8_besides_11 : decode cX8_besides 11 = .ok (.istore_n 2, 1) := by decide +kernel
theorem dX8_besides_12 : decode cX8_besides 12 = .ok (.iload_n 1, 1) := by decide +kernel
theorem dX8_besides_13 : decode cX8_besides 13 = .ok (.aload_n 0, 1) := by decide +kernel
theorem dX8_besides_14 : decode cX8_besides 14 = .ok (.getfield 60, 3) := by decide +kernel
theorem dX8_besides_17 : decode cX8_besides 17 = .ok (.ishl, 1) := by decide +kernel
theorem dX8_besides_18 : decode cX8_besides 18 = .ok (.iload_n 1, 1) := by decide +kernel
theorem dX8_besides_19 : decode cX8_besides 19 = .ok (.aload_n 0, 1) := by decide +kernel
theorem dX8_besides_20 : decode cX8_besides 20 = .ok (.getfield 60, 3) := by decide +kernel
theorem dX8_besides_23 : decode cX8_besides 23 = .ok (.ishr, 1) := by decide +kernel
theorem dX8_besides_24 : decode cX8_besides 24 = .ok (.ior, 1) := by decide +kernel
theorem dX8_besides_25 : decode cX8_besides 25 = .ok (.iload_n 1, 1) := by decide +kernel
theorem dX8_besides_26 : decode cX8_besides 26 = .ok (.iload_n 2, 1) := by decide +kernel
theorem dX8_besides_27 : decode cX8_besides 27 = .ok (.iconst (-1), 1) := by decide +kernel
theorem dX8_besides_28 : decode cX8_besides 28 = .ok (.ixor, 1) := by decide +kernel
theorem dX8_besides_29 : decode cX8_besides 29 = .ok (.iand, 1) := by decide +kernel
theorem dX8_besides_30 : decode cX8_besides 30 = .ok (.iconst 1, 1) := by decide +kernel
theorem dX8_besides_31 : decode cX8_besides 31 = .ok (.ishl, 1) := by decide +kernel
theorem dX8_besides_32 : decode cX8_besides 32 = .ok (.ior, 1) := by decide +kernel
theorem dX8_besides_33 : decode cX8_besides 33 = .ok (.iload_n 1, 1) := by decide +kernel
theorem dX8_besides_34 : decode cX8_besides 34 = .ok (.aload_n 0, 1) := by decide +kernel
theorem dX8_besides_35 : decode cX8_besides 35 = .ok (.getfield 67, 3) := by decide +kernel
theorem dX8_besides_38 : decode cX8_besides 38 = .ok (.iconst (-1), 1) := by decide +kernel
theorem dX8_besides_39 : decode cX8_besides 39 = .ok (.ixor, 1) := by decide +kernel
theorem dX8_besides_40 : decode cX8_besides 40 = .ok (.iand, 1) := by decide +kernel
theorem dX8_besides_41 : decode cX8_besides 41 = .ok (.iconst 1, 1) := by decide +kernel
theorem dX8_besides_42 : decode cX8_besides 42 = .ok (.ishr, 1) := by decide +kernel
theorem dX8_besides_43 : decode cX8_besides 43 = .ok (.ior, 1) := by decide +kernel
theorem dX8_besides_44 : decode cX8_besides 44 = .ok (.ireturn, 1) := by decide +kernel
theorem dX8_tick_0 : decode cX8_tick 0 = .ok (.aload_n 0, 1) := by decide +kernel
theorem dX8_tick_1 : decode cX8_tick 1 = .ok (.aload_n 1, 1) := by decide +kernel
theorem dX8_tick_2 : decode cX8_tick 2 = .ok (.aload_n 2, 1) := by decide +kernel
theorem dX8_tick_3 : decode cX8_tick 3 = .ok (.aload_n 0, 1) := by decide +kernel
theorem dX8_tick_4 : decode cX8_tick 4 = .ok (.aload_n 1, 1) := by decide +kernel
theorem dX8_tick_5 : decode cX8_tick 5 = .ok (.aload_n 2, 1) := by decide +kernel
theorem dX8_tick_6 : decode cX8_tick 6 = .ok (.getfield 70, 3) := by decide +kernel
theorem dX8_tick_9 : decode cX8_tick 9 = .ok (.iconst 1, 1) := by decide +kernel
theorem dX8_tick_10 : decode cX8_tick 10 = .ok (.iadd, 1) := by decide +kernel
theorem dX8_tick_11 : decode cX8_tick 11 = .ok (.aload_n 2, 1) := by decide +kernel
theorem dX8_tick_12 : decode cX8_tick 12 = .ok (.getfield 75, 3) := by decide +kernel
theorem dX8_tick_15 : decode cX8_tick 15 = .ok (.invokevirtual 78, 3) := by decide +kernel
theorem dX8_tick_18 : decode cX8_tick 18 = .ok (.invokevirtual 82, 3) := by decide +kernel
theorem dX8_tick_21 : decode cX8_tick 21 = .ok (.ireturn, 1) := by decide +kernel
theorem dX8_tickAt_0 : decode cX8_tickAt 0 = .ok (.aload_n 2, 1) := by decide +kernel
theorem dX8_tickAt_1 : decode cX8_tickAt 1 = .ok (.dup, 1) := by decide +kernel
theorem dX8_tickAt_2 : decode cX8_tickAt 2 = .ok (.getfield 70, 3) := by decide +kernel
theorem dX8_tickAt_5 : decode cX8_tickAt 5 = .ok (.iconst 1, 1) := by decide +kernel
theorem dX8_tickAt_6 : decode cX8_tickAt 6 = .ok (.iadd, 1) := by decide +kernel
theorem dX8_tickAt_7 : decode cX8_tickAt 7 = .ok (.putfield 70, 3) := by decide +kernel
theorem dX8_tickAt_10 : decode cX8_tickAt 10 = .ok (.aload_n 1, 1) := by decide +kernel
theorem dX8_tickAt_11 : decode cX8_tickAt 11 = .ok (.aload_n 2, 1) := by decide +kernel
theorem dX8_tickAt_12 : decode cX8_tickAt 12 = .ok (.getfield 86, 3) := by decide +kernel
theorem dX8_tickAt_15 : decode cX8_tickAt 15 = .ok (.iload_n 3, 1) := by decide +kernel
theorem dX8_tickAt_16 : decode cX8_tickAt 16 = .ok (.invokestatic 89, 3) := by decide +kernel
theorem dX8_tickAt_19 : decode cX8_tickAt 19 = .ok (.istore 4, 2) := by decide +kernel
theorem dX8_tickAt_21 : decode cX8_tickAt 21 = .ok (.aload_n 2, 1) := by decide +kernel
theorem dX8_tickAt_22 : decode cX8_tickAt 22 = .ok (.iload 4, 2) := by decide +kernel
theorem dX8_tickAt_24 : decode cX8_tickAt 24 = .ok (.invokevirtual 93, 3) := by decide +kernel
theorem dX8_tickAt_27 : decode cX8_tickAt 27 = .ok (.iload 4, 2) := by decide +kernel
theorem dX8_tickAt_29 : decode cX8_tickAt 29 = .ok (.ifCond .eq 23, 3) := by decide +kernel
theorem dX8_tickAt_32 : decode cX8_tickAt 32 = .ok (.aload_n 1, 1) := by decide +kernel
theorem dX8_tickAt_33 : decode cX8_tickAt 33 = .ok (.getfield 97, 3) := by decide +kernel
theorem dX8_tickAt_36 : decode cX8_tickAt 36 = .ok (.aload_n 1, 1) := by decide +kernel
theorem dX8_tickAt_37 : decode cX8_tickAt 37 = .ok (.getfield 100, 3) := by decide +kernel
theorem dX8_tickAt_40 : decode cX8_tickAt 40 = .ok (.if_icmp .ge 12, 3) := by decide +kernel
theorem dX8_tickAt_43 : decode cX8_tickAt 43 = .ok (.aload_n 0, 1) := by decide +kernel
theorem dX8_tickAt_44 : decode cX8_tickAt 44 = .ok (.aload_n 1, 1) := by decide +kernel
theorem dX8_tickAt_45 : decode cX8_tickAt 45 = .ok (.aload_n 2, 1) := by decide +kernel
theorem dX8_tickAt_46 : decode cX8_tickAt 46 = .ok (.iload_n 3, 1) := by decide +kernel
theorem dX8_tickAt_47 : decode cX8_tickAt 47 = .ok (.iload 4, 2) := by decide +kernel
theorem dX8_tickAt_49 : decode cX8_tickAt 49 = .ok (.invokevirtual 103, 3) := by decide +kernel
theorem dX8_tickAt_52 : decode cX8_tickAt 52 = .ok (.iload 4, 2) := by decide +kernel
theorem dX8_tickAt_54 : decode cX8_tickAt 54 = .ok (.ireturn, 1) := by decide +kernel
theorem dX8_wash_0 : decode cX8_wash 0 = .ok (.aload_n 1, 1) := by decide +kernel
theorem dX8_wash_1 : decode cX8_wash 1 = .ok (.getfield 60, 3) := by decide +kernel
theorem dX8_wash_4 : decode cX8_wash 4 = .ok (.iconst 1, 1) := by decide +kernel
theorem dX8_wash_5 : decode cX8_wash 5 = .ok (.if_icmp .ge 4, 3) := by decide +kernel
theorem dX8_wash_8 : decode cX8_wash 8 = .ok (.return_, 1) := by decide +kernel
theorem dX8_wash_9 : decode cX8_wash 9 = .ok (.aload_n 0, 1) := by decide +kernel
theorem dX8_wash_10 : decode cX8_wash 10 = .ok (.getfield 12, 3) := by decide +kernel
theorem dX8_wash_13 : decode cX8_wash 13 = .ok (.getfield 40, 3) := by decide +kernel
theorem dX8_wash_16 : decode cX8_wash 16 = .ok (.astore 5, 2) := by decide +kernel
theorem dX8_wash_18 : decode cX8_wash 18 = .ok (.aload 5, 2) := by decide +kernel
theorem dX8_wash_20 : decode cX8_wash 20 = .ok (.iconst 0, 1) := by decide +kernel
theorem dX8_wash_21 : decode cX8_wash 21 = .ok (.aload_n 2, 1) := by decide +kernel
theorem dX8_wash_22 : decode cX8_wash 22 = .ok (.getfield 70, 3) := by decide +kernel
theorem dX8_wash_25 : decode cX8_wash 25 = .ok (.iastore, 1) := by decide +kernel
theorem dX8_wash_26 : decode cX8_wash 26 = .ok (.aload 5, 2) := by decide +kernel
theorem dX8_wash_28 : decode cX8_wash 28 = .ok (.iconst 1, 1) := by decide +kernel
theorem dX8_wash_29 : decode cX8_wash 29 = .ok (.aload_n 2, 1) := by decide +kernel
theorem dX8_wash_30 : decode cX8_wash 30 = .ok (.getfield 75, 3) := by decide +kernel
theorem dX8_wash_33 : decode cX8_wash 33 = .ok (.iastore, 1) := by decide +kernel
theorem dX8_wash_34 : decode cX8_wash 34 = .ok (.aload 5, 2) := by decide +kernel
theorem dX8_wash_36 : decode cX8_wash 36 = .ok (.iconst 4, 1) := by decide +kernel
theorem dX8_wash_37 : decode cX8_wash 37 = .ok (.iload_n 3, 1) := by decide +kernel
theorem dX8_wash_38 : decode cX8_wash 38 = .ok (.iastore, 1) := by decide +kernel
theorem dX8_wash_39 : decode cX8_wash 39 = .ok (.iconst 0, 1) := by decide +kernel
theorem dX8_wash_40 : decode cX8_wash 40 = .ok (.istore 6, 2) := by decide +kernel
theorem dX8_wash_42 : decode cX8_wash 42 = .ok (.iload 6, 2) := by decide +kernel
theorem dX8_wash_44 : decode cX8_wash 44 = .ok (.bipush 25, 2) := by decide +kernel
theorem dX8_wash_46 : decode cX8_wash 46 = .ok (.if_icmp .ge 112, 3) := by decide +kernel
theorem dX8_wash_49 : decode cX8_wash 49 = .ok (.aload_n 0, 1) := by decide +kernel
theorem dX8_wash_50 : decode cX8_wash 50 = .ok (.getfield 18, 3) := by decide +kernel
theorem dX8_wash_53 : decode cX8_wash 53 = .ok (.iload 6, 2) := by decide +kernel
theorem dX8_wash_55 : decode cX8_wash 55 = .ok (.aload_n 2, 1) := by decide +kernel
theorem dX8_wash_56 : decode cX8_wash 56 = .ok (.getfield 86, 3) := by decide +kernel
theorem dX8_wash_59 : decode cX8_wash 59 = .ok (.iload 6, 2) := by decide +kernel
theorem dX8_wash_61 : decode cX8_wash 61 = .ok (.iaload, 1) := by decide +kernel
theorem dX8_wash_62 : decode cX8_wash 62 = .ok (.iastore, 1) := by decide +kernel
theorem dX8_wash_63 : decode cX8_wash 63 = .ok (.iload 4, 2) := by decide +kernel
theorem dX8_wash_65 : decode cX8_wash 65 = .ok (.iload 6, 2) := by decide +kernel
theorem dX8_wash_67 : decode cX8_wash 67 = .ok (.ishr, 1) := by decide +kernel
theorem dX8_wash_68 : decode cX8_wash 68 = .ok (.iconst 1, 1) := by decide +kernel
theorem dX8_wash_69 : decode cX8_wash 69 = .ok (.iand, 1) := by decide +kernel
theorem dX8_wash_70 : decode cX8_wash 70 = .ok (.ifCond .eq 82, 3) := by decide +kernel
theorem dX8_wash_73 : decode cX8_wash 73 = .ok (.aload 5, 2) := by decide +kernel
theorem dX8_wash_75 : decode cX8_wash 75 = .ok (.iconst 2, 1) := by decide +kernel
theorem dX8_wash_76 : decode cX8_wash 76 = .ok (.iload 6, 2) := by decide +kernel
theorem dX8_wash_78 : decode cX8_wash 78 = .ok (.aload_n 1, 1) := by decide +kernel
theorem dX8_wash_79 : decode cX8_wash 79 = .ok (.getfield 60, 3) := by decide +kernel
theorem dX8_wash_82 : decode cX8_wash 82 = .ok (.idiv, 1) := by decide +kernel
theorem dX8_wash_83 : decode cX8_wash 83 = .ok (.iastore, 1) := by decide +kernel
theorem dX8_wash_84 : decode cX8_wash 84 = .ok (.aload 5, 2) := by decide +kernel
theorem dX8_wash_86 : decode cX8_wash 86 = .ok (.iconst 3, 1) := by decide +kernel
theorem dX8_wash_87 : decode cX8_wash 87 = .ok (.aload_n 2, 1) := by decide +kernel
theorem dX8_wash_88 : decode cX8_wash 88 = .ok (.getfield 86, 3) := by decide +kernel
theorem dX8_wash_91 : decode cX8_wash 91 = .ok (.iload 6, 2) := by decide +kernel
theorem dX8_wash_93 : decode cX8_wash 93 = .ok (.iaload, 1) := by decide +kernel
theorem dX8_wash_94 : decode cX8_wash 94 = .ok (.iastore, 1) := by decide +kernel
theorem dX8_wash_95 : decode cX8_wash 95 = .ok (.aload 5, 2) := by decide +kernel
theorem dX8_wash_97 : decode cX8_wash 97 = .ok (.iconst 5, 1) := by decide +kernel
theorem dX8_wash_98 : decode cX8_wash 98 = .ok (.aload_n 1, 1) := by decide +kernel
theorem dX8_wash_99 : decode cX8_wash 99 = .ok (.iconst 1, 1) := by decide +kernel
theorem dX8_wash_100 : decode cX8_wash 100 = .ok (.iload 6, 2) := by decide +kernel
theorem dX8_wash_102 : decode cX8_wash 102 = .ok (.ishl, 1) := by decide +kernel
theorem dX8_wash_103 : decode cX8_wash 103 = .ok (.invokestatic 63, 3) := by decide +kernel
theorem dX8_wash_106 : decode cX8_wash 106 = .ok (.iload 4, 2) := by decide +kernel
theorem dX8_wash_108 : decode cX8_wash 108 = .ok (.iand, 1) := by decide +kernel
theorem dX8_wash_109 : decode cX8_wash 109 = .ok (.invokestatic 107, 3) := by decide +kernel
theorem dX8_wash_112 : decode cX8_wash 112 = .ok (.iastore, 1) := by decide +kernel
theorem dX8_wash_113 : decode cX8_wash 113 = .ok (.aload_n 0, 1) := by decide +kernel
theorem dX8_wash_114 : decode cX8_wash 114 = .ok (.getfield 12, 3) := by decide +kernel
theorem dX8_wash_117 : decode cX8_wash 117 = .ok (.aload_n 1, 1) := by decide +kernel
theorem dX8_wash_118 : decode cX8_wash 118 = .ok (.getfield 43, 3) := by decide +kernel
theorem dX8_wash_121 : decode cX8_wash 121 = .ok (.aload_n 1, 1) := by decide +kernel
theorem dX8_wash_122 : decode cX8_wash 122 = .ok (.getfield 97, 3) := by decide +kernel
theorem dX8_wash_125 : decode cX8_wash 125 = .ok (.aload_n 1, 1) := by decide +kernel
theorem dX8_wash_126 : decode cX8_wash 126 = .ok (.getfield 100, 3) := by decide +kernel
theorem dX8_wash_129 : decode cX8_wash 129 = .ok (.invokevirtual 46, 3) := by decide +kernel
theorem dX8_wash_132 : decode cX8_wash 132 = .ok (.istore 7, 2) := by decide +kernel
theorem dX8_wash_134 : decode cX8_wash 134 = .ok (.aload_n 0, 1) := by decide +kernel
theorem dX8_wash_135 : decode cX8_wash 135 = .ok (.getfield 18, 3) := by decide +kernel
theorem dX8_wash_138 : decode cX8_wash 138 = .ok (.iload 6, 2) := by decide +kernel
theorem dX8_wash_140 : decode cX8_wash 140 = .ok (.iconst 0, 1) := by decide +kernel
theorem dX8_wash_141 : decode cX8_wash 141 = .ok (.bipush 9, 2) := by decide +kernel
theorem dX8_wash_143 : decode cX8_wash 143 = .ok (.iload 7, 2) := by decide +kernel
theorem dX8_wash_145 : decode cX8_wash 145 = .ok (.invokestatic 50, 3) := by decide +kernel
theorem dX8_wash_148 : decode cX8_wash 148 = .ok (.invokestatic 53, 3) := by decide +kernel
theorem dX8_wash_151 : decode cX8_wash 151 = .ok (.iastore, 1) := by decide +kernel
theorem dX8_wash_152 : decode cX8_wash 152 = .ok (.iinc 6 1, 3) := by decide +kernel
theorem dX8_wash_155 : decode cX8_wash 155 = .ok (.goto (-113), 3) := by decide +kernel
theorem dX8_wash_158 : decode cX8_wash 158 = .ok (.aload_n 0, 1) := by decide +kernel
theorem dX8_wash_159 : decode cX8_wash 159 = .ok (.getfield 18, 3) := by decide +kernel
theorem dX8_wash_162 : decode cX8_wash 162 = .ok (.iconst 0, 1) := by decide +kernel
theorem dX8_wash_163 : decode cX8_wash 163 = .ok (.aload_n 2, 1) := by decide +kernel
theorem dX8_wash_164 : decode cX8_wash 164 = .ok (.getfield 86, 3) := by decide +kernel
theorem dX8_wash_167 : decode cX8_wash 167 = .ok (.iconst 0, 1) := by decide +kernel
theorem dX8_wash_168 : decode cX8_wash 168 = .ok (.bipush 25, 2) := by decide +kernel
theorem dX8_wash_170 : decode cX8_wash 170 = .ok (.invokestatic 113, 3) := by decide +kernel
theorem dX8_wash_173 : decode cX8_wash 173 = .ok (.return_, 1) := by decide +kernel
theorem dX8_attempt_0 : decode cX8_attempt 0 = .ok (.lload_n 3, 1) := by decide +kernel
theorem dX8_attempt_1 : decode cX8_attempt 1 = .ok (.lconst 0, 1) := by decide +kernel
theorem dX8_attempt_2 : decode cX8_attempt 2 = .ok (.lcmp, 1) := by decide +kernel
theorem dX8_attempt_3 : decode cX8_attempt 3 = .ok (.ifCond .ne 12, 3) := by decide +kernel
theorem dX8_attempt_6 : decode cX8_attempt 6 = .ok (.aload_n 0, 1) := by decide +kernel
theorem dX8_attempt_7 : decode cX8_attempt 7 = .ok (.aload_n 1, 1) := by decide +kernel
theorem dX8_attempt_8 : decode cX8_attempt 8 = .ok (.aload_n 2, 1) := by decide +kernel
theorem dX8_attempt_9 : decode cX8_attempt 9 = .ok (.invokevirtual 119, 3) := by decide +kernel
theorem dX8_attempt_12 : decode cX8_attempt 12 = .ok (.pop, 1) := by decide +kernel
theorem dX8_attempt_13 : decode cX8_attempt 13 = .ok (.iconst 0, 1) := by decide +kernel
theorem dX8_attempt_14 : decode cX8_attempt 14 = .ok (.ireturn, 1) := by decide +kernel
theorem dX8_attempt_15 : decode cX8_attempt 15 = .ok (.lload_n 3, 1) := by decide +kernel
theorem dX8_attempt_16 : decode cX8_attempt 16 = .ok (.ldc2_w 123, 3) := by decide +kernel
theorem dX8_attempt_19 : decode cX8_attempt 19 = .ok (.lcmp, 1) := by decide +kernel
theorem dX8_attempt_20 : decode cX8_attempt 20 = .ok (.ifCond .lt 11, 3) := by decide +kernel
theorem dX8_attempt_23 : decode cX8_attempt 23 = .ok (.lload_n 3, 1) := by decide +kernel
theorem dX8_attempt_24 : decode cX8_attempt 24 = .ok (.ldc2_w 125, 3) := by decide +kernel
theorem dX8_attempt_27 : decode cX8_attempt 27 = .ok (.lcmp, 1) := by decide +kernel
theorem dX8_attempt_28 : decode cX8_attempt 28 = .ok (.ifCond .lt 5, 3) := by decide +kernel
theorem dX8_attempt_31 : decode cX8_attempt 31 = .ok (.iconst 1, 1) := by decide +kernel
theorem dX8_attempt_32 : decode cX8_attempt 32 = .ok (.ireturn, 1) := by decide +kernel
theorem dX8_attempt_33 : decode cX8_attempt 33 = .ok (.lload_n 3, 1) := by decide +kernel
theorem dX8_attempt_34 : decode cX8_attempt 34 = .ok (.l2i, 1) := by decide +kernel
theorem dX8_attempt_35 : decode cX8_attempt 35 = .ok (.istore 5, 2) := by decide +kernel
theorem dX8_attempt_37 : decode cX8_attempt 37 = .ok (.iload 5, 2) := by decide +kernel
theorem dX8_attempt_39 : decode cX8_attempt 39 = .ok (.bipush 20, 2) := by decide +kernel
theorem dX8_attempt_41 : decode cX8_attempt 41 = .ok (.if_icmp .ge 13, 3) := by decide +kernel
theorem dX8_attempt_44 : decode cX8_attempt 44 = .ok (.aload_n 2, 1) := by decide +kernel
theorem dX8_attempt_45 : decode cX8_attempt 45 = .ok (.iload 5, 2) := by decide +kernel
theorem dX8_attempt_47 : decode cX8_attempt 47 = .ok (.bipush 10, 2) := by decide +kernel
theorem dX8_attempt_49 : decode cX8_attempt 49 = .ok (.isub, 1) := by decide +kernel
theorem dX8_attempt_50 : decode cX8_attempt 50 = .ok (.invokevirtual 127, 3) := by decide +kernel
theorem dX8_attempt_53 : decode cX8_attempt 53 = .ok (.ireturn, 1) := by decide +kernel
theorem dX8_attempt_54 : decode cX8_attempt 54 = .ok (.iload 5, 2) := by decide +kernel
theorem dX8_attempt_56 : decode cX8_attempt 56 = .ok (.sipush 1000, 3) := by decide +kernel
theorem dX8_attempt_59 : decode cX8_attempt 59 = .ok (.if_icmp .lt 26, 3) := by decide +kernel
theorem dX8_attempt_62 : decode cX8_attempt 62 = .ok (.aload_n 2, 1) := by decide +kernel
theorem dX8_attempt_63 : decode cX8_attempt 63 = .ok (.iload 5, 2) := by decide +kernel
theorem dX8_attempt_65 : decode cX8_attempt 65 = .ok (.sipush 1000, 3) := by decide +kernel
theorem dX8_attempt_68 : decode cX8_attempt 68 = .ok (.isub, 1) := by decide +kernel
theorem dX8_attempt_69 : decode cX8_attempt 69 = .ok (.bipush 10, 2) := by decide +kernel
theorem dX8_attempt_71 : decode cX8_attempt 71 = .ok (.idiv, 1) := by decide +kernel
theorem dX8_attempt_72 : decode cX8_attempt 72 = .ok (.iload 5, 2) := by decide +kernel
theorem dX8_attempt_74 : decode cX8_attempt 74 = .ok (.bipush 10, 2) := by decide +kernel
theorem dX8_attempt_76 : decode cX8_attempt 76 = .ok (.irem, 1) := by decide +kernel
theorem dX8_attempt_77 : decode cX8_attempt 77 = .ok (.aload_n 1, 1) := by decide +kernel
theorem dX8_attempt_78 : decode cX8_attempt 78 = .ok (.invokevirtual 56, 3) := by decide +kernel
theorem dX8_attempt_81 : decode cX8_attempt 81 = .ok (.invokevirtual 130, 3) := by decide +kernel
theorem dX8_attempt_84 : decode cX8_attempt 84 = .ok (.ireturn, 1) := by decide +kernel
theorem dX8_attempt_85 : decode cX8_attempt 85 = .ok (.iload 5, 2) := by decide +kernel
theorem dX8_attempt_87 : decode cX8_attempt 87 = .ok (.bipush 100, 2) := by decide +kernel
theorem dX8_attempt_89 : decode cX8_attempt 89 = .ok (.if_icmp .lt 25, 3) := by decide +kernel
theorem dX8_attempt_92 : decode cX8_attempt 92 = .ok (.iload 5, 2) := by decide +kernel
theorem dX8_attempt_94 : decode cX8_attempt 94 = .ok (.sipush 200, 3) := by decide +kernel
theorem dX8_attempt_97 : decode cX8_attempt 97 = .ok (.if_icmp .ge 17, 3) := by decide +kernel
theorem dX8_attempt_100 : decode cX8_attempt 100 = .ok (.aload_n 2, 1) := by decide +kernel
theorem dX8_attempt_101 : decode cX8_attempt 101 = .ok (.iload 5, 2) := by decide +kernel
theorem dX8_attempt_103 : decode cX8_attempt 103 = .ok (.bipush 100, 2) := by decide +kernel
theorem dX8_attempt_105 : decode cX8_attempt 105 = .ok (.isub, 1) := by decide +kernel
theorem dX8_attempt_106 : decode cX8_attempt 106 = .ok (.aload_n 1, 1) := by decide +kernel
theorem dX8_attempt_107 : decode cX8_attempt 107 = .ok (.invokevirtual 56, 3) := by decide +kernel
theorem dX8_attempt_110 : decode cX8_attempt 110 = .ok (.invokevirtual 134, 3) := by decide +kernel
theorem dX8_attempt_113 : decode cX8_attempt 113 = .ok (.ireturn, 1) := by decide +kernel
theorem dX8_attempt_114 : decode cX8_attempt 114 = .ok (.iload 5, 2) := by decide +kernel
theorem dX8_attempt_116 : decode cX8_attempt 116 = .ok (.sipush 200, 3) := by decide +kernel
theorem dX8_attempt_119 : decode cX8_attempt 119 = .ok (.if_icmp .lt 28, 3) := by decide +kernel
theorem dX8_attempt_122 : decode cX8_attempt 122 = .ok (.iload 5, 2) := by decide +kernel
theorem dX8_attempt_124 : decode cX8_attempt 124 = .ok (.sipush 300, 3) := by decide +kernel
theorem dX8_attempt_127 : decode cX8_attempt 127 = .ok (.if_icmp .ge 20, 3) := by decide +kernel
theorem dX8_attempt_130 : decode cX8_attempt 130 = .ok (.aload_n 2, 1) := by decide +kernel
theorem dX8_attempt_131 : decode cX8_attempt 131 = .ok (.iload 5, 2) := by decide +kernel
theorem dX8_attempt_133 : decode cX8_attempt 133 = .ok (.sipush 200, 3) := by decide +kernel
theorem dX8_attempt_136 : decode cX8_attempt 136 = .ok (.isub, 1) := by decide +kernel
theorem dX8_attempt_137 : decode cX8_attempt 137 = .ok (.aload_n 1, 1) := by decide +kernel
theorem dX8_attempt_138 : decode cX8_attempt 138 = .ok (.invokevirtual 56, 3) := by decide +kernel
theorem dX8_attempt_141 : decode cX8_attempt 141 = .ok (.invokevirtual 137, 3) := by decide +kernel
theorem dX8_attempt_144 : decode cX8_attempt 144 = .ok (.goto 4, 3) := by decide +kernel
theorem dX8_attempt_147 : decode cX8_attempt 147 = .ok (.iconst 1, 1) := by decide +kernel
theorem dX8_attempt_148 : decode cX8_attempt 148 = .ok (.ireturn, 1) := by decide +kernel
theorem dX8_mostAlike_0 : decode cX8_mostAlike 0 = .ok (.aload_n 0, 1) := by decide +kernel
theorem dX8_mostAlike_1 : decode cX8_mostAlike 1 = .ok (.getfield 22, 3) := by decide +kernel
theorem dX8_mostAlike_4 : decode cX8_mostAlike 4 = .ok (.iconst 0, 1) := by decide +kernel
theorem dX8_mostAlike_5 : decode cX8_mostAlike 5 = .ok (.invokestatic 140, 3) := by decide +kernel
theorem dX8_mostAlike_8 : decode cX8_mostAlike 8 = .ok (.iconst 0, 1) := by decide +kernel
theorem dX8_mostAlike_9 : decode cX8_mostAlike 9 = .ok (.istore 4, 2) := by decide +kernel
theorem dX8_mostAlike_11 : decode cX8_mostAlike 11 = .ok (.iconst 0, 1) := by decide +kernel
theorem dX8_mostAlike_12 : decode cX8_mostAlike 12 = .ok (.istore 5, 2) := by decide +kernel
theorem dX8_mostAlike_14 : decode cX8_mostAlike 14 = .ok (.iload 5, 2) := by decide +kernel
theorem dX8_mostAlike_16 : decode cX8_mostAlike 16 = .ok (.bipush 10, 2) := by decide +kernel
theorem dX8_mostAlike_18 : decode cX8_mostAlike 18 = .ok (.if_icmp .ge 53, 3) := by decide +kernel
theorem dX8_mostAlike_21 : decode cX8_mostAlike 21 = .ok (.iload_n 3, 1) := by decide +kernel
theorem dX8_mostAlike_22 : decode cX8_mostAlike 22 = .ok (.iload 5, 2) := by decide +kernel
theorem dX8_mostAlike_24 : decode cX8_mostAlike 24 = .ok (.ishr, 1) := by decide +kernel
theorem dX8_mostAlike_25 : decode cX8_mostAlike 25 = .ok (.iconst 1, 1) := by decide +kernel
theorem dX8_mostAlike_26 : decode cX8_mostAlike 26 = .ok (.iand, 1) := by decide +kernel
theorem dX8_mostAlike_27 : decode cX8_mostAlike 27 = .ok (.ifCond .eq 38, 3) := by decide +kernel
theorem dX8_mostAlike_30 : decode cX8_mostAlike 30 = .ok (.aload_n 0, 1) := by decide +kernel
theorem dX8_mostAlike_31 : decode cX8_mostAlike 31 = .ok (.aload_n 1, 1) := by decide +kernel
theorem dX8_mostAlike_32 : decode cX8_mostAlike 32 = .ok (.iload_n 2, 1) := by decide +kernel
theorem dX8_mostAlike_33 : decode cX8_mostAlike 33 = .ok (.iload 5, 2) := by decide +kernel
theorem dX8_mostAlike_35 : decode cX8_mostAlike 35 = .ok (.invokevirtual 78, 3) := by decide +kernel
theorem dX8_mostAlike_38 : decode cX8_mostAlike 38 = .ok (.istore 6, 2) := by decide +kernel
theorem dX8_mostAlike_40 : decode cX8_mostAlike 40 = .ok (.aload_n 0, 1) := by decide +kernel
theorem dX8_mostAlike_41 : decode cX8_mostAlike 41 = .ok (.getfield 22, 3) := by decide +kernel
theorem dX8_mostAlike_44 : decode cX8_mostAlike 44 = .ok (.iload 6, 2) := by decide +kernel
theorem dX8_mostAlike_46 : decode cX8_mostAlike 46 = .ok (.dup2, 1) := by decide +kernel
theorem dX8_mostAlike_47 : decode cX8_mostAlike 47 = .ok (.iaload, 1) := by decide +kernel
theorem dX8_mostAlike_48 : decode cX8_mostAlike 48 = .ok (.iconst 1, 1) := by decide +kernel
theorem dX8_mostAlike_49 : decode cX8_mostAlike 49 = .ok (.iadd, 1) := by decide +kernel
theorem dX8_mostAlike_50 : decode cX8_mostAlike 50 = .ok (.iastore, 1) := by decide +kernel
theorem dX8_mostAlike_51 : decode cX8_mostAlike 51 = .ok (.iload 4, 2) := by decide +kernel
theorem dX8_mostAlike_53 : decode cX8_mostAlike 53 = .ok (.aload_n 0, 1) := by decide +kernel
theorem dX8_mostAlike_54 : decode cX8_mostAlike 54 = .ok (.getfield 22, 3) := by decide +kernel
theorem dX8_mostAlike_57 : decode cX8_mostAlike 57 = .ok (.iload 6, 2) := by decide +kernel
theorem dX8_mostAlike_59 : decode cX8_mostAlike 59 = .ok (.iaload, 1) := by decide +kernel
theorem dX8_mostAlike_60 : decode cX8_mostAlike 60 = .ok (.invokestatic 53, 3) := by decide +kernel
theorem dX8_mostAlike_63 : decode cX8_mostAlike 63 = .ok (.istore 4, 2) := by decide +kernel
theorem dX8_mostAlike_65 : decode cX8_mostAlike 65 = .ok (.iinc 5 1, 3) := by decide +kernel
theorem dX8_mostAlike_68 : decode cX8_mostAlike 68 = .ok (.goto (-54), 3) := by decide +kernel
theorem dX8_mostAlike_71 : decode cX8_mostAlike 71 = .ok (.iload 4, 2) := by decide +kernel
theorem dX8_mostAlike_73 : decode cX8_mostAlike 73 = .ok (.ireturn, 1) := by decide +kernel
theorem dX9_init_0 : decode cX9_init 0 = .ok (.aload_n 0, 1) := by decide +kernel
theorem dX9_init_1 : decode cX9_init 1 = .ok (.invokespecial 3, 3) := by decide +kernel
theorem dX9_init_4 : decode cX9_init 4 = .ok (.aload_n 0, 1) := by decide +kernel
theorem dX9_init_5 : decode cX9_init 5 = .ok (.bipush 6, 2) := by decide +kernel
theorem dX9_init_7 : decode cX9_init 7 = .ok (.newarray .int, 2) := by decide +kernel
theorem dX9_init_9 : decode cX9_init 9 = .ok (.putfield 9, 3) := by decide +kernel
theorem dX9_init_12 : decode cX9_init 12 = .ok (.return_, 1) := by decide +kernel
theorem dX9_paint_0 : decode cX9_paint 0 = .ok (.iconst 0, 1) := by decide +kernel
theorem dX9_paint_1 : decode cX9_paint 1 = .ok (.istore_n 2, 1) := by decide +kernel
theorem dX9_paint_2 : decode cX9_paint 2 = .ok (.iload_n 2, 1) := by decide +kernel
theorem dX9_paint_3 : decode cX9_paint 3 = .ok (.aload_n 1, 1) := by decide +kernel
theorem dX9_paint_4 : decode cX9_paint 4 = .ok (.getfield 15, 3) := by decide +kernel
theorem dX9_paint_7 : decode cX9_paint 7 = .ok (.if_icmp .ge 21, 3) := by decide +kernel
theorem dX9_paint_10 : decode cX9_paint 10 = .ok (.aload_n 0, 1) := by decide +kernel
theorem dX9_paint_11 : decode cX9_paint 11 = .ok (.aload_n 1, 1) := by decide +kernel
theorem dX9_paint_12 : decode cX9_paint 12 = .ok (.iconst 0, 1) := by decide +kernel
theorem dX9_paint_13 : decode cX9_paint 13 = .ok (.iload_n 2, 1) := by decide +kernel
theorem dX9_paint_14 : decode cX9_paint 14 = .ok (.invokevirtual 21, 3) := by decide +kernel
theorem dX9_paint_17 : decode cX9_paint 17 = .ok (.ifCond .eq 5, 3) := by decide +kernel
theorem dX9_paint_20 : decode cX9_paint 20 = .ok (.iload_n 2, 1) := by decide +kernel
theorem dX9_paint_21 : decode cX9_paint 21 = .ok (.ireturn, 1) := by decide +kernel
theorem dX9_paint_22 : decode cX9_paint 22 = .ok (.iinc 2 1, 3) := by decide +kernel
theorem dX9_paint_25 : decode cX9_paint 25 = .ok (.goto (-23), 3) := by decide +kernel
theorem dX9_paint_28 : decode cX9_paint 28 = .ok (.aload_n 0, 1) := by decide +kernel
theorem dX9_paint_29 : decode cX9_paint 29 = .ok (.aload_n 1, 1) := by decide +kernel
theorem dX9_paint_30 : decode cX9_paint 30 = .ok (.iconst 0, 1) := by decide +kernel
theorem dX9_paint_31 : decode cX9_paint 31 = .ok (.aload_n 1, 1) := by decide +kernel
theorem dX9_paint_32 : decode cX9_paint 32 = .ok (.getfield 15, 3) := by decide +kernel
theorem dX9_paint_35 : decode cX9_paint 35 = .ok (.invokevirtual 21, 3) := by decide +kernel
theorem dX9_paint_38 : decode cX9_paint 38 = .ok (.pop, 1) := by decide +kernel
theorem dX9_paint_39 : decode cX9_paint 39 = .ok (.aload_n 1, 1) := by decide +kernel
theorem dX9_paint_40 : decode cX9_paint 40 = .ok (.getfield 15, 3) := by decide +kernel
theorem dX9_paint_43 : decode cX9_paint 43 = .ok (.ireturn, 1) := by decide +kernel
theorem dX9_fits_0 : decode cX9_fits 0 = .ok (.iload_n 2, 1) := by decide +kernel
theorem dX9_fits_1 : decode cX9_fits 1 = .ok (.aload_n 1, 1) := by decide +kernel
theorem dX9_fits_2 : decode cX9_fits 2 = .ok (.getfield 15, 3) := by decide +kernel
theorem dX9_fits_5 : decode cX9_fits 5 = .ok (.if_icmp .ge 9, 3) := by decide +kernel
theorem dX9_fits_8 : decode cX9_fits 8 = .ok (.iload_n 2, 1) := by decide +kernel
theorem dX9_fits_9 : decode cX9_fits 9 = .ok (.bipush 6, 2) := by decide +kernel
theorem dX9_fits_11 : decode cX9_fits 11 = .ok (.if_icmp .lt 5, 3) := by decide +kernel
theorem dX9_fits_14 : decode cX9_fits 14 = .ok (.iconst 1, 1) := by decide +kernel
theorem dX9_fits_15 : decode cX9_fits 15 = .ok (.ireturn, 1) := by decide +kernel
theorem dX9_fits_16 : decode cX9_fits 16 = .ok (.iconst 0, 1) := by decide +kernel
theorem dX9_fits_17 : decode cX9_fits 17 = .ok (.istore 4, 2) := by decide +kernel
theorem dX9_fits_19 : decode cX9_fits 19 = .ok (.iload 4, 2) := by decide +kernel
theorem dX9_fits_21 : decode cX9_fits 21 = .ok (.iload_n 3, 1) := by decide +kernel
theorem dX9_fits_22 : decode cX9_fits 22 = .ok (.if_icmp .ge 40, 3) := by decide +kernel
theorem dX9_fits_25 : decode cX9_fits 25 = .ok (.aload_n 0, 1) := by decide +kernel
theorem dX9_fits_26 : decode cX9_fits 26 = .ok (.getfield 9, 3) := by decide +kernel
theorem dX9_fits_29 : decode cX9_fits 29 = .ok (.iload_n 2, 1) := by decide +kernel
theorem dX9_fits_30 : decode cX9_fits 30 = .ok (.iload 4, 2) := by decide +kernel
theorem dX9_fits_32 : decode cX9_fits 32 = .ok (.iastore, 1) := by decide +kernel
theorem dX9_fits_33 : decode cX9_fits 33 = .ok (.aload_n 0, 1) := by decide +kernel
theorem dX9_fits_34 : decode cX9_fits 34 = .ok (.aload_n 1, 1) := by decide +kernel
theorem dX9_fits_35 : decode cX9_fits 35 = .ok (.iload_n 2, 1) := by decide +kernel
theorem dX9_fits_36 : decode cX9_fits 36 = .ok (.invokevirtual 25, 3) := by decide +kernel
theorem dX9_fits_39 : decode cX9_fits 39 = .ok (.ifCond .eq 17, 3) := by decide +kernel
theorem dX9_fits_42 : decode cX9_fits 42 = .ok (.aload_n 0, 1) := by decide +kernel
theorem dX9_fits_43 : decode cX9_fits 43 = .ok (.aload_n 1, 1) := by decide +kernel
theorem dX9_fits_44 : decode cX9_fits 44 = .ok (.iload_n 2, 1) := by decide +kernel
theorem dX9_fits_45 : decode cX9_fits 45 = .ok (.iconst 1, 1) := by decide +kernel
theorem dX9_fits_46 : decode cX9_fits 46 = .ok (.iadd, 1) := by decide +kernel
theorem dX9_fits_47 : decode cX9_fits 47 = .ok (.iload_n 3, 1) := by decide +kernel
theorem dX9_fits_48 : decode cX9_fits 48 = .ok (.invokevirtual 21, 3) := by decide +kernel
theorem dX9_fits_51 : decode cX9_fits 51 = .ok (.ifCond .eq 5, 3) := by decide +kernel
theorem dX9_fits_54 : decode cX9_fits 54 = .ok (.iconst 1, 1) := by decide +kernel
theorem dX9_fits_55 : decode cX9_fits 55 = .ok (.ireturn, 1) := by decide +kernel
theorem dX9_fits_56 : decode cX9_fits 56 = .ok (.iinc 4 1, 3) := by decide +kernel
theorem dX9_fits_59 : decode cX9_fits 59 = .ok (.goto (-40), 3) := by decide +kernel
theorem dX9_fits_62 : decode cX9_fits 62 = .ok (.iconst 0, 1) := by decide +kernel
theorem dX9_fits_63 : decode cX9_fits 63 = .ok (.ireturn, 1) := by decide +kernel
theorem dX9_isClear_0 : decode cX9_isClear 0 = .ok (.iconst 0, 1) := by decide +kernel
theorem dX9_isClear_1 : decode cX9_isClear 1 = .ok (.istore_n 3, 1) := by decide +kernel
theorem dX9_isClear_2 : decode cX9_isClear 2 = .ok (.iload_n 3, 1) := by decide +kernel
theorem dX9_isClear_3 : decode cX9_isClear 3 = .ok (.iload_n 2, 1) := by decide +kernel
theorem dX9_isClear_4 : decode cX9_isClear 4 = .ok (.if_icmp .ge 42, 3) := by decide +kernel
theorem dX9_isClear_7 : decode cX9_isClear 7 = .ok (.aload_n 0, 1) := by decide +kernel
theorem dX9_isClear_8 : decode cX9_isClear 8 = .ok (.getfield 9, 3) := by decide +kernel
theorem dX9_isClear_11 : decode cX9_isClear 11 = .ok (.iload_n 3, 1) := by decide +kernel
theorem dX9_isClear_12 : decode cX9_isClear 12 = .ok (.iaload, 1) := by decide +kernel
theorem dX9_isClear_13 : decode cX9_isClear 13 = .ok (.aload_n 0, 1) := by decide +kernel
theorem dX9_isClear_14 : decode cX9_isClear 14 = .ok (.getfield 9, 3) := by decide +kernel
theorem dX9_isClear_17 : decode cX9_isClear 17 = .ok (.iload_n 2, 1) := by decide +kernel
theorem dX9_isClear_18 : decode cX9_isClear 18 = .ok (.iaload, 1) := by decide +kernel
theorem dX9_isClear_19 : decode cX9_isClear 19 = .ok (.if_icmp .ne 21, 3) := by decide +kernel
theorem dX9_isClear_22 : decode cX9_isClear 22 = .ok (.aload_n 1, 1) := by decide +kernel
theorem dX9_isClear_23 : decode cX9_isClear 23 = .ok (.getfield 29, 3) := by decide +kernel
theorem dX9_isClear_26 : decode cX9_isClear 26 = .ok (.iload_n 3, 1) := by decide +kernel
theorem dX9_isClear_27 : decode cX9_isClear 27 = .ok (.iaload, 1) := by decide +kernel
theorem dX9_isClear_28 : decode cX9_isClear 28 = .ok (.aload_n 1, 1) := by decide +kernel
theorem dX9_isClear_29 : decode cX9_isClear 29 = .ok (.getfield 29, 3) := by decide +kernel
theorem dX9_isClear_32 : decode cX9_isClear 32 = .ok (.iload_n 2, 1) := by decide +kernel
theorem dX9_isClear_33 : decode cX9_isClear 33 = .ok (.iaload, 1) := by decide +kernel
theorem dX9_isClear_34 : decode cX9_isClear 34 = .ok (.iand, 1) := by decide +kernel
theorem dX9_isClear_35 : decode cX9_isClear 35 = .ok (.ifCond .eq 5, 3) := by decide +kernel
theorem dX9_isClear_38 : decode cX9_isClear 38 = .ok (.iconst 0, 1) := by decide +kernel
theorem dX9_isClear_39 : decode cX9_isClear 39 = .ok (.ireturn, 1) := by decide +kernel
theorem dX9_isClear_40 : decode cX9_isClear 40 = .ok (.iinc 3 1, 3) := by decide +kernel
theorem dX9_isClear_43 : decode cX9_isClear 43 = .ok (.goto (-41), 3) := by decide +kernel
theorem dX9_isClear_46 : decode cX9_isClear 46 = .ok (.iconst 1, 1) := by decide +kernel
theorem dX9_isClear_47 : decode cX9_isClear 47 = .ok (.ireturn, 1) := by decide +kernel
theorem dX9_greatestClique_0 : decode cX9_greatestClique 0 = .ok (.iconst 0, 1) := by decide +kernel
theorem dX9_greatestClique_1 : decode cX9_greatestClique 1 = .ok (.istore_n 1, 1) := by decide +kernel
theorem dX9_greatestClique_2 : decode cX9_greatestClique 2 = .ok (.iconst 1, 1) := by decide +kernel
theorem dX9_greatestClique_3 : decode cX9_greatestClique 3 = .ok (.istore_n 2, 1) := by decide +kernel
theorem dX9_greatestClique_4 : decode cX9_greatestClique 4 = .ok (.iload_n 2, 1) := by decide +kernel
theorem dX9_greatestClique_5 : decode cX9_greatestClique 5 = .ok (.iconst 1, 1) := by decide +kernel
theorem dX9_greatestClique_6 : decode cX9_greatestClique 6 = .ok (.aload_n 0, 1) := by decide +kernel
theorem dX9_greatestClique_7 : decode cX9_greatestClique 7 = .ok (.getfield 15, 3) := by decide +kernel
theorem dX9_greatestClique_10 : decode cX9_greatestClique 10 = .ok (.ishl, 1) := by decide +kernel
theorem dX9_greatestClique_11 : decode cX9_greatestClique 11 = .ok (.if_icmp .ge 30, 3) := by decide +kernel
theorem dX9_greatestClique_14 : decode cX9_greatestClique 14 = .ok (.iload_n 2, 1) := by decide +kernel
theorem dX9_greatestClique_15 : decode cX9_greatestClique 15 = .ok (.invokestatic 32, 3) := by decide +kernel
theorem dX9_greatestClique_18 : decode cX9_greatestClique 18 = .ok (.iload_n 1, 1) := by decide +kernel
theorem dX9_greatestClique_19 : decode cX9_greatestClique 19 = .ok (.invokestatic 32, 3) := by decide +kernel
theorem dX9_greatestClique_22 : decode cX9_greatestClique 22 = .ok (.if_icmp .le 13, 3) := by decide +kernel
theorem dX9_greatestClique_25 : decode cX9_greatestClique 25 = .ok (.aload_n 0, 1) := by decide +kernel
theorem dX9_greatestClique_26 : decode cX9_greatestClique 26 = .ok (.iload_n 2, 1) := by decide +kernel
theorem dX9_greatestClique_27 : decode cX9_greatestClique 27 = .ok (.invokestatic 38, 3) := by decide +kernel
theorem dX9_greatestClique_30 : decode cX9_greatestClique 30 = .ok (.ifCond .eq 5, 3) := by decide +kernel
theorem dX9_greatestClique_33 : decode cX9_greatestClique 33 = .ok (.iload_n 2, 1) := by decide +kernel
theorem dX9_greatestClique_34 : decode cX9_greatestClique 34 = .ok (.istore_n 1, 1) := by decide +kernel
theorem dX9_greatestClique_35 : decode cX9_greatestClique 35 = .ok (.iinc 2 1, 3) := by decide +kernel
theorem dX9_greatestClique_38 : decode cX9_greatestClique 38 = .ok (.goto (-34), 3) := by decide +kernel
theorem dX9_greatestClique_41 : decode cX9_greatestClique 41 = .ok (.iload_n 1, 1) := by decide +kernel
theorem dX9_greatestClique_42 : decode cX9_greatestClique 42 = .ok (.ireturn, 1) := by decide +kernel
theorem dX9_allOverlap_0 : decode cX9_allOverlap 0 = .ok (.iconst 0, 1) := by decide +kernel
theorem dX9_allOverlap_1 : decode cX9_allOverlap 1 = .ok (.istore_n 2, 1) := by decide +kernel
theorem dX9_allOverlap_2 : decode cX9_allOverlap 2 = .ok (.iload_n 2, 1) := by decide +kernel
theorem dX9_allOverlap_3 : decode cX9_allOverlap 3 = .ok (.aload_n 0, 1) := by decide +kernel
theorem dX9_allOverlap_4 : decode cX9_allOverlap 4 = .ok (.getfield 15, 3) := by decide +kernel
theorem dX9_allOverlap_7 : decode cX9_allOverlap 7 = .ok (.if_icmp .ge 64, 3) := by decide +kernel
theorem dX9_allOverlap_10 : decode cX9_allOverlap 10 = .ok (.iconst 0, 1) := by decide +kernel
theorem dX9_allOverlap_11 : decode cX9_allOverlap 11 = .ok (.istore_n 3, 1) := by decide +kernel
theorem dX9_allOverlap_12 : decode cX9_allOverlap 12 = .ok (.iload_n 3, 1) := by decide +kernel
theorem dX9_allOverlap_13 : decode cX9_allOverlap 13 = .ok (.iload_n 2, 1) := by decide +kernel
theorem dX9_allOverlap_14 : decode cX9_allOverlap 14 = .ok (.if_icmp .ge 51, 3) := by decide +kernel
theorem dX9_allOverlap_17 : decode cX9_allOverlap 17 = .ok (.iload_n 1, 1) := by decide +kernel
theorem dX9_allOverlap_18 : decode cX9_allOverlap 18 = .ok (.iload_n 2, 1) := by decide +kernel
theorem dX9_allOverlap_19 : decode cX9_allOverlap 19 = .ok (.ishr, 1) := by decide +kernel
theorem dX9_allOverlap_20 : decode cX9_allOverlap 20 = .ok (.iload_n 1, 1) := by decide +kernel
theorem dX9_allOverlap_21 : decode cX9_allOverlap 21 = .ok (.iload_n 3, 1) := by decide +kernel
theorem dX9_allOverlap_22 : decode cX9_allOverlap 22 = .ok (.ishr, 1) := by decide +kernel
theorem dX9_allOverlap_23 : decode cX9_allOverlap 23 = .ok (.iand, 1) := by decide +kernel
theorem dX9_allOverlap_24 : decode cX9_allOverlap 24 = .ok (.iconst 1, 1) := by decide +kernel
theorem dX9_allOverlap_25 : decode cX9_allOverlap 25 = .ok (.iand, 1) := by decide +kernel
theorem dX9_allOverlap_26 : decode cX9_allOverlap 26 = .ok (.ifCond .eq 7, 3) := by decide +kernel
theorem dX9_allOverlap_29 : decode cX9_allOverlap 29 = .ok (.iconst 1, 1) := by decide +kernel
theorem dX9_allOverlap_30 : decode cX9_allOverlap 30 = .ok (.goto 4, 3) := by decide +kernel
theorem dX9_allOverlap_33 : decode cX9_allOverlap 33 = .ok (.iconst 0, 1) := by decide +kernel
theorem dX9_allOverlap_34 : decode cX9_allOverlap 34 = .ok (.istore 4, 2) := by decide +kernel
theorem dX9_allOverlap_36 : decode cX9_allOverlap 36 = .ok (.iload 4, 2) := by decide +kernel
theorem dX9_allOverlap_38 : decode cX9_allOverlap 38 = .ok (.ifCond .eq 21, 3) := by decide +kernel
theorem dX9_allOverlap_41 : decode cX9_allOverlap 41 = .ok (.aload_n 0, 1) := by decide +kernel
theorem dX9_allOverlap_42 : decode cX9_allOverlap 42 = .ok (.getfield 29, 3) := by decide +kernel
theorem dX9_allOverlap_45 : decode cX9_allOverlap 45 = .ok (.iload_n 2, 1) := by decide +kernel
theorem dX9_allOverlap_46 : decode cX9_allOverlap 46 = .ok (.iaload, 1) := by decide +kernel
theorem dX9_allOverlap_47 : decode cX9_allOverlap 47 = .ok (.aload_n 0, 1) := by decide +kernel
theorem dX9_allOverlap_48 : decode cX9_allOverlap 48 = .ok (.getfield 29, 3) := by decide +kernel
theorem dX9_allOverlap_51 : decode cX9_allOverlap 51 = .ok (.iload_n 3, 1) := by decide +kernel
theorem dX9_allOverlap_52 : decode cX9_allOverlap 52 = .ok (.iaload, 1) := by decide +kernel
theorem dX9_allOverlap_53 : decode cX9_allOverlap 53 = .ok (.iand, 1) := by decide +kernel
theorem dX9_allOverlap_54 : decode cX9_allOverlap 54 = .ok (.ifCond .ne 5, 3) := by decide +kernel
theorem dX9_allOverlap_57 : decode cX9_allOverlap 57 = .ok (.iconst 0, 1) := by decide +kernel
theorem dX9_allOverlap_58 : decode cX9_allOverlap 58 = .ok (.ireturn, 1) := by decide +kernel
theorem dX9_allOverlap_59 : decode cX9_allOverlap 59 = .ok (.iinc 3 1, 3) := by decide +kernel
theorem dX9_allOverlap_62 : decode cX9_allOverlap 62 = .ok (.goto (-50), 3) := by decide +kernel
theorem dX9_allOverlap_65 : decode cX9_allOverlap 65 = .ok (.iinc 2 1, 3) := by decide +kernel
theorem dX9_allOverlap_68 : decode cX9_allOverlap 68 = .ok (.goto (-66), 3) := by decide +kernel
theorem dX9_allOverlap_71 : decode cX9_allOverlap 71 = .ok (.iconst 1, 1) := by decide +kernel
theorem dX9_allOverlap_72 : decode cX9_allOverlap 72 = .ok (.ireturn, 1) := by decide +kernel
theorem dX10_init_0 : decode cX10_init 0 = .ok (.aload_n 0, 1) := by decide +kernel
theorem dX10_init_1 : decode cX10_init 1 = .ok (.invokespecial 3, 3) := by decide +kernel
theorem dX10_init_4 : decode cX10_init 4 = .ok (.aload_n 0, 1) := by decide +kernel
theorem dX10_init_5 : decode cX10_init 5 = .ok (.iconst (-1), 1) := by decide +kernel
theorem dX10_init_6 : decode cX10_init 6 = .ok (.putfield 9, 3) := by decide +kernel
theorem dX10_init_9 : decode cX10_init 9 = .ok (.aload_n 0, 1) := by decide +kernel
theorem dX10_init_10 : decode cX10_init 10 = .ok (.bipush 40, 2) := by decide +kernel
theorem dX10_init_12 : decode cX10_init 12 = .ok (.newarray .long, 2) := by decide +kernel
theorem dX10_init_14 : decode cX10_init 14 = .ok (.putfield 15, 3) := by decide +kernel
theorem dX10_init_17 : decode cX10_init 17 = .ok (.return_, 1) := by decide +kernel
theorem dX10_lay_0 : decode cX10_lay 0 = .ok (.aload_n 0, 1) := by decide +kernel
theorem dX10_lay_1 : decode cX10_lay 1 = .ok (.iload_n 1, 1) := by decide +kernel
theorem dX10_lay_2 : decode cX10_lay 2 = .ok (.putfield 19, 3) := by decide +kernel
theorem dX10_lay_5 : decode cX10_lay 5 = .ok (.aload_n 0, 1) := by decide +kernel
theorem dX10_lay_6 : decode cX10_lay 6 = .ok (.iload_n 2, 1) := by decide +kernel
theorem dX10_lay_7 : decode cX10_lay 7 = .ok (.putfield 9, 3) := by decide +kernel
theorem dX10_lay_10 : decode cX10_lay 10 = .ok (.aload_n 0, 1) := by decide +kernel
theorem dX10_lay_11 : decode cX10_lay 11 = .ok (.getfield 15, 3) := by decide +kernel
theorem dX10_lay_14 : decode cX10_lay 14 = .ok (.lconst 0, 1) := by decide +kernel
theorem dX10_lay_15 : decode cX10_lay 15 = .ok (.invokestatic 22, 3) := by decide +kernel
theorem dX10_lay_18 : decode cX10_lay 18 = .ok (.return_, 1) := by decide +kernel
theorem dX10_put_0 : decode cX10_put 0 = .ok (.iload_n 1, 1) := by decide +kernel
theorem dX10_put_1 : decode cX10_put 1 = .ok (.ifCond .lt 9, 3) := by decide +kernel
theorem dX10_put_4 : decode cX10_put 4 = .ok (.iload_n 1, 1) := by decide +kernel
theorem dX10_put_5 : decode cX10_put 5 = .ok (.bipush 40, 2) := by decide +kernel
theorem dX10_put_7 : decode cX10_put 7 = .ok (.if_icmp .lt 7, 3) := by decide +kernel
theorem dX10_put_10 : decode cX10_put 10 = .ok (.ldc2_w 28, 3) := by decide +kernel
theorem dX10_put_13 : decode cX10_put 13 = .ok (.lreturn, 1) := by decide +kernel
theorem dX10_put_14 : decode cX10_put 14 = .ok (.aload_n 0, 1) := by decide +kernel
theorem dX10_put_15 : decode cX10_put 15 = .ok (.getfield 19, 3) := by decide +kernel
theorem dX10_put_18 : decode cX10_put 18 = .ok (.tableswitch 64 0 2 #[26, 39, 52], 26) := by decide +kernel
theorem dX10_put_44 : decode cX10_put 44 = .ok (.aload_n 0, 1) := by decide +kernel
theorem dX10_put_45 : decode cX10_put 45 = .ok (.getfield 15, 3) := by decide +kernel
theorem dX10_put_48 : decode cX10_put 48 = .ok (.iload_n 1, 1) := by decide +kernel
theorem dX10_put_49 : decode cX10_put 49 = .ok (.lload_n 2, 1) := by decide +kernel
theorem dX10_put_50 : decode cX10_put 50 = .ok (.l2i, 1) := by decide +kernel
theorem dX10_put_51 : decode cX10_put 51 = .ok (.i2b, 1) := by decide +kernel
theorem dX10_put_52 : decode cX10_put 52 = .ok (.i2l, 1) := by decide +kernel
theorem dX10_put_53 : decode cX10_put 53 = .ok (.lastore, 1) := by decide +kernel
theorem dX10_put_54 : decode cX10_put 54 = .ok (.goto 35, 3) := by decide +kernel
theorem dX10_put_57 : decode cX10_put 57 = .ok (.aload_n 0, 1) := by decide +kernel
theorem dX10_put_58 : decode cX10_put 58 = .ok (.getfield 15, 3) := by decide +kernel
theorem dX10_put_61 : decode cX10_put 61 = .ok (.iload_n 1, 1) := by decide +kernel
theorem dX10_put_62 : decode cX10_put 62 = .ok (.lload_n 2, 1) := by decide +kernel
theorem dX10_put_63 : decode cX10_put 63 = .ok (.l2i, 1) := by decide +kernel
theorem dX10_put_64 : decode cX10_put 64 = .ok (.i2s, 1) := by decide +kernel
theorem dX10_put_65 : decode cX10_put 65 = .ok (.i2l, 1) := by decide +kernel
theorem dX10_put_66 : decode cX10_put 66 = .ok (.lastore, 1) := by decide +kernel
theorem dX10_put_67 : decode cX10_put 67 = .ok (.goto 22, 3) := by decide +kernel
theorem dX10_put_70 : decode cX10_put 70 = .ok (.aload_n 0, 1) := by decide +kernel
theorem dX10_put_71 : decode cX10_put 71 = .ok (.getfield 15, 3) := by decide +kernel
theorem dX10_put_74 : decode cX10_put 74 = .ok (.iload_n 1, 1) := by decide +kernel
theorem dX10_put_75 : decode cX10_put 75 = .ok (.lload_n 2, 1) := by decide +kernel
theorem dX10_put_76 : decode cX10_put 76 = .ok (.l2i, 1) := by decide +kernel
theorem dX10_put_77 : decode cX10_put 77 = .ok (.i2l, 1) := by decide +kernel
theorem dX10_put_78 : decode cX10_put 78 = .ok (.lastore, 1) := by decide +kernel
theorem dX10_put_79 : decode cX10_put 79 = .ok (.goto 10, 3) := by decide +kernel
theorem dX10_put_82 : decode cX10_put 82 = .ok (.aload_n 0, 1) := by decide +kernel
theorem dX10_put_83 : decode cX10_put 83 = .ok (.getfield 15, 3) := by decide +kernel
theorem dX10_put_86 : decode cX10_put 86 = .ok (.iload_n 1, 1) := by decide +kernel
theorem dX10_put_87 : decode cX10_put 87 = .ok (.lload_n 2, 1) := by decide +kernel
theorem dX10_put_88 : decode cX10_put 88 = .ok (.lastore, 1) := by decide +kernel
theorem dX10_put_89 : decode cX10_put 89 = .ok (.aload_n 0, 1) := by decide +kernel
theorem dX10_put_90 : decode cX10_put 90 = .ok (.getfield 15, 3) := by decide +kernel
theorem dX10_put_93 : decode cX10_put 93 = .ok (.iload_n 1, 1) := by decide +kernel
theorem dX10_put_94 : decode cX10_put 94 = .ok (.laload, 1) := by decide +kernel
theorem dX10_put_95 : decode cX10_put 95 = .ok (.lreturn, 1) := by decide +kernel
theorem dX11_init_0 : decode cX11_init 0 = .ok (.aload_n 0, 1) := by decide +kernel
theorem dX11_init_1 : decode cX11_init 1 = .ok (.invokespecial 3, 3) := by decide +kernel
theorem dX11_init_4 : decode cX11_init 4 = .ok (.aload_n 0, 1) := by decide +kernel
theorem dX11_init_5 : decode cX11_init 5 = .ok (.new 9, 3) := by decide +kernel
theorem dX11_init_8 : decode cX11_init 8 = .ok (.dup, 1) := by decide +kernel
theorem dX11_init_9 : decode cX11_init 9 = .ok (.invokespecial 11, 3) := by decide +kernel
theorem dX11_init_12 : decode cX11_init 12 = .ok (.putfield 12, 3) := by decide +kernel
theorem dX11_init_15 : decode cX11_init 15 = .ok (.aload_n 0, 1) := by decide +kernel
theorem dX11_init_16 : decode cX11_init 16 = .ok (.new 16, 3) := by decide +kernel
theorem dX11_init_19 : decode cX11_init 19 = .ok (.dup, 1) := by decide +kernel
theorem dX11_init_20 : decode cX11_init 20 = .ok (.invokespecial 18, 3) := by decide +kernel
theorem dX11_init_23 : decode cX11_init 23 = .ok (.putfield 19, 3) := by decide +kernel
theorem dX11_init_26 : decode cX11_init 26 = .ok (.aload_n 0, 1) := by decide +kernel
theorem dX11_init_27 : decode cX11_init 27 = .ok (.new 23, 3) := by decide +kernel
theorem dX11_init_30 : decode cX11_init 30 = .ok (.dup, 1) := by decide +kernel
theorem dX11_init_31 : decode cX11_init 31 = .ok (.invokespecial 25, 3) := by decide +kernel
theorem dX11_init_34 : decode cX11_init 34 = .ok (.putfield 26, 3) := by decide +kernel
theorem dX11_init_37 : decode cX11_init 37 = .ok (.aload_n 0, 1) := by decide +kernel
theorem dX11_init_38 : decode cX11_init 38 = .ok (.new 23, 3) := by decide +kernel
theorem dX11_init_41 : decode cX11_init 41 = .ok (.dup, 1) := by decide +kernel
theorem dX11_init_42 : decode cX11_init 42 = .ok (.invokespecial 25, 3) := by decide +kernel
theorem dX11_init_45 : decode cX11_init 45 = .ok (.putfield 30, 3) := by decide +kernel
theorem dX11_init_48 : decode cX11_init 48 = .ok (.aload_n 0, 1) := by decide +kernel
theorem dX11_init_49 : decode cX11_init 49 = .ok (.new 33, 3) := by decide +kernel
theorem dX11_init_52 : decode cX11_init 52 = .ok (.dup, 1) := by decide +kernel
theorem dX11_init_53 : decode cX11_init 53 = .ok (.invokespecial 35, 3) := by decide +kernel
theorem dX11_init_56 : decode cX11_init 56 = .ok (.putfield 36, 3) := by decide +kernel
theorem dX11_init_59 : decode cX11_init 59 = .ok (.aload_n 0, 1) := by decide +kernel
theorem dX11_init_60 : decode cX11_init 60 = .ok (.new 40, 3) := by decide +kernel
theorem dX11_init_63 : decode cX11_init 63 = .ok (.dup, 1) := by decide +kernel
theorem dX11_init_64 : decode cX11_init 64 = .ok (.invokespecial 42, 3) := by decide +kernel
theorem dX11_init_67 : decode cX11_init 67 = .ok (.putfield 43, 3) := by decide +kernel
theorem dX11_init_70 : decode cX11_init 70 = .ok (.aload_n 0, 1) := by decide +kernel
theorem dX11_init_71 : decode cX11_init 71 = .ok (.iconst 4, 1) := by decide +kernel
theorem dX11_init_72 : decode cX11_init 72 = .ok (.anewarray 47, 3) := by decide +kernel
theorem dX11_init_75 : decode cX11_init 75 = .ok (.putfield 49, 3) := by decide +kernel
theorem dX11_init_78 : decode cX11_init 78 = .ok (.iconst 0, 1) := by decide +kernel
theorem dX11_init_79 : decode cX11_init 79 = .ok (.istore_n 1, 1) := by decide +kernel
theorem dX11_init_80 : decode cX11_init 80 = .ok (.iload_n 1, 1) := by decide +kernel
theorem dX11_init_81 : decode cX11_init 81 = .ok (.iconst 4, 1) := by decide +kernel
theorem dX11_init_82 : decode cX11_init 82 = .ok (.if_icmp .ge 22, 3) := by decide +kernel
theorem dX11_init_85 : decode cX11_init 85 = .ok (.aload_n 0, 1) := by decide +kernel
theorem dX11_init_86 : decode cX11_init 86 = .ok (.getfield 49, 3) := by decide +kernel
theorem dX11_init_89 : decode cX11_init 89 = .ok (.iload_n 1, 1) := by decide +kernel
theorem dX11_init_90 : decode cX11_init 90 = .ok (.new 47, 3) := by decide +kernel
theorem dX11_init_93 : decode cX11_init 93 = .ok (.dup, 1) := by decide +kernel
theorem dX11_init_94 : decode cX11_init 94 = .ok (.invokespecial 53, 3) := by decide +kernel
theorem dX11_init_97 : decode cX11_init 97 = .ok (.aastore, 1) := by decide +kernel
theorem dX11_init_98 : decode cX11_init 98 = .ok (.iinc 1 1, 3) := by decide +kernel
theorem dX11_init_101 : decode cX11_init 101 = .ok (.goto (-21), 3) := by decide +kernel
theorem dX11_init_104 : decode cX11_init 104 = .ok (.aload_n 0, 1) := by decide +kernel
theorem dX11_init_105 : decode cX11_init 105 = .ok (.iconst 2, 1) := by decide +kernel
theorem dX11_init_106 : decode cX11_init 106 = .ok (.anewarray 16, 3) := by decide +kernel
theorem dX11_init_109 : decode cX11_init 109 = .ok (.putfield 54, 3) := by decide +kernel
theorem dX11_init_112 : decode cX11_init 112 = .ok (.aload_n 0, 1) := by decide +kernel
theorem dX11_init_113 : decode cX11_init 113 = .ok (.iconst 2, 1) := by decide +kernel
theorem dX11_init_114 : decode cX11_init 114 = .ok (.anewarray 23, 3) := by decide +kernel
theorem dX11_init_117 : decode cX11_init 117 = .ok (.putfield 58, 3) := by decide +kernel
theorem dX11_init_120 : decode cX11_init 120 = .ok (.iconst 0, 1) := by decide +kernel
theorem dX11_init_121 : decode cX11_init 121 = .ok (.istore_n 1, 1) := by decide +kernel
theorem dX11_init_122 : decode cX11_init 122 = .ok (.iload_n 1, 1) := by decide +kernel
theorem dX11_init_123 : decode cX11_init 123 = .ok (.iconst 2, 1) := by decide +kernel
theorem dX11_init_124 : decode cX11_init 124 = .ok (.if_icmp .ge 35, 3) := by decide +kernel
theorem dX11_init_127 : decode cX11_init 127 = .ok (.aload_n 0, 1) := by decide +kernel
theorem dX11_init_128 : decode cX11_init 128 = .ok (.getfield 54, 3) := by decide +kernel
theorem dX11_init_131 : decode cX11_init 131 = .ok (.iload_n 1, 1) := by decide +kernel
theorem dX11_init_132 : decode cX11_init 132 = .ok (.new 16, 3) := by decide +kernel
theorem dX11_init_135 : decode cX11_init 135 = .ok (.dup, 1) := by decide +kernel
theorem dX11_init_136 : decode cX11_init 136 = .ok (.invokespecial 18, 3) := by decide +kernel
theorem dX11_init_139 : decode cX11_init 139 = .ok (.aastore, 1) := by decide +kernel
theorem dX11_init_140 : decode cX11_init 140 = .ok (.aload_n 0, 1) := by decide +kernel
theorem dX11_init_141 : decode cX11_init 141 = .ok (.getfield 58, 3) := by decide +kernel
theorem dX11_init_144 : decode cX11_init 144 = .ok (.iload_n 1, 1) := by decide +kernel
theorem dX11_init_145 : decode cX11_init 145 = .ok (.new 23, 3) := by decide +kernel
theorem dX11_init_148 : decode cX11_init 148 = .ok (.dup, 1) := by decide +kernel
theorem dX11_init_149 : decode cX11_init 149 = .ok (.invokespecial 25, 3) := by decide +kernel
theorem dX11_init_152 : decode cX11_init 152 = .ok (.aastore, 1) := by decide +kernel
theorem dX11_init_153 : decode cX11_init 153 = .ok (.iinc 1 1, 3) := by decide +kernel
theorem dX11_init_156 : decode cX11_init 156 = .ok (.goto (-34), 3) := by decide +kernel
theorem dX11_init_159 : decode cX11_init 159 = .ok (.aload_n 0, 1) := by decide +kernel
theorem dX11_init_160 : decode cX11_init 160 = .ok (.new 62, 3) := by decide +kernel
theorem dX11_init_163 : decode cX11_init 163 = .ok (.dup, 1) := by decide +kernel
theorem dX11_init_164 : decode cX11_init 164 = .ok (.invokespecial 64, 3) := by decide +kernel
theorem dX11_init_167 : decode cX11_init 167 = .ok (.putfield 65, 3) := by decide +kernel
theorem dX11_init_170 : decode cX11_init 170 = .ok (.aload_n 0, 1) := by decide +kernel
theorem dX11_init_171 : decode cX11_init 171 = .ok (.new 69, 3) := by decide +kernel
theorem dX11_init_174 : decode cX11_init 174 = .ok (.dup, 1) := by decide +kernel
theorem dX11_init_175 : decode cX11_init 175 = .ok (.invokespecial 71, 3) := by decide +kernel
theorem dX11_init_178 : decode cX11_init 178 = .ok (.putfield 72, 3) := by decide +kernel
theorem dX11_init_181 : decode cX11_init 181 = .ok (.aload_n 0, 1) := by decide +kernel
theorem dX11_init_182 : decode cX11_init 182 = .ok (.new 76, 3) := by decide +kernel
theorem dX11_init_185 : decode cX11_init 185 = .ok (.dup, 1) := by decide +kernel
theorem dX11_init_186 : decode cX11_init 186 = .ok (.invokespecial 78, 3) := by decide +kernel
theorem dX11_init_189 : decode cX11_init 189 = .ok (.putfield 79, 3) := by decide +kernel
theorem dX11_init_192 : decode cX11_init 192 = .ok (.aload_n 0, 1) := by decide +kernel
theorem dX11_init_193 : decode cX11_init 193 = .ok (.invokestatic 83, 3) := by decide +kernel
theorem dX11_init_196 : decode cX11_init 196 = .ok (.putfield 87, 3) := by decide +kernel
theorem dX11_init_199 : decode cX11_init 199 = .ok (.aload_n 0, 1) := by decide +kernel
theorem dX11_init_200 : decode cX11_init 200 = .ok (.new 91, 3) := by decide +kernel
theorem dX11_init_203 : decode cX11_init 203 = .ok (.dup, 1) := by decide +kernel
theorem dX11_init_204 : decode cX11_init 204 = .ok (.invokespecial 93, 3) := by decide +kernel
theorem dX11_init_207 : decode cX11_init 207 = .ok (.putfield 94, 3) := by decide +kernel
theorem dX11_init_210 : decode cX11_init 210 = .ok (.return_, 1) := by decide +kernel
theorem dX11_feed_0 : decode cX11_feed 0 = .ok (.aload_n 0, 1) := by decide +kernel
theorem dX11_feed_1 : decode cX11_feed 1 = .ok (.getfield 98, 3) := by decide +kernel
theorem dX11_feed_4 : decode cX11_feed 4 = .ok (.bipush 20, 2) := by decide +kernel
theorem dX11_feed_6 : decode cX11_feed 6 = .ok (.iadd, 1) := by decide +kernel
theorem dX11_feed_7 : decode cX11_feed 7 = .ok (.sipush 900, 3) := by decide +kernel
theorem dX11_feed_10 : decode cX11_feed 10 = .ok (.if_icmp .le 6, 3) := by decide +kernel
theorem dX11_feed_13 : decode cX11_feed 13 = .ok (.bipush (-5), 2) := by decide +kernel
theorem dX11_feed_15 : decode cX11_feed 15 = .ok (.ireturn, 1) := by decide +kernel
theorem dX11_feed_16 : decode cX11_feed 16 = .ok (.aload_n 0, 1) := by decide +kernel
theorem dX11_feed_17 : decode cX11_feed 17 = .ok (.iload_n 1, 1) := by decide +kernel
theorem dX11_feed_18 : decode cX11_feed 18 = .ok (.invokevirtual 102, 3) := by decide +kernel
theorem dX11_feed_21 : decode cX11_feed 21 = .ok (.aload_n 0, 1) := by decide +kernel
theorem dX11_feed_22 : decode cX11_feed 22 = .ok (.iload_n 2, 1) := by decide +kernel
theorem dX11_feed_23 : decode cX11_feed 23 = .ok (.invokevirtual 102, 3) := by decide +kernel
theorem dX11_feed_26 : decode cX11_feed 26 = .ok (.aload_n 0, 1) := by decide +kernel
theorem dX11_feed_27 : decode cX11_feed 27 = .ok (.iload_n 3, 1) := by decide +kernel
theorem dX11_feed_28 : decode cX11_feed 28 = .ok (.invokevirtual 102, 3) := by decide +kernel
theorem dX11_feed_31 : decode cX11_feed 31 = .ok (.aload_n 0, 1) := by decide +kernel
theorem dX11_feed_32 : decode cX11_feed 32 = .ok (.iload 4, 2) := by decide +kernel
theorem dX11_feed_34 : decode cX11_feed 34 = .ok (.invokevirtual 102, 3) := by decide +kernel
theorem dX11_feed_37 : decode cX11_feed 37 = .ok (.aload_n 0, 1) := by decide +kernel
theorem dX11_feed_38 : decode cX11_feed 38 = .ok (.iload 5, 2) := by decide +kernel
theorem dX11_feed_40 : decode cX11_feed 40 = .ok (.invokevirtual 102, 3) := by decide +kernel
theorem dX11_feed_43 : decode cX11_feed 43 = .ok (.aload_n 0, 1) := by decide +kernel
theorem dX11_feed_44 : decode cX11_feed 44 = .ok (.getfield 98, 3) := by decide +kernel
theorem dX11_feed_47 : decode cX11_feed 47 = .ok (.ireturn, 1) := by decide +kernel
theorem dX11_shore_0 : decode cX11_shore 0 = .ok (.iload_n 1, 1) := by decide +kernel
theorem dX11_shore_1 : decode cX11_shore 1 = .ok (.ifCond .lt 11, 3) := by decide +kernel
theorem dX11_shore_4 : decode cX11_shore 4 = .ok (.iload_n 1, 1) := by decide +kernel
theorem dX11_shore_5 : decode cX11_shore 5 = .ok (.aload_n 0, 1) := by decide +kernel
theorem dX11_shore_6 : decode cX11_shore 6 = .ok (.getfield 98, 3) := by decide +kernel
theorem dX11_shore_9 : decode cX11_shore 9 = .ok (.if_icmp .le 6, 3) := by decide +kernel
theorem dX11_shore_12 : decode cX11_shore 12 = .ok (.bipush (-3), 2) := by decide +kernel
theorem dX11_shore_14 : decode cX11_shore 14 = .ok (.ireturn, 1) := by decide +kernel
theorem dX11_shore_15 : decode cX11_shore 15 = .ok (.aload_n 0, 1) := by decide +kernel
theorem dX11_shore_16 : decode cX11_shore 16 = .ok (.getfield 12, 3) := by decide +kernel
theorem dX11_shore_19 : decode cX11_shore 19 = .ok (.iload_n 1, 1) := by decide +kernel
theorem dX11_shore_20 : decode cX11_shore 20 = .ok (.invokevirtual 106, 3) := by decide +kernel
theorem dX11_shore_23 : decode cX11_shore 23 = .ok (.istore_n 2, 1) := by decide +kernel
theorem dX11_shore_24 : decode cX11_shore 24 = .ok (.aload_n 0, 1) := by decide +kernel
theorem dX11_shore_25 : decode cX11_shore 25 = .ok (.iconst 0, 1) := by decide +kernel
theorem dX11_shore_26 : decode cX11_shore 26 = .ok (.putfield 98, 3) := by decide +kernel
theorem dX11_shore_29 : decode cX11_shore 29 = .ok (.iload_n 2, 1) := by decide +kernel
theorem dX11_shore_30 : decode cX11_shore 30 = .ok (.ifCond .ne 14, 3) := by decide +kernel
theorem dX11_shore_33 : decode cX11_shore 33 = .ok (.bipush (-30), 2) := by decide +kernel
theorem dX11_shore_35 : decode cX11_shore 35 = .ok (.aload_n 0, 1) := by decide +kernel
theorem dX11_shore_36 : decode cX11_shore 36 = .ok (.getfield 12, 3) := by decide +kernel
theorem dX11_shore_39 : decode cX11_shore 39 = .ok (.getfield 110, 3) := by decide +kernel
theorem dX11_shore_42 : decode cX11_shore 42 = .ok (.isub, 1) := by decide +kernel
theorem dX11_shore_43 : decode cX11_shore 43 = .ok (.ireturn, 1) := by decide +kernel
theorem dX11_shore_44 : decode cX11_shore 44 = .ok (.aload_n 0, 1) := by decide +kernel
theorem dX11_shore_45 : decode cX11_shore 45 = .ok (.getfield 19, 3) := by decide +kernel
theorem dX11_shore_48 : decode cX11_shore 48 = .ok (.aload_n 0, 1) := by decide +kernel
theorem dX11_shore_49 : decode cX11_shore 49 = .ok (.getfield 12, 3) := by decide +kernel
theorem dX11_shore_52 : decode cX11_shore 52 = .ok (.getfield 113, 3) := by decide +kernel
theorem dX11_shore_55 : decode cX11_shore 55 = .ok (.invokevirtual 114, 3) := by decide +kernel
theorem dX11_shore_58 : decode cX11_shore 58 = .ok (.aload_n 0, 1) := by decide +kernel
theorem dX11_shore_59 : decode cX11_shore 59 = .ok (.getfield 26, 3) := by decide +kernel
theorem dX11_shore_62 : decode cX11_shore 62 = .ok (.aload_n 0, 1) := by decide +kernel
theorem dX11_shore_63 : decode cX11_shore 63 = .ok (.getfield 12, 3) := by decide +kernel
theorem dX11_shore_66 : decode cX11_shore 66 = .ok (.getfield 118, 3) := by decide +kernel
theorem dX11_shore_69 : decode cX11_shore 69 = .ok (.invokevirtual 121, 3) := by decide +kernel
theorem dX11_shore_72 : decode cX11_shore 72 = .ok (.aload_n 0, 1) := by decide +kernel
theorem dX11_shore_73 : decode cX11_shore 73 = .ok (.getfield 43, 3) := by decide +kernel
theorem dX11_shore_76 : decode cX11_shore 76 = .ok (.invokevirtual 124, 3) := by decide +kernel
theorem dX11_shore_79 : decode cX11_shore 79 = .ok (.aload_n 0, 1) := by decide +kernel
theorem dX11_shore_80 : decode cX11_shore 80 = .ok (.getfield 19, 3) := by decide +kernel
theorem dX11_shore_83 : decode cX11_shore 83 = .ok (.getfield 127, 3) := by decide +kernel
theorem dX11_shore_86 : decode cX11_shore 86 = .ok (.ireturn, 1) := by decide +kernel
theorem dX11_fault_0 : decode cX11_fault 0 = .ok (.iload_n 1, 1) := by decide +kernel
theorem dX11_fault_1 : decode cX11_fault 1 = .ok (.lookupswitch 43 #[(0, 27), (1, 35)], 27) := by decide +kernel
theorem dX11_fault_28 : decode cX11_fault 28 = .ok (.aload_n 0, 1) := by decide +kernel
theorem dX11_fault_29 : decode cX11_fault 29 = .ok (.getfield 12, 3) := by decide +kernel
theorem dX11_fault_32 : decode cX11_fault 32 = .ok (.getfield 110, 3) := by decide +kernel
theorem dX11_fault_35 : decode cX11_fault 35 = .ok (.ireturn, 1) := by decide +kernel
theorem dX11_fault_36 : decode cX11_fault 36 = .ok (.aload_n 0, 1) := by decide +kernel
theorem dX11_fault_37 : decode cX11_fault 37 = .ok (.getfield 12, 3) := by decide +kernel
theorem dX11_fault_40 : decode cX11_fault 40 = .ok (.getfield 130, 3) := by decide +kernel
theorem dX11_fault_43 : decode cX11_fault 43 = .ok (.ireturn, 1) := by decide +kernel
theorem dX11_fault_44 : decode cX11_fault 44 = .ok (.iconst (-1), 1) := by decide +kernel
theorem dX11_fault_45 : decode cX11_fault 45 = .ok (.ireturn, 1) := by decide +kernel
theorem dX11_sand_0 : decode cX11_sand 0 = .ok (.aload_n 0, 1) := by decide +kernel
theorem dX11_sand_1 : decode cX11_sand 1 = .ok (.iload_n 1, 1) := by decide +kernel
theorem dX11_sand_2 : decode cX11_sand 2 = .ok (.invokevirtual 133, 3) := by decide +kernel
theorem dX11_sand_5 : decode cX11_sand 5 = .ok (.ifCond .eq 15, 3) := by decide +kernel
theorem dX11_sand_8 : decode cX11_sand 8 = .ok (.aload_n 0, 1) := by decide +kernel
theorem dX11_sand_9 : decode cX11_sand 9 = .ok (.getfield 26, 3) := by decide +kernel
theorem dX11_sand_12 : decode cX11_sand 12 = .ok (.getfield 136, 3) := by decide +kernel
theorem dX11_sand_15 : decode cX11_sand 15 = .ok (.iload_n 1, 1) := by decide +kernel
theorem dX11_sand_16 : decode cX11_sand 16 = .ok (.iaload, 1) := by decide +kernel
theorem dX11_sand_17 : decode cX11_sand 17 = .ok (.goto 5, 3) := by decide +kernel
theorem dX11_sand_20 : decode cX11_sand 20 = .ok (.bipush (-2), 2) := by decide +kernel
theorem dX11_sand_22 : decode cX11_sand 22 = .ok (.ireturn, 1) := by decide +kernel
theorem dX11_house_0 : decode cX11_house 0 = .ok (.aload_n 0, 1) := by decide +kernel
theorem dX11_house_1 : decode cX11_house 1 = .ok (.iload_n 1, 1) := by decide +kernel
theorem dX11_house_2 : decode cX11_house 2 = .ok (.invokevirtual 139, 3) := by decide +kernel
theorem dX11_house_5 : decode cX11_house 5 = .ok (.ifCond .ne 6, 3) := by decide +kernel
theorem dX11_house_8 : decode cX11_house 8 = .ok (.bipush (-2), 2) := by decide +kernel
theorem dX11_house_10 : decode cX11_house 10 = .ok (.ireturn, 1) := by decide +kernel
theorem dX11_house_11 : decode cX11_house 11 = .ok (.iload_n 2, 1) := by decide +kernel
theorem dX11_house_12 : decode cX11_house 12 = .ok (.tableswitch 60 0 2 #[28, 38, 48], 28) := by decide +kernel
theorem dX11_house_40 : decode cX11_house 40 = .ok (.aload_n 0, 1) := by decide +kernel
theorem dX11_house_41 : decode cX11_house 41 = .ok (.getfield 26, 3) := by decide +kernel
theorem dX11_house_44 : decode cX11_house 44 = .ok (.getfield 142, 3) := by decide +kernel
theorem dX11_house_47 : decode cX11_house 47 = .ok (.iload_n 1, 1) := by decide +kernel
theorem dX11_house_48 : decode cX11_house 48 = .ok (.iaload, 1) := by decide +kernel
theorem dX11_house_49 : decode cX11_house 49 = .ok (.ireturn, 1) := by decide +kernel
theorem dX11_house_50 : decode cX11_house 50 = .ok (.aload_n 0, 1) := by decide +kernel
theorem dX11_house_51 : decode cX11_house 51 = .ok (.getfield 26, 3) := by decide +kernel
theorem dX11_house_54 : decode cX11_house 54 = .ok (.getfield 145, 3) := by decide +kernel
theorem dX11_house_57 : decode cX11_house 57 = .ok (.iload_n 1, 1) := by decide +kernel
theorem dX11_house_58 : decode cX11_house 58 = .ok (.iaload, 1) := by decide +kernel
theorem dX11_house_59 : decode cX11_house 59 = .ok (.ireturn, 1) := by decide +kernel
theorem dX11_house_60 : decode cX11_house 60 = .ok (.aload_n 0, 1) := by decide +kernel
theorem dX11_house_61 : decode cX11_house 61 = .ok (.getfield 26, 3) := by decide +kernel
theorem dX11_house_64 : decode cX11_house 64 = .ok (.getfield 148, 3) := by decide +kernel
theorem dX11_house_67 : decode cX11_house 67 = .ok (.iload_n 1, 1) := by decide +kernel
theorem dX11_house_68 : decode cX11_house 68 = .ok (.ishr, 1) := by decide +kernel
theorem dX11_house_69 : decode cX11_house 69 = .ok (.iconst 1, 1) := by decide +kernel
theorem dX11_house_70 : decode cX11_house 70 = .ok (.iand, 1) := by decide +kernel
theorem dX11_house_71 : decode cX11_house 71 = .ok (.ireturn, 1) := by decide +kernel
theorem dX11_house_72 : decode cX11_house 72 = .ok (.bipush (-2), 2) := by decide +kernel
theorem dX11_house_74 : decode cX11_house 74 = .ok (.ireturn, 1) := by decide +kernel
theorem dX11_plot_0 : decode cX11_plot 0 = .ok (.iload_n 1, 1) := by decide +kernel
theorem dX11_plot_1 : decode cX11_plot 1 = .ok (.ifCond .lt 14, 3) := by decide +kernel
theorem dX11_plot_4 : decode cX11_plot 4 = .ok (.iload_n 1, 1) := by decide +kernel
theorem dX11_plot_5 : decode cX11_plot 5 = .ok (.aload_n 0, 1) := by decide +kernel
theorem dX11_plot_6 : decode cX11_plot 6 = .ok (.getfield 19, 3) := by decide +kernel
theorem dX11_plot_9 : decode cX11_plot 9 = .ok (.getfield 151, 3) := by decide +kernel
theorem dX11_plot_12 : decode cX11_plot 12 = .ok (.if_icmp .lt 6, 3) := by decide +kernel
theorem dX11_plot_15 : decode cX11_plot 15 = .ok (.bipush (-2), 2) := by decide +kernel
theorem dX11_plot_17 : decode cX11_plot 17 = .ok (.ireturn, 1) := by decide +kernel
theorem dX11_plot_18 : decode cX11_plot 18 = .ok (.iload_n 2, 1) := by decide +kernel
theorem dX11_plot_19 : decode cX11_plot 19 = .ok (.tableswitch 55 0 2 #[25, 35, 45], 25) := by decide +kernel
theorem dX11_plot_44 : decode cX11_plot 44 = .ok (.aload_n 0, 1) := by decide +kernel
theorem dX11_plot_45 : decode cX11_plot 45 = .ok (.getfield 19, 3) := by decide +kernel
theorem dX11_plot_48 : decode cX11_plot 48 = .ok (.getfield 154, 3) := by decide +kernel
theorem dX11_plot_51 : decode cX11_plot 51 = .ok (.iload_n 1, 1) := by decide +kernel
theorem dX11_plot_52 : decode cX11_plot 52 = .ok (.iaload, 1) := by decide +kernel
theorem dX11_plot_53 : decode cX11_plot 53 = .ok (.ireturn, 1) := by decide +kernel
theorem dX11_plot_54 : decode cX11_plot 54 = .ok (.aload_n 0, 1) := by decide +kernel
theorem dX11_plot_55 : decode cX11_plot 55 = .ok (.getfield 19, 3) := by decide +kernel
theorem dX11_plot_58 : decode cX11_plot 58 = .ok (.getfield 157, 3) := by decide +kernel
theorem dX11_plot_61 : decode cX11_plot 61 = .ok (.iload_n 1, 1) := by decide +kernel
theorem dX11_plot_62 : decode cX11_plot 62 = .ok (.iaload, 1) := by decide +kernel
theorem dX11_plot_63 : decode cX11_plot 63 = .ok (.ireturn, 1) := by decide +kernel
theorem dX11_plot_64 : decode cX11_plot 64 = .ok (.aload_n 0, 1) := by decide +kernel
theorem dX11_plot_65 : decode cX11_plot 65 = .ok (.getfield 19, 3) := by decide +kernel
theorem dX11_plot_68 : decode cX11_plot 68 = .ok (.getfield 160, 3) := by decide +kernel
theorem dX11_plot_71 : decode cX11_plot 71 = .ok (.iload_n 1, 1) := by decide +kernel
theorem dX11_plot_72 : decode cX11_plot 72 = .ok (.iaload, 1) := by decide +kernel
theorem dX11_plot_73 : decode cX11_plot 73 = .ok (.ireturn, 1) := by decide +kernel
theorem dX11_plot_74 : decode cX11_plot 74 = .ok (.bipush (-2), 2) := by decide +kernel
theorem dX11_plot_76 : decode cX11_plot 76 = .ok (.ireturn, 1) := by decide +kernel
theorem dX11_level_0 : decode cX11_level 0 = .ok (.iload_n 1, 1) := by decide +kernel
theorem dX11_level_1 : decode cX11_level 1 = .ok (.ifCond .lt 10, 3) := by decide +kernel
theorem dX11_level_4 : decode cX11_level 4 = .ok (.iload_n 1, 1) := by decide +kernel
theorem dX11_level_5 : decode cX11_level 5 = .ok (.sipush 999, 3) := by decide +kernel
theorem dX11_level_8 : decode cX11_level 8 = .ok (.if_icmp .le 8, 3) := by decide +kernel
theorem dX11_level_11 : decode cX11_level 11 = .ok (.bipush (-3), 2) := by decide +kernel
theorem dX11_level_13 : decode cX11_level 13 = .ok (.goto 22, 3) := by decide +kernel
theorem dX11_level_16 : decode cX11_level 16 = .ok (.aload_n 0, 1) := by decide +kernel
theorem dX11_level_17 : decode cX11_level 17 = .ok (.getfield 36, 3) := by decide +kernel
theorem dX11_level_20 : decode cX11_level 20 = .ok (.aload_n 0, 1) := by decide +kernel
theorem dX11_level_21 : decode cX11_level 21 = .ok (.getfield 19, 3) := by decide +kernel
theorem dX11_level_24 : decode cX11_level 24 = .ok (.iload_n 1, 1) := by decide +kernel
theorem dX11_level_25 : decode cX11_level 25 = .ok (.aload_n 0, 1) := by decide +kernel
theorem dX11_level_26 : decode cX11_level 26 = .ok (.getfield 26, 3) := by decide +kernel
theorem dX11_level_29 : decode cX11_level 29 = .ok (.getfield 163, 3) := by decide +kernel
theorem dX11_level_32 : decode cX11_level 32 = .ok (.invokevirtual 166, 3) := by decide +kernel
theorem dX11_level_35 : decode cX11_level 35 = .ok (.ireturn, 1) := by decide +kernel
theorem dX11_wet_0 : decode cX11_wet 0 = .ok (.iload_n 1, 1) := by decide +kernel
theorem dX11_wet_1 : decode cX11_wet 1 = .ok (.i2l, 1) := by decide +kernel
theorem dX11_wet_2 : decode cX11_wet 2 = .ok (.invokestatic 170, 3) := by decide +kernel
theorem dX11_wet_5 : decode cX11_wet 5 = .ok (.ifCond .eq 21, 3) := by decide +kernel
theorem dX11_wet_8 : decode cX11_wet 8 = .ok (.aload_n 0, 1) := by decide +kernel
theorem dX11_wet_9 : decode cX11_wet 9 = .ok (.getfield 19, 3) := by decide +kernel
theorem dX11_wet_12 : decode cX11_wet 12 = .ok (.aload_n 0, 1) := by decide +kernel
theorem dX11_wet_13 : decode cX11_wet 13 = .ok (.getfield 26, 3) := by decide +kernel
theorem dX11_wet_16 : decode cX11_wet 16 = .ok (.getfield 136, 3) := by decide +kernel
theorem dX11_wet_19 : decode cX11_wet 19 = .ok (.iload_n 1, 1) := by decide +kernel
theorem dX11_wet_20 : decode cX11_wet 20 = .ok (.invokestatic 174, 3) := by decide +kernel
theorem dX11_wet_23 : decode cX11_wet 23 = .ok (.goto 5, 3) := by decide +kernel
theorem dX11_wet_26 : decode cX11_wet 26 = .ok (.bipush (-3), 2) := by decide +kernel
theorem dX11_wet_28 : decode cX11_wet 28 = .ok (.ireturn, 1) := by decide +kernel
theorem dX11_minutes_0 : decode cX11_minutes 0 = .ok (.iload_n 1, 1) := by decide +kernel
theorem dX11_minutes_1 : decode cX11_minutes 1 = .ok (.iconst 1, 1) := by decide +kernel
theorem dX11_minutes_2 : decode cX11_minutes 2 = .ok (.if_icmp .lt 9, 3) := by decide +kernel
theorem dX11_minutes_5 : decode cX11_minutes 5 = .ok (.iload_n 1, 1) := by decide +kernel
theorem dX11_minutes_6 : decode cX11_minutes 6 = .ok (.bipush 99, 2) := by decide +kernel
theorem dX11_minutes_8 : decode cX11_minutes 8 = .ok (.if_icmp .le 6, 3) := by decide +kernel
theorem dX11_minutes_11 : decode cX11_minutes 11 = .ok (.bipush (-3), 2) := by decide +kernel
theorem dX11_minutes_13 : decode cX11_minutes 13 = .ok (.ireturn, 1) := by decide +kernel
theorem dX11_minutes_14 : decode cX11_minutes 14 = .ok (.aload_n 0, 1) := by decide +kernel
theorem dX11_minutes_15 : decode cX11_minutes 15 = .ok (.getfield 43, 3) := by decide +kernel
theorem dX11_minutes_18 : decode cX11_minutes 18 = .ok (.aload_n 0, 1) := by decide +kernel
theorem dX11_minutes_19 : decode cX11_minutes 19 = .ok (.getfield 26, 3) := by decide +kernel
theorem dX11_minutes_22 : decode cX11_minutes 22 = .ok (.invokevirtual 178, 3) := by decide +kernel
theorem dX11_minutes_25 : decode cX11_minutes 25 = .ok (.iconst 0, 1) := by decide +kernel
theorem dX11_minutes_26 : decode cX11_minutes 26 = .ok (.istore_n 2, 1) := by decide +kernel
theorem dX11_minutes_27 : decode cX11_minutes 27 = .ok (.iload_n 2, 1) := by decide +kernel
theorem dX11_minutes_28 : decode cX11_minutes 28 = .ok (.iload_n 1, 1) := by decide +kernel
theorem dX11_minutes_29 : decode cX11_minutes 29 = .ok (.if_icmp .ge 25, 3) := by decide +kernel
theorem dX11_minutes_32 : decode cX11_minutes 32 = .ok (.aload_n 0, 1) := by decide +kernel
theorem dX11_minutes_33 : decode cX11_minutes 33 = .ok (.getfield 36, 3) := by decide +kernel
theorem dX11_minutes_36 : decode cX11_minutes 36 = .ok (.aload_n 0, 1) := by decide +kernel
theorem dX11_minutes_37 : decode cX11_minutes 37 = .ok (.getfield 19, 3) := by decide +kernel
theorem dX11_minutes_40 : decode cX11_minutes 40 = .ok (.aload_n 0, 1) := by decide +kernel
theorem dX11_minutes_41 : decode cX11_minutes 41 = .ok (.getfield 26, 3) := by decide +kernel
theorem dX11_minutes_44 : decode cX11_minutes 44 = .ok (.invokevirtual 181, 3) := by decide +kernel
theorem dX11_minutes_47 : decode cX11_minutes 47 = .ok (.pop, 1) := by decide +kernel
theorem dX11_minutes_48 : decode cX11_minutes 48 = .ok (.iinc 2 1, 3) := by decide +kernel
theorem dX11_minutes_51 : decode cX11_minutes 51 = .ok (.goto (-24), 3) := by decide +kernel
theorem dX11_minutes_54 : decode cX11_minutes 54 = .ok (.aload_n 0, 1) := by decide +kernel
theorem dX11_minutes_55 : decode cX11_minutes 55 = .ok (.getfield 43, 3) := by decide +kernel
theorem dX11_minutes_58 : decode cX11_minutes 58 = .ok (.invokevirtual 185, 3) := by decide +kernel
theorem dX11_minutes_61 : decode cX11_minutes 61 = .ok (.aload_n 0, 1) := by decide +kernel
theorem dX11_minutes_62 : decode cX11_minutes 62 = .ok (.getfield 26, 3) := by decide +kernel
theorem dX11_minutes_65 : decode cX11_minutes 65 = .ok (.getfield 148, 3) := by decide +kernel
theorem dX11_minutes_68 : decode cX11_minutes 68 = .ok (.invokestatic 188, 3) := by decide +kernel
theorem dX11_minutes_71 : decode cX11_minutes 71 = .ok (.ireturn, 1) := by decide +kernel
theorem dX11_raise_0 : decode cX11_raise 0 = .ok (.aload_n 0, 1) := by decide +kernel
theorem dX11_raise_1 : decode cX11_raise 1 = .ok (.getfield 43, 3) := by decide +kernel
theorem dX11_raise_4 : decode cX11_raise 4 = .ok (.aload_n 0, 1) := by decide +kernel
theorem dX11_raise_5 : decode cX11_raise 5 = .ok (.getfield 26, 3) := by decide +kernel
theorem dX11_raise_8 : decode cX11_raise 8 = .ok (.invokevirtual 178, 3) := by decide +kernel
theorem dX11_raise_11 : decode cX11_raise 11 = .ok (.aload_n 0, 1) := by decide +kernel
theorem dX11_raise_12 : decode cX11_raise 12 = .ok (.getfield 26, 3) := by decide +kernel
theorem dX11_raise_15 : decode cX11_raise 15 = .ok (.iload_n 1, 1) := by decide +kernel
theorem dX11_raise_16 : decode cX11_raise 16 = .ok (.aload_n 0, 1) := by decide +kernel
theorem dX11_raise_17 : decode cX11_raise 17 = .ok (.getfield 19, 3) := by decide +kernel
theorem dX11_raise_20 : decode cX11_raise 20 = .ok (.invokevirtual 194, 3) := by decide +kernel
theorem dX11_raise_23 : decode cX11_raise 23 = .ok (.invokevirtual 198, 3) := by decide +kernel
theorem dX11_raise_26 : decode cX11_raise 26 = .ok (.istore_n 2, 1) := by decide +kernel
theorem dX11_raise_27 : decode cX11_raise 27 = .ok (.iload_n 2, 1) := by decide +kernel
theorem dX11_raise_28 : decode cX11_raise 28 = .ok (.ifCond .eq 10, 3) := by decide +kernel
theorem dX11_raise_31 : decode cX11_raise 31 = .ok (.bipush (-10), 2) := by decide +kernel
theorem dX11_raise_33 : decode cX11_raise 33 = .ok (.iload_n 2, 1) := by decide +kernel
theorem dX11_raise_34 : decode cX11_raise 34 = .ok (.isub, 1) := by decide +kernel
theorem dX11_raise_35 : decode cX11_raise 35 = .ok (.goto 16, 3) := by decide +kernel
theorem dX11_raise_38 : decode cX11_raise 38 = .ok (.aload_n 0, 1) := by decide +kernel
theorem dX11_raise_39 : decode cX11_raise 39 = .ok (.aload_n 0, 1) := by decide +kernel
theorem dX11_raise_40 : decode cX11_raise 40 = .ok (.getfield 26, 3) := by decide +kernel
theorem dX11_raise_43 : decode cX11_raise 43 = .ok (.getfield 136, 3) := by decide +kernel
theorem dX11_raise_46 : decode cX11_raise 46 = .ok (.iload_n 1, 1) := by decide +kernel
theorem dX11_raise_47 : decode cX11_raise 47 = .ok (.iaload, 1) := by decide +kernel
theorem dX11_raise_48 : decode cX11_raise 48 = .ok (.invokevirtual 202, 3) := by decide +kernel
theorem dX11_raise_51 : decode cX11_raise 51 = .ok (.ireturn, 1) := by decide +kernel
theorem dX11_dig_0 : decode cX11_dig 0 = .ok (.aload_n 0, 1) := by decide +kernel
theorem dX11_dig_1 : decode cX11_dig 1 = .ok (.getfield 43, 3) := by decide +kernel
theorem dX11_dig_4 : decode cX11_dig 4 = .ok (.aload_n 0, 1) := by decide +kernel
theorem dX11_dig_5 : decode cX11_dig 5 = .ok (.getfield 26, 3) := by decide +kernel
theorem dX11_dig_8 : decode cX11_dig 8 = .ok (.invokevirtual 178, 3) := by decide +kernel
theorem dX11_dig_11 : decode cX11_dig 11 = .ok (.aload_n 0, 1) := by decide +kernel
theorem dX11_dig_12 : decode cX11_dig 12 = .ok (.getfield 26, 3) := by decide +kernel
theorem dX11_dig_15 : decode cX11_dig 15 = .ok (.iload_n 1, 1) := by decide +kernel
theorem dX11_dig_16 : decode cX11_dig 16 = .ok (.aload_n 0, 1) := by decide +kernel
theorem dX11_dig_17 : decode cX11_dig 17 = .ok (.getfield 19, 3) := by decide +kernel
theorem dX11_dig_20 : decode cX11_dig 20 = .ok (.invokevirtual 194, 3) := by decide +kernel
theorem dX11_dig_23 : decode cX11_dig 23 = .ok (.invokevirtual 205, 3) := by decide +kernel
theorem dX11_dig_26 : decode cX11_dig 26 = .ok (.istore_n 2, 1) := by decide +kernel
theorem dX11_dig_27 : decode cX11_dig 27 = .ok (.iload_n 2, 1) := by decide +kernel
theorem dX11_dig_28 : decode cX11_dig 28 = .ok (.ifCond .eq 10, 3) := by decide +kernel
theorem dX11_dig_31 : decode cX11_dig 31 = .ok (.bipush (-10), 2) := by decide +kernel
theorem dX11_dig_33 : decode cX11_dig 33 = .ok (.iload_n 2, 1) := by decide +kernel
theorem dX11_dig_34 : decode cX11_dig 34 = .ok (.isub, 1) := by decide +kernel
theorem dX11_dig_35 : decode cX11_dig 35 = .ok (.goto 16, 3) := by decide +kernel
theorem dX11_dig_38 : decode cX11_dig 38 = .ok (.aload_n 0, 1) := by decide +kernel
theorem dX11_dig_39 : decode cX11_dig 39 = .ok (.aload_n 0, 1) := by decide +kernel
theorem dX11_dig_40 : decode cX11_dig 40 = .ok (.getfield 26, 3) := by decide +kernel
theorem dX11_dig_43 : decode cX11_dig 43 = .ok (.getfield 136, 3) := by decide +kernel
theorem dX11_dig_46 : decode cX11_dig 46 = .ok (.iload_n 1, 1) := by decide +kernel
theorem dX11_dig_47 : decode cX11_dig 47 = .ok (.iaload, 1) := by decide +kernel
theorem dX11_dig_48 : decode cX11_dig 48 = .ok (.invokevirtual 202, 3) := by decide +kernel
theorem dX11_dig_51 : decode cX11_dig 51 = .ok (.ireturn, 1) := by decide +kernel
theorem dX11_build_0 : decode cX11_build 0 = .ok (.aload_n 0, 1) := by decide +kernel
theorem dX11_build_1 : decode cX11_build 1 = .ok (.getfield 43, 3) := by decide +kernel
theorem dX11_build_4 : decode cX11_build 4 = .ok (.aload_n 0, 1) := by decide +kernel
theorem dX11_build_5 : decode cX11_build 5 = .ok (.getfield 26, 3) := by decide +kernel
theorem dX11_build_8 : decode cX11_build 8 = .ok (.invokevirtual 178, 3) := by decide +kernel
theorem dX11_build_11 : decode cX11_build 11 = .ok (.aload_n 0, 1) := by decide +kernel
theorem dX11_build_12 : decode cX11_build 12 = .ok (.getfield 26, 3) := by decide +kernel
theorem dX11_build_15 : decode cX11_build 15 = .ok (.iload_n 1, 1) := by decide +kernel
theorem dX11_build_16 : decode cX11_build 16 = .ok (.iload_n 2, 1) := by decide +kernel
theorem dX11_build_17 : decode cX11_build 17 = .ok (.aload_n 0, 1) := by decide +kernel
theorem dX11_build_18 : decode cX11_build 18 = .ok (.getfield 19, 3) := by decide +kernel
theorem dX11_build_21 : decode cX11_build 21 = .ok (.invokevirtual 194, 3) := by decide +kernel
theorem dX11_build_24 : decode cX11_build 24 = .ok (.invokevirtual 208, 3) := by decide +kernel
theorem dX11_build_27 : decode cX11_build 27 = .ok (.istore_n 3, 1) := by decide +kernel
theorem dX11_build_28 : decode cX11_build 28 = .ok (.iload_n 3, 1) := by decide +kernel
theorem dX11_build_29 : decode cX11_build 29 = .ok (.ifCond .eq 10, 3) := by decide +kernel
theorem dX11_build_32 : decode cX11_build 32 = .ok (.bipush (-10), 2) := by decide +kernel
theorem dX11_build_34 : decode cX11_build 34 = .ok (.iload_n 3, 1) := by decide +kernel
theorem dX11_build_35 : decode cX11_build 35 = .ok (.isub, 1) := by decide +kernel
theorem dX11_build_36 : decode cX11_build 36 = .ok (.goto 16, 3) := by decide +kernel
theorem dX11_build_39 : decode cX11_build 39 = .ok (.aload_n 0, 1) := by decide +kernel
theorem dX11_build_40 : decode cX11_build 40 = .ok (.aload_n 0, 1) := by decide +kernel
theorem dX11_build_41 : decode cX11_build 41 = .ok (.getfield 26, 3) := by decide +kernel
theorem dX11_build_44 : decode cX11_build 44 = .ok (.getfield 212, 3) := by decide +kernel
theorem dX11_build_47 : decode cX11_build 47 = .ok (.iconst 1, 1) := by decide +kernel
theorem dX11_build_48 : decode cX11_build 48 = .ok (.isub, 1) := by decide +kernel
theorem dX11_build_49 : decode cX11_build 49 = .ok (.invokevirtual 202, 3) := by decide +kernel
theorem dX11_build_52 : decode cX11_build 52 = .ok (.ireturn, 1) := by decide +kernel
theorem dX11_moon_0 : decode cX11_moon 0 = .ok (.aload_n 0, 1) := by decide +kernel
theorem dX11_moon_1 : decode cX11_moon 1 = .ok (.getfield 43, 3) := by decide +kernel
theorem dX11_moon_4 : decode cX11_moon 4 = .ok (.aload_n 0, 1) := by decide +kernel
theorem dX11_moon_5 : decode cX11_moon 5 = .ok (.getfield 26, 3) := by decide +kernel
theorem dX11_moon_8 : decode cX11_moon 8 = .ok (.invokevirtual 178, 3) := by decide +kernel
theorem dX11_moon_11 : decode cX11_moon 11 = .ok (.aload_n 0, 1) := by decide +kernel
theorem dX11_moon_12 : decode cX11_moon 12 = .ok (.getfield 26, 3) := by decide +kernel
theorem dX11_moon_15 : decode cX11_moon 15 = .ok (.getfield 163, 3) := by decide +kernel
theorem dX11_moon_18 : decode cX11_moon 18 = .ok (.istore_n 2, 1) := by decide +kernel
theorem dX11_moon_19 : decode cX11_moon 19 = .ok (.aload_n 0, 1) := by decide +kernel
theorem dX11_moon_20 : decode cX11_moon 20 = .ok (.getfield 26, 3) := by decide +kernel
theorem dX11_moon_23 : decode cX11_moon 23 = .ok (.iload_n 1, 1) := by decide +kernel
theorem dX11_moon_24 : decode cX11_moon 24 = .ok (.invokevirtual 215, 3) := by decide +kernel
theorem dX11_moon_27 : decode cX11_moon 27 = .ok (.istore_n 3, 1) := by decide +kernel
theorem dX11_moon_28 : decode cX11_moon 28 = .ok (.iload_n 3, 1) := by decide +kernel
theorem dX11_moon_29 : decode cX11_moon 29 = .ok (.ifCond .eq 10, 3) := by decide +kernel
theorem dX11_moon_32 : decode cX11_moon 32 = .ok (.bipush (-10), 2) := by decide +kernel
theorem dX11_moon_34 : decode cX11_moon 34 = .ok (.iload_n 3, 1) := by decide +kernel
theorem dX11_moon_35 : decode cX11_moon 35 = .ok (.isub, 1) := by decide +kernel
theorem dX11_moon_36 : decode cX11_moon 36 = .ok (.goto 8, 3) := by decide +kernel
theorem dX11_moon_39 : decode cX11_moon 39 = .ok (.aload_n 0, 1) := by decide +kernel
theorem dX11_moon_40 : decode cX11_moon 40 = .ok (.iload_n 2, 1) := by decide +kernel
theorem dX11_moon_41 : decode cX11_moon 41 = .ok (.invokevirtual 202, 3) := by decide +kernel
theorem dX11_moon_44 : decode cX11_moon 44 = .ok (.ireturn, 1) := by decide +kernel
theorem dX11_undo_0 : decode cX11_undo 0 = .ok (.iload_n 1, 1) := by decide +kernel
theorem dX11_undo_1 : decode cX11_undo 1 = .ok (.iconst 1, 1) := by decide +kernel
theorem dX11_undo_2 : decode cX11_undo 2 = .ok (.if_icmp .lt 20, 3) := by decide +kernel
theorem dX11_undo_5 : decode cX11_undo 5 = .ok (.iload_n 1, 1) := by decide +kernel
theorem dX11_undo_6 : decode cX11_undo 6 = .ok (.bipush 10, 2) := by decide +kernel
theorem dX11_undo_8 : decode cX11_undo 8 = .ok (.if_icmp .gt 14, 3) := by decide +kernel
theorem dX11_undo_11 : decode cX11_undo 11 = .ok (.iload_n 1, 1) := by decide +kernel
theorem dX11_undo_12 : decode cX11_undo 12 = .ok (.aload_n 0, 1) := by decide +kernel
theorem dX11_undo_13 : decode cX11_undo 13 = .ok (.getfield 43, 3) := by decide +kernel
theorem dX11_undo_16 : decode cX11_undo 16 = .ok (.getfield 218, 3) := by decide +kernel
theorem dX11_undo_19 : decode cX11_undo 19 = .ok (.if_icmp .le 6, 3) := by decide +kernel
theorem dX11_undo_22 : decode cX11_undo 22 = .ok (.bipush (-3), 2) := by decide +kernel
theorem dX11_undo_24 : decode cX11_undo 24 = .ok (.ireturn, 1) := by decide +kernel
theorem dX11_undo_25 : decode cX11_undo 25 = .ok (.aload_n 0, 1) := by decide +kernel
theorem dX11_undo_26 : decode cX11_undo 26 = .ok (.getfield 43, 3) := by decide +kernel
theorem dX11_undo_29 : decode cX11_undo 29 = .ok (.iload_n 1, 1) := by decide +kernel
theorem dX11_undo_30 : decode cX11_undo 30 = .ok (.aload_n 0, 1) := by decide +kernel
theorem dX11_undo_31 : decode cX11_undo 31 = .ok (.getfield 26, 3) := by decide +kernel
theorem dX11_undo_34 : decode cX11_undo 34 = .ok (.invokevirtual 221, 3) := by decide +kernel
theorem dX11_undo_37 : decode cX11_undo 37 = .ok (.aload_n 0, 1) := by decide +kernel
theorem dX11_undo_38 : decode cX11_undo 38 = .ok (.getfield 43, 3) := by decide +kernel
theorem dX11_undo_41 : decode cX11_undo 41 = .ok (.getfield 218, 3) := by decide +kernel
theorem dX11_undo_44 : decode cX11_undo 44 = .ok (.ireturn, 1) := by decide +kernel
theorem dX11_judge_0 : decode cX11_judge 0 = .ok (.iload_n 2, 1) := by decide +kernel
theorem dX11_judge_1 : decode cX11_judge 1 = .ok (.ifCond .lt 8, 3) := by decide +kernel
theorem dX11_judge_4 : decode cX11_judge 4 = .ok (.iload_n 2, 1) := by decide +kernel
theorem dX11_judge_5 : decode cX11_judge 5 = .ok (.iconst 3, 1) := by decide +kernel
theorem dX11_judge_6 : decode cX11_judge 6 = .ok (.if_icmp .le 6, 3) := by decide +kernel
theorem dX11_judge_9 : decode cX11_judge 9 = .ok (.bipush (-2), 2) := by decide +kernel
theorem dX11_judge_11 : decode cX11_judge 11 = .ok (.ireturn, 1) := by decide +kernel
theorem dX11_judge_12 : decode cX11_judge 12 = .ok (.aload_n 0, 1) := by decide +kernel
theorem dX11_judge_13 : decode cX11_judge 13 = .ok (.iload_n 1, 1) := by decide +kernel
theorem dX11_judge_14 : decode cX11_judge 14 = .ok (.invokevirtual 225, 3) := by decide +kernel
theorem dX11_judge_17 : decode cX11_judge 17 = .ok (.istore_n 3, 1) := by decide +kernel
theorem dX11_judge_18 : decode cX11_judge 18 = .ok (.iload_n 3, 1) := by decide +kernel
theorem dX11_judge_19 : decode cX11_judge 19 = .ok (.ifCond .eq 5, 3) := by decide +kernel
theorem dX11_judge_22 : decode cX11_judge 22 = .ok (.iload_n 3, 1) := by decide +kernel
theorem dX11_judge_23 : decode cX11_judge 23 = .ok (.ireturn, 1) := by decide +kernel
theorem dX11_judge_24 : decode cX11_judge 24 = .ok (.aload_n 0, 1) := by decide +kernel
theorem dX11_judge_25 : decode cX11_judge 25 = .ok (.getfield 30, 3) := by decide +kernel
theorem dX11_judge_28 : decode cX11_judge 28 = .ok (.aload_n 0, 1) := by decide +kernel
theorem dX11_judge_29 : decode cX11_judge 29 = .ok (.getfield 26, 3) := by decide +kernel
theorem dX11_judge_32 : decode cX11_judge 32 = .ok (.invokevirtual 121, 3) := by decide +kernel
theorem dX11_judge_35 : decode cX11_judge 35 = .ok (.aload_n 0, 1) := by decide +kernel
theorem dX11_judge_36 : decode cX11_judge 36 = .ok (.aload_n 0, 1) := by decide +kernel
theorem dX11_judge_37 : decode cX11_judge 37 = .ok (.getfield 49, 3) := by decide +kernel
theorem dX11_judge_40 : decode cX11_judge 40 = .ok (.iload_n 1, 1) := by decide +kernel
theorem dX11_judge_41 : decode cX11_judge 41 = .ok (.aaload, 1) := by decide +kernel
theorem dX11_judge_42 : decode cX11_judge 42 = .ok (.aload_n 0, 1) := by decide +kernel
theorem dX11_judge_43 : decode cX11_judge 43 = .ok (.getfield 30, 3) := by decide +kernel
theorem dX11_judge_46 : decode cX11_judge 46 = .ok (.invokevirtual 228, 3) := by decide +kernel
theorem dX11_judge_49 : decode cX11_judge 49 = .ok (.istore 4, 2) := by decide +kernel
theorem dX11_judge_51 : decode cX11_judge 51 = .ok (.iload 4, 2) := by decide +kernel
theorem dX11_judge_53 : decode cX11_judge 53 = .ok (.aload_n 0, 1) := by decide +kernel
theorem dX11_judge_54 : decode cX11_judge 54 = .ok (.getfield 49, 3) := by decide +kernel
theorem dX11_judge_57 : decode cX11_judge 57 = .ok (.iload_n 1, 1) := by decide +kernel
theorem dX11_judge_58 : decode cX11_judge 58 = .ok (.aaload, 1) := by decide +kernel
theorem dX11_judge_59 : decode cX11_judge 59 = .ok (.getfield 232, 3) := by decide +kernel
theorem dX11_judge_62 : decode cX11_judge 62 = .ok (.if_icmp .ne 7, 3) := by decide +kernel
theorem dX11_judge_65 : decode cX11_judge 65 = .ok (.iconst 1, 1) := by decide +kernel
theorem dX11_judge_66 : decode cX11_judge 66 = .ok (.goto 4, 3) := by decide +kernel
theorem dX11_judge_69 : decode cX11_judge 69 = .ok (.iconst 0, 1) := by decide +kernel
theorem dX11_judge_70 : decode cX11_judge 70 = .ok (.istore 5, 2) := by decide +kernel
theorem dX11_judge_72 : decode cX11_judge 72 = .ok (.iload_n 2, 1) := by decide +kernel
theorem dX11_judge_73 : decode cX11_judge 73 = .ok (.tableswitch 91 0 2 #[27, 39, 76], 27) := by decide +kernel
theorem dX11_judge_100 : decode cX11_judge 100 = .ok (.iload 5, 2) := by decide +kernel
theorem dX11_judge_102 : decode cX11_judge 102 = .ok (.ifCond .eq 7, 3) := by decide +kernel
theorem dX11_judge_105 : decode cX11_judge 105 = .ok (.iconst (-1), 1) := by decide +kernel
theorem dX11_judge_106 : decode cX11_judge 106 = .ok (.goto 5, 3) := by decide +kernel
theorem dX11_judge_109 : decode cX11_judge 109 = .ok (.iload 4, 2) := by decide +kernel
theorem dX11_judge_111 : decode cX11_judge 111 = .ok (.ireturn, 1) := by decide +kernel
theorem dX11_judge_112 : decode cX11_judge 112 = .ok (.iload 5, 2) := by decide +kernel
theorem dX11_judge_114 : decode cX11_judge 114 = .ok (.ifCond .eq 7, 3) := by decide +kernel
theorem dX11_judge_117 : decode cX11_judge 117 = .ok (.iconst 0, 1) := by decide +kernel
theorem dX11_judge_118 : decode cX11_judge 118 = .ok (.goto 30, 3) := by decide +kernel
theorem dX11_judge_121 : decode cX11_judge 121 = .ok (.aload_n 0, 1) := by decide +kernel
theorem dX11_judge_122 : decode cX11_judge 122 = .ok (.getfield 36, 3) := by decide +kernel
theorem dX11_judge_125 : decode cX11_judge 125 = .ok (.aload_n 0, 1) := by decide +kernel
theorem dX11_judge_126 : decode cX11_judge 126 = .ok (.getfield 19, 3) := by decide +kernel
theorem dX11_judge_129 : decode cX11_judge 129 = .ok (.aload_n 0, 1) := by decide +kernel
theorem dX11_judge_130 : decode cX11_judge 130 = .ok (.getfield 30, 3) := by decide +kernel
theorem dX11_judge_133 : decode cX11_judge 133 = .ok (.aload_n 0, 1) := by decide +kernel
theorem dX11_judge_134 : decode cX11_judge 134 = .ok (.getfield 49, 3) := by decide +kernel
theorem dX11_judge_137 : decode cX11_judge 137 = .ok (.iload_n 1, 1) := by decide +kernel
theorem dX11_judge_138 : decode cX11_judge 138 = .ok (.aaload, 1) := by decide +kernel
theorem dX11_judge_139 : decode cX11_judge 139 = .ok (.getfield 233, 3) := by decide +kernel
theorem dX11_judge_142 : decode cX11_judge 142 = .ok (.iload 4, 2) := by decide +kernel
theorem dX11_judge_144 : decode cX11_judge 144 = .ok (.laload, 1) := by decide +kernel
theorem dX11_judge_145 : decode cX11_judge 145 = .ok (.invokevirtual 237, 3) := by decide +kernel
theorem dX11_judge_148 : decode cX11_judge 148 = .ok (.ireturn, 1) := by decide +kernel
theorem dX11_judge_149 : decode cX11_judge 149 = .ok (.aload_n 0, 1) := by decide +kernel
theorem dX11_judge_150 : decode cX11_judge 150 = .ok (.getfield 30, 3) := by decide +kernel
theorem dX11_judge_153 : decode cX11_judge 153 = .ok (.aload_n 0, 1) := by decide +kernel
theorem dX11_judge_154 : decode cX11_judge 154 = .ok (.getfield 19, 3) := by decide +kernel
theorem dX11_judge_157 : decode cX11_judge 157 = .ok (.invokevirtual 194, 3) := by decide +kernel
theorem dX11_judge_160 : decode cX11_judge 160 = .ok (.invokevirtual 241, 3) := by decide +kernel
theorem dX11_judge_163 : decode cX11_judge 163 = .ok (.ireturn, 1) := by decide +kernel
theorem dX11_judge_164 : decode cX11_judge 164 = .ok (.aload_n 0, 1) := by decide +kernel
theorem dX11_judge_165 : decode cX11_judge 165 = .ok (.getfield 30, 3) := by decide +kernel
theorem dX11_judge_168 : decode cX11_judge 168 = .ok (.getfield 148, 3) := by decide +kernel
theorem dX11_judge_171 : decode cX11_judge 171 = .ok (.ireturn, 1) := by decide +kernel
theorem dX11_perform_0 : decode cX11_perform 0 = .ok (.aload_n 0, 1) := by decide +kernel
theorem dX11_perform_1 : decode cX11_perform 1 = .ok (.iload_n 1, 1) := by decide +kernel
theorem dX11_perform_2 : decode cX11_perform 2 = .ok (.invokevirtual 225, 3) := by decide +kernel
theorem dX11_perform_5 : decode cX11_perform 5 = .ok (.istore_n 2, 1) := by decide +kernel
theorem dX11_perform_6 : decode cX11_perform 6 = .ok (.iload_n 2, 1) := by decide +kernel
theorem dX11_perform_7 : decode cX11_perform 7 = .ok (.ifCond .eq 5, 3) := by decide +kernel
theorem dX11_perform_10 : decode cX11_perform 10 = .ok (.iload_n 2, 1) := by decide +kernel
theorem dX11_perform_11 : decode cX11_perform 11 = .ok (.ireturn, 1) := by decide +kernel
theorem dX11_perform_12 : decode cX11_perform 12 = .ok (.aload_n 0, 1) := by decide +kernel
theorem dX11_perform_13 : decode cX11_perform 13 = .ok (.getfield 43, 3) := by decide +kernel
theorem dX11_perform_16 : decode cX11_perform 16 = .ok (.aload_n 0, 1) := by decide +kernel
theorem dX11_perform_17 : decode cX11_perform 17 = .ok (.getfield 26, 3) := by decide +kernel
theorem dX11_perform_20 : decode cX11_perform 20 = .ok (.invokevirtual 178, 3) := by decide +kernel
theorem dX11_perform_23 : decode cX11_perform 23 = .ok (.aload_n 0, 1) := by decide +kernel
theorem dX11_perform_24 : decode cX11_perform 24 = .ok (.aload_n 0, 1) := by decide +kernel
theorem dX11_perform_25 : decode cX11_perform 25 = .ok (.aload_n 0, 1) := by decide +kernel
theorem dX11_perform_26 : decode cX11_perform 26 = .ok (.getfield 49, 3) := by decide +kernel
theorem dX11_perform_29 : decode cX11_perform 29 = .ok (.iload_n 1, 1) := by decide +kernel
theorem dX11_perform_30 : decode cX11_perform 30 = .ok (.aaload, 1) := by decide +kernel
theorem dX11_perform_31 : decode cX11_perform 31 = .ok (.aload_n 0, 1) := by decide +kernel
theorem dX11_perform_32 : decode cX11_perform 32 = .ok (.getfield 26, 3) := by decide +kernel
theorem dX11_perform_35 : decode cX11_perform 35 = .ok (.invokevirtual 228, 3) := by decide +kernel
theorem dX11_perform_38 : decode cX11_perform 38 = .ok (.invokevirtual 244, 3) := by decide +kernel
theorem dX11_perform_41 : decode cX11_perform 41 = .ok (.ireturn, 1) := by decide +kernel
theorem dX11_day_0 : decode cX11_day 0 = .ok (.iload_n 2, 1) := by decide +kernel
theorem dX11_day_1 : decode cX11_day 1 = .ok (.iconst 1, 1) := by decide +kernel
theorem dX11_day_2 : decode cX11_day 2 = .ok (.if_icmp .lt 9, 3) := by decide +kernel
theorem dX11_day_5 : decode cX11_day 5 = .ok (.iload_n 2, 1) := by decide +kernel
theorem dX11_day_6 : decode cX11_day 6 = .ok (.bipush 40, 2) := by decide +kernel
theorem dX11_day_8 : decode cX11_day 8 = .ok (.if_icmp .le 6, 3) := by decide +kernel
theorem dX11_day_11 : decode cX11_day 11 = .ok (.bipush (-3), 2) := by decide +kernel
theorem dX11_day_13 : decode cX11_day 13 = .ok (.ireturn, 1) := by decide +kernel
theorem dX11_day_14 : decode cX11_day 14 = .ok (.aload_n 0, 1) := by decide +kernel
theorem dX11_day_15 : decode cX11_day 15 = .ok (.getfield 43, 3) := by decide +kernel
theorem dX11_day_18 : decode cX11_day 18 = .ok (.aload_n 0, 1) := by decide +kernel
theorem dX11_day_19 : decode cX11_day 19 = .ok (.getfield 26, 3) := by decide +kernel
theorem dX11_day_22 : decode cX11_day 22 = .ok (.invokevirtual 178, 3) := by decide +kernel
theorem dX11_day_25 : decode cX11_day 25 = .ok (.aload_n 0, 1) := by decide +kernel
theorem dX11_day_26 : decode cX11_day 26 = .ok (.iload_n 1, 1) := by decide +kernel
theorem dX11_day_27 : decode cX11_day 27 = .ok (.putfield 247, 3) := by decide +kernel
theorem dX11_day_30 : decode cX11_day 30 = .ok (.iconst 0, 1) := by decide +kernel
theorem dX11_day_31 : decode cX11_day 31 = .ok (.istore_n 3, 1) := by decide +kernel
theorem dX11_day_32 : decode cX11_day 32 = .ok (.iconst 0, 1) := by decide +kernel
theorem dX11_day_33 : decode cX11_day 33 = .ok (.istore 4, 2) := by decide +kernel
theorem dX11_day_35 : decode cX11_day 35 = .ok (.iload 4, 2) := by decide +kernel
theorem dX11_day_37 : decode cX11_day 37 = .ok (.iload_n 2, 1) := by decide +kernel
theorem dX11_day_38 : decode cX11_day 38 = .ok (.if_icmp .ge 35, 3) := by decide +kernel
theorem dX11_day_41 : decode cX11_day 41 = .ok (.aload_n 0, 1) := by decide +kernel
theorem dX11_day_42 : decode cX11_day 42 = .ok (.getfield 36, 3) := by decide +kernel
theorem dX11_day_45 : decode cX11_day 45 = .ok (.aload_n 0, 1) := by decide +kernel
theorem dX11_day_46 : decode cX11_day 46 = .ok (.getfield 19, 3) := by decide +kernel
theorem dX11_day_49 : decode cX11_day 49 = .ok (.aload_n 0, 1) := by decide +kernel
theorem dX11_day_50 : decode cX11_day 50 = .ok (.getfield 26, 3) := by decide +kernel
theorem dX11_day_53 : decode cX11_day 53 = .ok (.aload_n 0, 1) := by decide +kernel
theorem dX11_day_54 : decode cX11_day 54 = .ok (.invokevirtual 250, 3) := by decide +kernel
theorem dX11_day_57 : decode cX11_day 57 = .ok (.i2l, 1) := by decide +kernel
theorem dX11_day_58 : decode cX11_day 58 = .ok (.invokevirtual 237, 3) := by decide +kernel
theorem dX11_day_61 : decode cX11_day 61 = .ok (.ifCond .ne 6, 3) := by decide +kernel
theorem dX11_day_64 : decode cX11_day 64 = .ok (.iinc 3 1, 3) := by decide +kernel
theorem dX11_day_67 : decode cX11_day 67 = .ok (.iinc 4 1, 3) := by decide +kernel
theorem dX11_day_70 : decode cX11_day 70 = .ok (.goto (-35), 3) := by decide +kernel
theorem dX11_day_73 : decode cX11_day 73 = .ok (.aload_n 0, 1) := by decide +kernel
theorem dX11_day_74 : decode cX11_day 74 = .ok (.iload_n 3, 1) := by decide +kernel
theorem dX11_day_75 : decode cX11_day 75 = .ok (.invokevirtual 244, 3) := by decide +kernel
theorem dX11_day_78 : decode cX11_day 78 = .ok (.ireturn, 1) := by decide +kernel
theorem dX11_falls_0 : decode cX11_falls 0 = .ok (.aload_n 0, 1) := by decide +kernel
theorem dX11_falls_1 : decode cX11_falls 1 = .ok (.iload_n 1, 1) := by decide +kernel
theorem dX11_falls_2 : decode cX11_falls 2 = .ok (.invokevirtual 139, 3) := by decide +kernel
theorem dX11_falls_5 : decode cX11_falls 5 = .ok (.ifCond .ne 6, 3) := by decide +kernel
theorem dX11_falls_8 : decode cX11_falls 8 = .ok (.bipush (-2), 2) := by decide +kernel
theorem dX11_falls_10 : decode cX11_falls 10 = .ok (.ireturn, 1) := by decide +kernel
theorem dX11_falls_11 : decode cX11_falls 11 = .ok (.aload_n 0, 1) := by decide +kernel
theorem dX11_falls_12 : decode cX11_falls 12 = .ok (.getfield 26, 3) := by decide +kernel
theorem dX11_falls_15 : decode cX11_falls 15 = .ok (.getfield 148, 3) := by decide +kernel
theorem dX11_falls_18 : decode cX11_falls 18 = .ok (.iload_n 1, 1) := by decide +kernel
theorem dX11_falls_19 : decode cX11_falls 19 = .ok (.ishr, 1) := by decide +kernel
theorem dX11_falls_20 : decode cX11_falls 20 = .ok (.iconst 1, 1) := by decide +kernel
theorem dX11_falls_21 : decode cX11_falls 21 = .ok (.iand, 1) := by decide +kernel
theorem dX11_falls_22 : decode cX11_falls 22 = .ok (.ifCond .ne 5, 3) := by decide +kernel
theorem dX11_falls_25 : decode cX11_falls 25 = .ok (.iconst (-1), 1) := by decide +kernel
theorem dX11_falls_26 : decode cX11_falls 26 = .ok (.ireturn, 1) := by decide +kernel
theorem dX11_falls_27 : decode cX11_falls 27 = .ok (.aload_n 0, 1) := by decide +kernel
theorem dX11_falls_28 : decode cX11_falls 28 = .ok (.getfield 30, 3) := by decide +kernel
theorem dX11_falls_31 : decode cX11_falls 31 = .ok (.aload_n 0, 1) := by decide +kernel
theorem dX11_falls_32 : decode cX11_falls 32 = .ok (.getfield 26, 3) := by decide +kernel
theorem dX11_falls_35 : decode cX11_falls 35 = .ok (.invokevirtual 121, 3) := by decide +kernel
theorem dX11_falls_38 : decode cX11_falls 38 = .ok (.iconst 1, 1) := by decide +kernel
theorem dX11_falls_39 : decode cX11_falls 39 = .ok (.istore_n 2, 1) := by decide +kernel
theorem dX11_falls_40 : decode cX11_falls 40 = .ok (.iload_n 2, 1) := by decide +kernel
theorem dX11_falls_41 : decode cX11_falls 41 = .ok (.bipush 60, 2) := by decide +kernel
theorem dX11_falls_43 : decode cX11_falls 43 = .ok (.if_icmp .gt 41, 3) := by decide +kernel
theorem dX11_falls_46 : decode cX11_falls 46 = .ok (.aload_n 0, 1) := by decide +kernel
theorem dX11_falls_47 : decode cX11_falls 47 = .ok (.getfield 36, 3) := by decide +kernel
theorem dX11_falls_50 : decode cX11_falls 50 = .ok (.aload_n 0, 1) := by decide +kernel
theorem dX11_falls_51 : decode cX11_falls 51 = .ok (.getfield 19, 3) := by decide +kernel
theorem dX11_falls_54 : decode cX11_falls 54 = .ok (.aload_n 0, 1) := by decide +kernel
theorem dX11_falls_55 : decode cX11_falls 55 = .ok (.getfield 30, 3) := by decide +kernel
theorem dX11_falls_58 : decode cX11_falls 58 = .ok (.invokevirtual 181, 3) := by decide +kernel
theorem dX11_falls_61 : decode cX11_falls 61 = .ok (.pop, 1) := by decide +kernel
theorem dX11_falls_62 : decode cX11_falls 62 = .ok (.aload_n 0, 1) := by decide +kernel
theorem dX11_falls_63 : decode cX11_falls 63 = .ok (.getfield 30, 3) := by decide +kernel
theorem dX11_falls_66 : decode cX11_falls 66 = .ok (.getfield 148, 3) := by decide +kernel
theorem dX11_falls_69 : decode cX11_falls 69 = .ok (.iload_n 1, 1) := by decide +kernel
theorem dX11_falls_70 : decode cX11_falls 70 = .ok (.ishr, 1) := by decide +kernel
theorem dX11_falls_71 : decode cX11_falls 71 = .ok (.iconst 1, 1) := by decide +kernel
theorem dX11_falls_72 : decode cX11_falls 72 = .ok (.iand, 1) := by decide +kernel
theorem dX11_falls_73 : decode cX11_falls 73 = .ok (.ifCond .ne 5, 3) := by decide +kernel
theorem dX11_falls_76 : decode cX11_falls 76 = .ok (.iload_n 2, 1) := by decide +kernel
theorem dX11_falls_77 : decode cX11_falls 77 = .ok (.ireturn, 1) := by decide +kernel
theorem dX11_falls_78 : decode cX11_falls 78 = .ok (.iinc 2 1, 3) := by decide +kernel
theorem dX11_falls_81 : decode cX11_falls 81 = .ok (.goto (-41), 3) := by decide +kernel
theorem dX11_falls_84 : decode cX11_falls 84 = .ok (.iconst (-1), 1) := by decide +kernel
theorem dX11_falls_85 : decode cX11_falls 85 = .ok (.ireturn, 1) := by decide +kernel
theorem dX11_stands_0 : decode cX11_stands 0 = .ok (.iload_n 1, 1) := by decide +kernel
theorem dX11_stands_1 : decode cX11_stands 1 = .ok (.invokestatic 253, 3) := by decide +kernel
theorem dX11_stands_4 : decode cX11_stands 4 = .ok (.ifCond .ne 6, 3) := by decide +kernel
theorem dX11_stands_7 : decode cX11_stands 7 = .ok (.bipush (-3), 2) := by decide +kernel
theorem dX11_stands_9 : decode cX11_stands 9 = .ok (.ireturn, 1) := by decide +kernel
theorem dX11_stands_10 : decode cX11_stands 10 = .ok (.aload_n 0, 1) := by decide +kernel
theorem dX11_stands_11 : decode cX11_stands 11 = .ok (.iload_n 1, 1) := by decide +kernel
theorem dX11_stands_12 : decode cX11_stands 12 = .ok (.invokevirtual 256, 3) := by decide +kernel
theorem dX11_stands_15 : decode cX11_stands 15 = .ok (.aload_n 0, 1) := by decide +kernel
theorem dX11_stands_16 : decode cX11_stands 16 = .ok (.getfield 30, 3) := by decide +kernel
theorem dX11_stands_19 : decode cX11_stands 19 = .ok (.getfield 148, 3) := by decide +kernel
theorem dX11_stands_22 : decode cX11_stands 22 = .ok (.ireturn, 1) := by decide +kernel
theorem dX11_when_0 : decode cX11_when 0 = .ok (.aload_n 0, 1) := by decide +kernel
theorem dX11_when_1 : decode cX11_when 1 = .ok (.iload_n 1, 1) := by decide +kernel
theorem dX11_when_2 : decode cX11_when 2 = .ok (.invokevirtual 133, 3) := by decide +kernel
theorem dX11_when_5 : decode cX11_when 5 = .ok (.ifCond .ne 6, 3) := by decide +kernel
theorem dX11_when_8 : decode cX11_when 8 = .ok (.bipush (-2), 2) := by decide +kernel
theorem dX11_when_10 : decode cX11_when 10 = .ok (.ireturn, 1) := by decide +kernel
theorem dX11_when_11 : decode cX11_when 11 = .ok (.aload_n 0, 1) := by decide +kernel
theorem dX11_when_12 : decode cX11_when 12 = .ok (.getfield 30, 3) := by decide +kernel
theorem dX11_when_15 : decode cX11_when 15 = .ok (.aload_n 0, 1) := by decide +kernel
theorem dX11_when_16 : decode cX11_when 16 = .ok (.getfield 26, 3) := by decide +kernel
theorem dX11_when_19 : decode cX11_when 19 = .ok (.invokevirtual 121, 3) := by decide +kernel
theorem dX11_when_22 : decode cX11_when 22 = .ok (.iconst 1, 1) := by decide +kernel
theorem dX11_when_23 : decode cX11_when 23 = .ok (.istore_n 2, 1) := by decide +kernel
theorem dX11_when_24 : decode cX11_when 24 = .ok (.iload_n 2, 1) := by decide +kernel
theorem dX11_when_25 : decode cX11_when 25 = .ok (.bipush 60, 2) := by decide +kernel
theorem dX11_when_27 : decode cX11_when 27 = .ok (.if_icmp .gt 33, 3) := by decide +kernel
theorem dX11_when_30 : decode cX11_when 30 = .ok (.aload_n 0, 1) := by decide +kernel
theorem dX11_when_31 : decode cX11_when 31 = .ok (.getfield 36, 3) := by decide +kernel
theorem dX11_when_34 : decode cX11_when 34 = .ok (.aload_n 0, 1) := by decide +kernel
theorem dX11_when_35 : decode cX11_when 35 = .ok (.getfield 19, 3) := by decide +kernel
theorem dX11_when_38 : decode cX11_when 38 = .ok (.aload_n 0, 1) := by decide +kernel
theorem dX11_when_39 : decode cX11_when 39 = .ok (.getfield 30, 3) := by decide +kernel
theorem dX11_when_42 : decode cX11_when 42 = .ok (.invokevirtual 181, 3) := by decide +kernel
theorem dX11_when_45 : decode cX11_when 45 = .ok (.iload_n 1, 1) := by decide +kernel
theorem dX11_when_46 : decode cX11_when 46 = .ok (.ishr, 1) := by decide +kernel
theorem dX11_when_47 : decode cX11_when 47 = .ok (.iconst 1, 1) := by decide +kernel
theorem dX11_when_48 : decode cX11_when 48 = .ok (.iand, 1) := by decide +kernel
theorem dX11_when_49 : decode cX11_when 49 = .ok (.ifCond .eq 5, 3) := by decide +kernel
theorem dX11_when_52 : decode cX11_when 52 = .ok (.iload_n 2, 1) := by decide +kernel
theorem dX11_when_53 : decode cX11_when 53 = .ok (.ireturn, 1) := by decide +kernel
theorem dX11_when_54 : decode cX11_when 54 = .ok (.iinc 2 1, 3) := by decide +kernel
theorem dX11_when_57 : decode cX11_when 57 = .ok (.goto (-33), 3) := by decide +kernel
theorem dX11_when_60 : decode cX11_when 60 = .ok (.iconst (-1), 1) := by decide +kernel
theorem dX11_when_61 : decode cX11_when 61 = .ok (.ireturn, 1) := by decide +kernel
theorem dX11_worn_0 : decode cX11_worn 0 = .ok (.aload_n 0, 1) := by decide +kernel
theorem dX11_worn_1 : decode cX11_worn 1 = .ok (.iload_n 1, 1) := by decide +kernel
theorem dX11_worn_2 : decode cX11_worn 2 = .ok (.invokevirtual 133, 3) := by decide +kernel
theorem dX11_worn_5 : decode cX11_worn 5 = .ok (.ifCond .ne 6, 3) := by decide +kernel
theorem dX11_worn_8 : decode cX11_worn 8 = .ok (.bipush (-2), 2) := by decide +kernel
theorem dX11_worn_10 : decode cX11_worn 10 = .ok (.ireturn, 1) := by decide +kernel
theorem dX11_worn_11 : decode cX11_worn 11 = .ok (.iload_n 2, 1) := by decide +kernel
theorem dX11_worn_12 : decode cX11_worn 12 = .ok (.invokestatic 253, 3) := by decide +kernel
theorem dX11_worn_15 : decode cX11_worn 15 = .ok (.ifCond .ne 6, 3) := by decide +kernel
theorem dX11_worn_18 : decode cX11_worn 18 = .ok (.bipush (-3), 2) := by decide +kernel
theorem dX11_worn_20 : decode cX11_worn 20 = .ok (.ireturn, 1) := by decide +kernel
theorem dX11_worn_21 : decode cX11_worn 21 = .ok (.aload_n 0, 1) := by decide +kernel
theorem dX11_worn_22 : decode cX11_worn 22 = .ok (.iload_n 2, 1) := by decide +kernel
theorem dX11_worn_23 : decode cX11_worn 23 = .ok (.invokevirtual 256, 3) := by decide +kernel
theorem dX11_worn_26 : decode cX11_worn 26 = .ok (.aload_n 0, 1) := by decide +kernel
theorem dX11_worn_27 : decode cX11_worn 27 = .ok (.getfield 30, 3) := by decide +kernel
theorem dX11_worn_30 : decode cX11_worn 30 = .ok (.getfield 136, 3) := by decide +kernel
theorem dX11_worn_33 : decode cX11_worn 33 = .ok (.iload_n 1, 1) := by decide +kernel
theorem dX11_worn_34 : decode cX11_worn 34 = .ok (.iaload, 1) := by decide +kernel
theorem dX11_worn_35 : decode cX11_worn 35 = .ok (.ireturn, 1) := by decide +kernel
theorem dX11_last_0 : decode cX11_last 0 = .ok (.aload_n 0, 1) := by decide +kernel
theorem dX11_last_1 : decode cX11_last 1 = .ok (.getfield 26, 3) := by decide +kernel
theorem dX11_last_4 : decode cX11_last 4 = .ok (.getfield 148, 3) := by decide +kernel
theorem dX11_last_7 : decode cX11_last 7 = .ok (.ifCond .ne 5, 3) := by decide +kernel
theorem dX11_last_10 : decode cX11_last 10 = .ok (.iconst (-1), 1) := by decide +kernel
theorem dX11_last_11 : decode cX11_last 11 = .ok (.ireturn, 1) := by decide +kernel
theorem dX11_last_12 : decode cX11_last 12 = .ok (.aload_n 0, 1) := by decide +kernel
theorem dX11_last_13 : decode cX11_last 13 = .ok (.getfield 30, 3) := by decide +kernel
theorem dX11_last_16 : decode cX11_last 16 = .ok (.aload_n 0, 1) := by decide +kernel
theorem dX11_last_17 : decode cX11_last 17 = .ok (.getfield 26, 3) := by decide +kernel
theorem dX11_last_20 : decode cX11_last 20 = .ok (.invokevirtual 121, 3) := by decide +kernel
theorem dX11_last_23 : decode cX11_last 23 = .ok (.aload_n 0, 1) := by decide +kernel
theorem dX11_last_24 : decode cX11_last 24 = .ok (.getfield 26, 3) := by decide +kernel
theorem dX11_last_27 : decode cX11_last 27 = .ok (.getfield 148, 3) := by decide +kernel
theorem dX11_last_30 : decode cX11_last 30 = .ok (.istore_n 1, 1) := by decide +kernel
theorem dX11_last_31 : decode cX11_last 31 = .ok (.iconst 1, 1) := by decide +kernel
theorem dX11_last_32 : decode cX11_last 32 = .ok (.istore_n 2, 1) := by decide +kernel
theorem dX11_last_33 : decode cX11_last 33 = .ok (.iload_n 2, 1) := by decide +kernel
theorem dX11_last_34 : decode cX11_last 34 = .ok (.bipush 60, 2) := by decide +kernel
theorem dX11_last_36 : decode cX11_last 36 = .ok (.if_icmp .gt 43, 3) := by decide +kernel
theorem dX11_last_39 : decode cX11_last 39 = .ok (.aload_n 0, 1) := by decide +kernel
theorem dX11_last_40 : decode cX11_last 40 = .ok (.getfield 30, 3) := by decide +kernel
theorem dX11_last_43 : decode cX11_last 43 = .ok (.getfield 148, 3) := by decide +kernel
theorem dX11_last_46 : decode cX11_last 46 = .ok (.ifCond .eq 33, 3) := by decide +kernel
theorem dX11_last_49 : decode cX11_last 49 = .ok (.aload_n 0, 1) := by decide +kernel
theorem dX11_last_50 : decode cX11_last 50 = .ok (.getfield 30, 3) := by decide +kernel
theorem dX11_last_53 : decode cX11_last 53 = .ok (.getfield 148, 3) := by decide +kernel
theorem dX11_last_56 : decode cX11_last 56 = .ok (.istore_n 1, 1) := by decide +kernel
theorem dX11_last_57 : decode cX11_last 57 = .ok (.aload_n 0, 1) := by decide +kernel
theorem dX11_last_58 : decode cX11_last 58 = .ok (.getfield 36, 3) := by decide +kernel
theorem dX11_last_61 : decode cX11_last 61 = .ok (.aload_n 0, 1) := by decide +kernel
theorem dX11_last_62 : decode cX11_last 62 = .ok (.getfield 19, 3) := by decide +kernel
theorem dX11_last_65 : decode cX11_last 65 = .ok (.aload_n 0, 1) := by decide +kernel
theorem dX11_last_66 : decode cX11_last 66 = .ok (.getfield 30, 3) := by decide +kernel
theorem dX11_last_69 : decode cX11_last 69 = .ok (.invokevirtual 181, 3) := by decide +kernel
theorem dX11_last_72 : decode cX11_last 72 = .ok (.pop, 1) := by decide +kernel
theorem dX11_last_73 : decode cX11_last 73 = .ok (.iinc 2 1, 3) := by decide +kernel
theorem dX11_last_76 : decode cX11_last 76 = .ok (.goto (-43), 3) := by decide +kernel
theorem dX11_last_79 : decode cX11_last 79 = .ok (.aload_n 0, 1) := by decide +kernel
theorem dX11_last_80 : decode cX11_last 80 = .ok (.getfield 30, 3) := by decide +kernel
theorem dX11_last_83 : decode cX11_last 83 = .ok (.getfield 148, 3) := by decide +kernel
theorem dX11_last_86 : decode cX11_last 86 = .ok (.ifCond .eq 11, 3) := by decide +kernel
theorem dX11_last_89 : decode cX11_last 89 = .ok (.aload_n 0, 1) := by decide +kernel
theorem dX11_last_90 : decode cX11_last 90 = .ok (.getfield 30, 3) := by decide +kernel
theorem dX11_last_93 : decode cX11_last 93 = .ok (.getfield 148, 3) := by decide +kernel
theorem dX11_last_96 : decode cX11_last 96 = .ok (.istore_n 1, 1) := by decide +kernel
theorem dX11_last_97 : decode cX11_last 97 = .ok (.iload_n 1, 1) := by decide +kernel
theorem dX11_last_98 : decode cX11_last 98 = .ok (.invokestatic 259, 3) := by decide +kernel
theorem dX11_last_101 : decode cX11_last 101 = .ok (.ireturn, 1) := by decide +kernel
theorem dX11_owner_0 : decode cX11_owner 0 = .ok (.iload_n 1, 1) := by decide +kernel
theorem dX11_owner_1 : decode cX11_owner 1 = .ok (.invokestatic 253, 3) := by decide +kernel
theorem dX11_owner_4 : decode cX11_owner 4 = .ok (.ifCond .ne 6, 3) := by decide +kernel
theorem dX11_owner_7 : decode cX11_owner 7 = .ok (.bipush (-3), 2) := by decide +kernel
theorem dX11_owner_9 : decode cX11_owner 9 = .ok (.ireturn, 1) := by decide +kernel
theorem dX11_owner_10 : decode cX11_owner 10 = .ok (.aload_n 0, 1) := by decide +kernel
theorem dX11_owner_11 : decode cX11_owner 11 = .ok (.iload_n 1, 1) := by decide +kernel
theorem dX11_owner_12 : decode cX11_owner 12 = .ok (.invokevirtual 256, 3) := by decide +kernel
theorem dX11_owner_15 : decode cX11_owner 15 = .ok (.iconst (-1), 1) := by decide +kernel
theorem dX11_owner_16 : decode cX11_owner 16 = .ok (.istore_n 2, 1) := by decide +kernel
theorem dX11_owner_17 : decode cX11_owner 17 = .ok (.iconst 0, 1) := by decide +kernel
theorem dX11_owner_18 : decode cX11_owner 18 = .ok (.istore_n 3, 1) := by decide +kernel
theorem dX11_owner_19 : decode cX11_owner 19 = .ok (.iconst 0, 1) := by decide +kernel
theorem dX11_owner_20 : decode cX11_owner 20 = .ok (.istore 4, 2) := by decide +kernel
theorem dX11_owner_22 : decode cX11_owner 22 = .ok (.iload 4, 2) := by decide +kernel
theorem dX11_owner_24 : decode cX11_owner 24 = .ok (.iconst 5, 1) := by decide +kernel
theorem dX11_owner_25 : decode cX11_owner 25 = .ok (.if_icmp .ge 32, 3) := by decide +kernel
theorem dX11_owner_28 : decode cX11_owner 28 = .ok (.aload_n 0, 1) := by decide +kernel
theorem dX11_owner_29 : decode cX11_owner 29 = .ok (.getfield 30, 3) := by decide +kernel
theorem dX11_owner_32 : decode cX11_owner 32 = .ok (.iload 4, 2) := by decide +kernel
theorem dX11_owner_34 : decode cX11_owner 34 = .ok (.invokevirtual 262, 3) := by decide +kernel
theorem dX11_owner_37 : decode cX11_owner 37 = .ok (.istore 5, 2) := by decide +kernel
theorem dX11_owner_39 : decode cX11_owner 39 = .ok (.iload 5, 2) := by decide +kernel
theorem dX11_owner_41 : decode cX11_owner 41 = .ok (.iload_n 3, 1) := by decide +kernel
theorem dX11_owner_42 : decode cX11_owner 42 = .ok (.if_icmp .le 9, 3) := by decide +kernel
theorem dX11_owner_45 : decode cX11_owner 45 = .ok (.iload 5, 2) := by decide +kernel
theorem dX11_owner_47 : decode cX11_owner 47 = .ok (.istore_n 3, 1) := by decide +kernel
theorem dX11_owner_48 : decode cX11_owner 48 = .ok (.iload 4, 2) := by decide +kernel
theorem dX11_owner_50 : decode cX11_owner 50 = .ok (.istore_n 2, 1) := by decide +kernel
theorem dX11_owner_51 : decode cX11_owner 51 = .ok (.iinc 4 1, 3) := by decide +kernel
theorem dX11_owner_54 : decode cX11_owner 54 = .ok (.goto (-32), 3) := by decide +kernel
theorem dX11_owner_57 : decode cX11_owner 57 = .ok (.iload_n 2, 1) := by decide +kernel
theorem dX11_owner_58 : decode cX11_owner 58 = .ok (.ireturn, 1) := by decide +kernel
theorem dX11_least_0 : decode cX11_least 0 = .ok (.aload_n 0, 1) := by decide +kernel
theorem dX11_least_1 : decode cX11_least 1 = .ok (.iload_n 1, 1) := by decide +kernel
theorem dX11_least_2 : decode cX11_least 2 = .ok (.invokevirtual 133, 3) := by decide +kernel
theorem dX11_least_5 : decode cX11_least 5 = .ok (.ifCond .ne 6, 3) := by decide +kernel
theorem dX11_least_8 : decode cX11_least 8 = .ok (.bipush (-2), 2) := by decide +kernel
theorem dX11_least_10 : decode cX11_least 10 = .ok (.ireturn, 1) := by decide +kernel
theorem dX11_least_11 : decode cX11_least 11 = .ok (.iload_n 2, 1) := by decide +kernel
theorem dX11_least_12 : decode cX11_least 12 = .ok (.i2l, 1) := by decide +kernel
theorem dX11_least_13 : decode cX11_least 13 = .ok (.invokestatic 170, 3) := by decide +kernel
theorem dX11_least_16 : decode cX11_least 16 = .ok (.ifCond .eq 26, 3) := by decide +kernel
theorem dX11_least_19 : decode cX11_least 19 = .ok (.aload_n 0, 1) := by decide +kernel
theorem dX11_least_20 : decode cX11_least 20 = .ok (.getfield 65, 3) := by decide +kernel
theorem dX11_least_23 : decode cX11_least 23 = .ok (.aload_n 0, 1) := by decide +kernel
theorem dX11_least_24 : decode cX11_least 24 = .ok (.getfield 19, 3) := by decide +kernel
theorem dX11_least_27 : decode cX11_least 27 = .ok (.aload_n 0, 1) := by decide +kernel
theorem dX11_least_28 : decode cX11_least 28 = .ok (.getfield 26, 3) := by decide +kernel
theorem dX11_least_31 : decode cX11_least 31 = .ok (.getfield 136, 3) := by decide +kernel
theorem dX11_least_34 : decode cX11_least 34 = .ok (.iload_n 1, 1) := by decide +kernel
theorem dX11_least_35 : decode cX11_least 35 = .ok (.iload_n 2, 1) := by decide +kernel
theorem dX11_least_36 : decode cX11_least 36 = .ok (.invokevirtual 265, 3) := by decide +kernel
theorem dX11_least_39 : decode cX11_least 39 = .ok (.goto 5, 3) := by decide +kernel
theorem dX11_least_42 : decode cX11_least 42 = .ok (.bipush (-3), 2) := by decide +kernel
theorem dX11_least_44 : decode cX11_least 44 = .ok (.ireturn, 1) := by decide +kernel
theorem dX11_safe_0 : decode cX11_safe 0 = .ok (.aload_n 0, 1) := by decide +kernel
theorem dX11_safe_1 : decode cX11_safe 1 = .ok (.iload_n 1, 1) := by decide +kernel
theorem dX11_safe_2 : decode cX11_safe 2 = .ok (.invokevirtual 133, 3) := by decide +kernel
theorem dX11_safe_5 : decode cX11_safe 5 = .ok (.ifCond .ne 6, 3) := by decide +kernel
theorem dX11_safe_8 : decode cX11_safe 8 = .ok (.bipush (-2), 2) := by decide +kernel
theorem dX11_safe_10 : decode cX11_safe 10 = .ok (.ireturn, 1) := by decide +kernel
theorem dX11_safe_11 : decode cX11_safe 11 = .ok (.iconst 0, 1) := by decide +kernel
theorem dX11_safe_12 : decode cX11_safe 12 = .ok (.istore_n 2, 1) := by decide +kernel
theorem dX11_safe_13 : decode cX11_safe 13 = .ok (.iconst 1, 1) := by decide +kernel
theorem dX11_safe_14 : decode cX11_safe 14 = .ok (.istore_n 3, 1) := by decide +kernel
theorem dX11_safe_15 : decode cX11_safe 15 = .ok (.iload_n 3, 1) := by decide +kernel
theorem dX11_safe_16 : decode cX11_safe 16 = .ok (.bipush 10, 2) := by decide +kernel
theorem dX11_safe_18 : decode cX11_safe 18 = .ok (.if_icmp .gt 33, 3) := by decide +kernel
theorem dX11_safe_21 : decode cX11_safe 21 = .ok (.aload_n 0, 1) := by decide +kernel
theorem dX11_safe_22 : decode cX11_safe 22 = .ok (.getfield 19, 3) := by decide +kernel
theorem dX11_safe_25 : decode cX11_safe 25 = .ok (.aload_n 0, 1) := by decide +kernel
theorem dX11_safe_26 : decode cX11_safe 26 = .ok (.getfield 26, 3) := by decide +kernel
theorem dX11_safe_29 : decode cX11_safe 29 = .ok (.getfield 136, 3) := by decide +kernel
theorem dX11_safe_32 : decode cX11_safe 32 = .ok (.iload_n 3, 1) := by decide +kernel
theorem dX11_safe_33 : decode cX11_safe 33 = .ok (.invokestatic 174, 3) := by decide +kernel
theorem dX11_safe_36 : decode cX11_safe 36 = .ok (.iload_n 1, 1) := by decide +kernel
theorem dX11_safe_37 : decode cX11_safe 37 = .ok (.ishr, 1) := by decide +kernel
theorem dX11_safe_38 : decode cX11_safe 38 = .ok (.iconst 1, 1) := by decide +kernel
theorem dX11_safe_39 : decode cX11_safe 39 = .ok (.iand, 1) := by decide +kernel
theorem dX11_safe_40 : decode cX11_safe 40 = .ok (.ifCond .ne 5, 3) := by decide +kernel
theorem dX11_safe_43 : decode cX11_safe 43 = .ok (.iload_n 3, 1) := by decide +kernel
theorem dX11_safe_44 : decode cX11_safe 44 = .ok (.istore_n 2, 1) := by decide +kernel
theorem dX11_safe_45 : decode cX11_safe 45 = .ok (.iinc 3 1, 3) := by decide +kernel
theorem dX11_safe_48 : decode cX11_safe 48 = .ok (.goto (-33), 3) := by decide +kernel
theorem dX11_safe_51 : decode cX11_safe 51 = .ok (.iload_n 2, 1) := by decide +kernel
theorem dX11_safe_52 : decode cX11_safe 52 = .ok (.ireturn, 1) := by decide +kernel
theorem dX11_worst_0 : decode cX11_worst 0 = .ok (.iconst 1, 1) := by decide +kernel
theorem dX11_worst_1 : decode cX11_worst 1 = .ok (.istore_n 1, 1) := by decide +kernel
theorem dX11_worst_2 : decode cX11_worst 2 = .ok (.iconst (-1), 1) := by decide +kernel
theorem dX11_worst_3 : decode cX11_worst 3 = .ok (.istore_n 2, 1) := by decide +kernel
theorem dX11_worst_4 : decode cX11_worst 4 = .ok (.aload_n 0, 1) := by decide +kernel
theorem dX11_worst_5 : decode cX11_worst 5 = .ok (.getfield 19, 3) := by decide +kernel
theorem dX11_worst_8 : decode cX11_worst 8 = .ok (.aload_n 0, 1) := by decide +kernel
theorem dX11_worst_9 : decode cX11_worst 9 = .ok (.getfield 26, 3) := by decide +kernel
theorem dX11_worst_12 : decode cX11_worst 12 = .ok (.getfield 136, 3) := by decide +kernel
theorem dX11_worst_15 : decode cX11_worst 15 = .ok (.iconst 0, 1) := by decide +kernel
theorem dX11_worst_16 : decode cX11_worst 16 = .ok (.invokestatic 174, 3) := by decide +kernel
theorem dX11_worst_19 : decode cX11_worst 19 = .ok (.invokestatic 188, 3) := by decide +kernel
theorem dX11_worst_22 : decode cX11_worst 22 = .ok (.istore_n 3, 1) := by decide +kernel
theorem dX11_worst_23 : decode cX11_worst 23 = .ok (.iconst 1, 1) := by decide +kernel
theorem dX11_worst_24 : decode cX11_worst 24 = .ok (.istore 4, 2) := by decide +kernel
theorem dX11_worst_26 : decode cX11_worst 26 = .ok (.iload 4, 2) := by decide +kernel
theorem dX11_worst_28 : decode cX11_worst 28 = .ok (.bipush 10, 2) := by decide +kernel
theorem dX11_worst_30 : decode cX11_worst 30 = .ok (.if_icmp .gt 49, 3) := by decide +kernel
theorem dX11_worst_33 : decode cX11_worst 33 = .ok (.aload_n 0, 1) := by decide +kernel
theorem dX11_worst_34 : decode cX11_worst 34 = .ok (.getfield 19, 3) := by decide +kernel
theorem dX11_worst_37 : decode cX11_worst 37 = .ok (.aload_n 0, 1) := by decide +kernel
theorem dX11_worst_38 : decode cX11_worst 38 = .ok (.getfield 26, 3) := by decide +kernel
theorem dX11_worst_41 : decode cX11_worst 41 = .ok (.getfield 136, 3) := by decide +kernel
theorem dX11_worst_44 : decode cX11_worst 44 = .ok (.iload 4, 2) := by decide +kernel
theorem dX11_worst_46 : decode cX11_worst 46 = .ok (.invokestatic 174, 3) := by decide +kernel
theorem dX11_worst_49 : decode cX11_worst 49 = .ok (.invokestatic 188, 3) := by decide +kernel
theorem dX11_worst_52 : decode cX11_worst 52 = .ok (.istore 5, 2) := by decide +kernel
theorem dX11_worst_54 : decode cX11_worst 54 = .ok (.iload 5, 2) := by decide +kernel
theorem dX11_worst_56 : decode cX11_worst 56 = .ok (.iload_n 3, 1) := by decide +kernel
theorem dX11_worst_57 : decode cX11_worst 57 = .ok (.isub, 1) := by decide +kernel
theorem dX11_worst_58 : decode cX11_worst 58 = .ok (.iload_n 2, 1) := by decide +kernel
theorem dX11_worst_59 : decode cX11_worst 59 = .ok (.if_icmp .le 11, 3) := by decide +kernel
theorem dX11_worst_62 : decode cX11_worst 62 = .ok (.iload 5, 2) := by decide +kernel
theorem dX11_worst_64 : decode cX11_worst 64 = .ok (.iload_n 3, 1) := by decide +kernel
theorem dX11_worst_65 : decode cX11_worst 65 = .ok (.isub, 1) := by decide +kernel
theorem dX11_worst_66 : decode cX11_worst 66 = .ok (.istore_n 2, 1) := by decide +kernel
theorem dX11_worst_67 : decode cX11_worst 67 = .ok (.iload 4, 2) := by decide +kernel
theorem dX11_worst_69 : decode cX11_worst 69 = .ok (.istore_n 1, 1) := by decide +kernel
theorem dX11_worst_70 : decode cX11_worst 70 = .ok (.iload 5, 2) := by decide +kernel
theorem dX11_worst_72 : decode cX11_worst 72 = .ok (.istore_n 3, 1) := by decide +kernel
theorem dX11_worst_73 : decode cX11_worst 73 = .ok (.iinc 4 1, 3) := by decide +kernel
theorem dX11_worst_76 : decode cX11_worst 76 = .ok (.goto (-50), 3) := by decide +kernel
theorem dX11_worst_79 : decode cX11_worst 79 = .ok (.iload_n 1, 1) := by decide +kernel
theorem dX11_worst_80 : decode cX11_worst 80 = .ok (.ireturn, 1) := by decide +kernel
theorem dX11_plan_0 : decode cX11_plan 0 = .ok (.iload_n 1, 1) := by decide +kernel
theorem dX11_plan_1 : decode cX11_plan 1 = .ok (.ifCond .lt 8, 3) := by decide +kernel
theorem dX11_plan_4 : decode cX11_plan 4 = .ok (.iload_n 1, 1) := by decide +kernel
theorem dX11_plan_5 : decode cX11_plan 5 = .ok (.iconst 1, 1) := by decide +kernel
theorem dX11_plan_6 : decode cX11_plan 6 = .ok (.if_icmp .le 6, 3) := by decide +kernel
theorem dX11_plan_9 : decode cX11_plan 9 = .ok (.bipush (-2), 2) := by decide +kernel
theorem dX11_plan_11 : decode cX11_plan 11 = .ok (.ireturn, 1) := by decide +kernel
theorem dX11_plan_12 : decode cX11_plan 12 = .ok (.aload_n 0, 1) := by decide +kernel
theorem dX11_plan_13 : decode cX11_plan 13 = .ok (.invokevirtual 269, 3) := by decide +kernel
theorem dX11_plan_16 : decode cX11_plan 16 = .ok (.aload_n 0, 1) := by decide +kernel
theorem dX11_plan_17 : decode cX11_plan 17 = .ok (.getfield 72, 3) := by decide +kernel
theorem dX11_plan_20 : decode cX11_plan 20 = .ok (.aload_n 0, 1) := by decide +kernel
theorem dX11_plan_21 : decode cX11_plan 21 = .ok (.getfield 19, 3) := by decide +kernel
theorem dX11_plan_24 : decode cX11_plan 24 = .ok (.invokevirtual 272, 3) := by decide +kernel
theorem dX11_plan_27 : decode cX11_plan 27 = .ok (.istore_n 2, 1) := by decide +kernel
theorem dX11_plan_28 : decode cX11_plan 28 = .ok (.iload_n 1, 1) := by decide +kernel
theorem dX11_plan_29 : decode cX11_plan 29 = .ok (.ifCond .ne 14, 3) := by decide +kernel
theorem dX11_plan_32 : decode cX11_plan 32 = .ok (.aload_n 0, 1) := by decide +kernel
theorem dX11_plan_33 : decode cX11_plan 33 = .ok (.getfield 19, 3) := by decide +kernel
theorem dX11_plan_36 : decode cX11_plan 36 = .ok (.iload_n 2, 1) := by decide +kernel
theorem dX11_plan_37 : decode cX11_plan 37 = .ok (.invokestatic 276, 3) := by decide +kernel
theorem dX11_plan_40 : decode cX11_plan 40 = .ok (.goto 4, 3) := by decide +kernel
theorem dX11_plan_43 : decode cX11_plan 43 = .ok (.iload_n 2, 1) := by decide +kernel
theorem dX11_plan_44 : decode cX11_plan 44 = .ok (.ireturn, 1) := by decide +kernel
theorem dX11_order_0 : decode cX11_order 0 = .ok (.iload_n 1, 1) := by decide +kernel
theorem dX11_order_1 : decode cX11_order 1 = .ok (.ifCond .ge 6, 3) := by decide +kernel
theorem dX11_order_4 : decode cX11_order 4 = .ok (.bipush (-3), 2) := by decide +kernel
theorem dX11_order_6 : decode cX11_order 6 = .ok (.ireturn, 1) := by decide +kernel
theorem dX11_order_7 : decode cX11_order 7 = .ok (.aload_n 0, 1) := by decide +kernel
theorem dX11_order_8 : decode cX11_order 8 = .ok (.invokevirtual 269, 3) := by decide +kernel
theorem dX11_order_11 : decode cX11_order 11 = .ok (.aload_n 0, 1) := by decide +kernel
theorem dX11_order_12 : decode cX11_order 12 = .ok (.getfield 72, 3) := by decide +kernel
theorem dX11_order_15 : decode cX11_order 15 = .ok (.aload_n 0, 1) := by decide +kernel
theorem dX11_order_16 : decode cX11_order 16 = .ok (.getfield 19, 3) := by decide +kernel
theorem dX11_order_19 : decode cX11_order 19 = .ok (.aload_n 0, 1) := by decide +kernel
theorem dX11_order_20 : decode cX11_order 20 = .ok (.getfield 72, 3) := by decide +kernel
theorem dX11_order_23 : decode cX11_order 23 = .ok (.aload_n 0, 1) := by decide +kernel
theorem dX11_order_24 : decode cX11_order 24 = .ok (.getfield 19, 3) := by decide +kernel
theorem dX11_order_27 : decode cX11_order 27 = .ok (.invokevirtual 272, 3) := by decide +kernel
theorem dX11_order_30 : decode cX11_order 30 = .ok (.iload_n 1, 1) := by decide +kernel
theorem dX11_order_31 : decode cX11_order 31 = .ok (.invokevirtual 280, 3) := by decide +kernel
theorem dX11_order_34 : decode cX11_order 34 = .ok (.ireturn, 1) := by decide +kernel
theorem dX11_colours_0 : decode cX11_colours 0 = .ok (.iload_n 1, 1) := by decide +kernel
theorem dX11_colours_1 : decode cX11_colours 1 = .ok (.ifCond .eq 26, 3) := by decide +kernel
theorem dX11_colours_4 : decode cX11_colours 4 = .ok (.iload_n 1, 1) := by decide +kernel
theorem dX11_colours_5 : decode cX11_colours 5 = .ok (.bipush 10, 2) := by decide +kernel
theorem dX11_colours_7 : decode cX11_colours 7 = .ok (.if_icmp .lt 17, 3) := by decide +kernel
theorem dX11_colours_10 : decode cX11_colours 10 = .ok (.iload_n 1, 1) := by decide +kernel
theorem dX11_colours_11 : decode cX11_colours 11 = .ok (.bipush 10, 2) := by decide +kernel
theorem dX11_colours_13 : decode cX11_colours 13 = .ok (.isub, 1) := by decide +kernel
theorem dX11_colours_14 : decode cX11_colours 14 = .ok (.aload_n 0, 1) := by decide +kernel
theorem dX11_colours_15 : decode cX11_colours 15 = .ok (.getfield 19, 3) := by decide +kernel
theorem dX11_colours_18 : decode cX11_colours 18 = .ok (.getfield 283, 3) := by decide +kernel
theorem dX11_colours_21 : decode cX11_colours 21 = .ok (.if_icmp .lt 6, 3) := by decide +kernel
theorem dX11_colours_24 : decode cX11_colours 24 = .ok (.bipush (-2), 2) := by decide +kernel
theorem dX11_colours_26 : decode cX11_colours 26 = .ok (.ireturn, 1) := by decide +kernel
theorem dX11_colours_27 : decode cX11_colours 27 = .ok (.aload_n 0, 1) := by decide +kernel
theorem dX11_colours_28 : decode cX11_colours 28 = .ok (.getfield 79, 3) := by decide +kernel
theorem dX11_colours_31 : decode cX11_colours 31 = .ok (.aload_n 0, 1) := by decide +kernel
theorem dX11_colours_32 : decode cX11_colours 32 = .ok (.getfield 19, 3) := by decide +kernel
theorem dX11_colours_35 : decode cX11_colours 35 = .ok (.invokevirtual 286, 3) := by decide +kernel
theorem dX11_colours_38 : decode cX11_colours 38 = .ok (.istore_n 2, 1) := by decide +kernel
theorem dX11_colours_39 : decode cX11_colours 39 = .ok (.iload_n 1, 1) := by decide +kernel
theorem dX11_colours_40 : decode cX11_colours 40 = .ok (.ifCond .ne 7, 3) := by decide +kernel
theorem dX11_colours_43 : decode cX11_colours 43 = .ok (.iload_n 2, 1) := by decide +kernel
theorem dX11_colours_44 : decode cX11_colours 44 = .ok (.goto 15, 3) := by decide +kernel
theorem dX11_colours_47 : decode cX11_colours 47 = .ok (.aload_n 0, 1) := by decide +kernel
theorem dX11_colours_48 : decode cX11_colours 48 = .ok (.getfield 79, 3) := by decide +kernel
theorem dX11_colours_51 : decode cX11_colours 51 = .ok (.getfield 289, 3) := by decide +kernel
theorem dX11_colours_54 : decode cX11_colours 54 = .ok (.iload_n 1, 1) := by decide +kernel
theorem dX11_colours_55 : decode cX11_colours 55 = .ok (.bipush 10, 2) := by decide +kernel
theorem dX11_colours_57 : decode cX11_colours 57 = .ok (.isub, 1) := by decide +kernel
theorem dX11_colours_58 : decode cX11_colours 58 = .ok (.iaload, 1) := by decide +kernel
theorem dX11_colours_59 : decode cX11_colours 59 = .ok (.ireturn, 1) := by decide +kernel
theorem dX11_clique_0 : decode cX11_clique 0 = .ok (.iload_n 1, 1) := by decide +kernel
theorem dX11_clique_1 : decode cX11_clique 1 = .ok (.ifCond .lt 8, 3) := by decide +kernel
theorem dX11_clique_4 : decode cX11_clique 4 = .ok (.iload_n 1, 1) := by decide +kernel
theorem dX11_clique_5 : decode cX11_clique 5 = .ok (.iconst 1, 1) := by decide +kernel
theorem dX11_clique_6 : decode cX11_clique 6 = .ok (.if_icmp .le 6, 3) := by decide +kernel
theorem dX11_clique_9 : decode cX11_clique 9 = .ok (.bipush (-2), 2) := by decide +kernel
theorem dX11_clique_11 : decode cX11_clique 11 = .ok (.ireturn, 1) := by decide +kernel
theorem dX11_clique_12 : decode cX11_clique 12 = .ok (.aload_n 0, 1) := by decide +kernel
theorem dX11_clique_13 : decode cX11_clique 13 = .ok (.getfield 19, 3) := by decide +kernel
theorem dX11_clique_16 : decode cX11_clique 16 = .ok (.invokestatic 292, 3) := by decide +kernel
theorem dX11_clique_19 : decode cX11_clique 19 = .ok (.istore_n 2, 1) := by decide +kernel
theorem dX11_clique_20 : decode cX11_clique 20 = .ok (.iload_n 1, 1) := by decide +kernel
theorem dX11_clique_21 : decode cX11_clique 21 = .ok (.ifCond .ne 10, 3) := by decide +kernel
theorem dX11_clique_24 : decode cX11_clique 24 = .ok (.iload_n 2, 1) := by decide +kernel
theorem dX11_clique_25 : decode cX11_clique 25 = .ok (.invokestatic 188, 3) := by decide +kernel
theorem dX11_clique_28 : decode cX11_clique 28 = .ok (.goto 4, 3) := by decide +kernel
theorem dX11_clique_31 : decode cX11_clique 31 = .ok (.iload_n 2, 1) := by decide +kernel
theorem dX11_clique_32 : decode cX11_clique 32 = .ok (.ireturn, 1) := by decide +kernel
theorem dX11_papers_0 : decode cX11_papers 0 = .ok (.aload_n 0, 1) := by decide +kernel
theorem dX11_papers_1 : decode cX11_papers 1 = .ok (.iload_n 1, 1) := by decide +kernel
theorem dX11_papers_2 : decode cX11_papers 2 = .ok (.invokevirtual 133, 3) := by decide +kernel
theorem dX11_papers_5 : decode cX11_papers 5 = .ok (.ifCond .ne 6, 3) := by decide +kernel
theorem dX11_papers_8 : decode cX11_papers 8 = .ok (.bipush (-2), 2) := by decide +kernel
theorem dX11_papers_10 : decode cX11_papers 10 = .ok (.ireturn, 1) := by decide +kernel
theorem dX11_papers_11 : decode cX11_papers 11 = .ok (.iconst 0, 1) := by decide +kernel
theorem dX11_papers_12 : decode cX11_papers 12 = .ok (.istore_n 2, 1) := by decide +kernel
theorem dX11_papers_13 : decode cX11_papers 13 = .ok (.iconst 0, 1) := by decide +kernel
theorem dX11_papers_14 : decode cX11_papers 14 = .ok (.istore_n 3, 1) := by decide +kernel
theorem dX11_papers_15 : decode cX11_papers 15 = .ok (.iload_n 3, 1) := by decide +kernel
theorem dX11_papers_16 : decode cX11_papers 16 = .ok (.aload_n 0, 1) := by decide +kernel
theorem dX11_papers_17 : decode cX11_papers 17 = .ok (.getfield 19, 3) := by decide +kernel
theorem dX11_papers_20 : decode cX11_papers 20 = .ok (.getfield 283, 3) := by decide +kernel
theorem dX11_papers_23 : decode cX11_papers 23 = .ok (.if_icmp .ge 27, 3) := by decide +kernel
theorem dX11_papers_26 : decode cX11_papers 26 = .ok (.iload_n 2, 1) := by decide +kernel
theorem dX11_papers_27 : decode cX11_papers 27 = .ok (.aload_n 0, 1) := by decide +kernel
theorem dX11_papers_28 : decode cX11_papers 28 = .ok (.getfield 19, 3) := by decide +kernel
theorem dX11_papers_31 : decode cX11_papers 31 = .ok (.getfield 295, 3) := by decide +kernel
theorem dX11_papers_34 : decode cX11_papers 34 = .ok (.iload_n 3, 1) := by decide +kernel
theorem dX11_papers_35 : decode cX11_papers 35 = .ok (.iaload, 1) := by decide +kernel
theorem dX11_papers_36 : decode cX11_papers 36 = .ok (.iload_n 1, 1) := by decide +kernel
theorem dX11_papers_37 : decode cX11_papers 37 = .ok (.ishr, 1) := by decide +kernel
theorem dX11_papers_38 : decode cX11_papers 38 = .ok (.iconst 1, 1) := by decide +kernel
theorem dX11_papers_39 : decode cX11_papers 39 = .ok (.iand, 1) := by decide +kernel
theorem dX11_papers_40 : decode cX11_papers 40 = .ok (.iload_n 3, 1) := by decide +kernel
theorem dX11_papers_41 : decode cX11_papers 41 = .ok (.ishl, 1) := by decide +kernel
theorem dX11_papers_42 : decode cX11_papers 42 = .ok (.ior, 1) := by decide +kernel
theorem dX11_papers_43 : decode cX11_papers 43 = .ok (.istore_n 2, 1) := by decide +kernel
theorem dX11_papers_44 : decode cX11_papers 44 = .ok (.iinc 3 1, 3) := by decide +kernel
theorem dX11_papers_47 : decode cX11_papers 47 = .ok (.goto (-32), 3) := by decide +kernel
theorem dX11_papers_50 : decode cX11_papers 50 = .ok (.iload_n 2, 1) := by decide +kernel
theorem dX11_papers_51 : decode cX11_papers 51 = .ok (.ireturn, 1) := by decide +kernel
theorem dX11_balance_0 : decode cX11_balance 0 = .ok (.iload_n 1, 1) := by decide +kernel
theorem dX11_balance_1 : decode cX11_balance 1 = .ok (.ifCond .lt 8, 3) := by decide +kernel
theorem dX11_balance_4 : decode cX11_balance 4 = .ok (.iload_n 1, 1) := by decide +kernel
theorem dX11_balance_5 : decode cX11_balance 5 = .ok (.iconst 5, 1) := by decide +kernel
theorem dX11_balance_6 : decode cX11_balance 6 = .ok (.if_icmp .lt 9, 3) := by decide +kernel
theorem dX11_balance_9 : decode cX11_balance 9 = .ok (.ldc_w 298, 3) := by decide +kernel
theorem dX11_balance_12 : decode cX11_balance 12 = .ok (.goto 12, 3) := by decide +kernel
theorem dX11_balance_15 : decode cX11_balance 15 = .ok (.aload_n 0, 1) := by decide +kernel
theorem dX11_balance_16 : decode cX11_balance 16 = .ok (.getfield 19, 3) := by decide +kernel
theorem dX11_balance_19 : decode cX11_balance 19 = .ok (.getfield 299, 3) := by decide +kernel
theorem dX11_balance_22 : decode cX11_balance 22 = .ok (.iload_n 1, 1) := by decide +kernel
theorem dX11_balance_23 : decode cX11_balance 23 = .ok (.iaload, 1) := by decide +kernel
theorem dX11_balance_24 : decode cX11_balance 24 = .ok (.ireturn, 1) := by decide +kernel
theorem dX11_payments_0 : decode cX11_payments 0 = .ok (.aload_n 0, 1) := by decide +kernel
theorem dX11_payments_1 : decode cX11_payments 1 = .ok (.getfield 19, 3) := by decide +kernel
theorem dX11_payments_4 : decode cX11_payments 4 = .ok (.invokevirtual 302, 3) := by decide +kernel
theorem dX11_payments_7 : decode cX11_payments 7 = .ok (.ireturn, 1) := by decide +kernel
theorem dX11_moons_0 : decode cX11_moons 0 = .ok (.aload_n 0, 1) := by decide +kernel
theorem dX11_moons_1 : decode cX11_moons 1 = .ok (.iload_n 1, 1) := by decide +kernel
theorem dX11_moons_2 : decode cX11_moons 2 = .ok (.invokevirtual 305, 3) := by decide +kernel
theorem dX11_moons_5 : decode cX11_moons 5 = .ok (.istore_n 2, 1) := by decide +kernel
theorem dX11_moons_6 : decode cX11_moons 6 = .ok (.iload_n 2, 1) := by decide +kernel
theorem dX11_moons_7 : decode cX11_moons 7 = .ok (.ifCond .eq 7, 3) := by decide +kernel
theorem dX11_moons_10 : decode cX11_moons 10 = .ok (.iload_n 2, 1) := by decide +kernel
theorem dX11_moons_11 : decode cX11_moons 11 = .ok (.goto 13, 3) := by decide +kernel
theorem dX11_moons_14 : decode cX11_moons 14 = .ok (.aload_n 0, 1) := by decide +kernel
theorem dX11_moons_15 : decode cX11_moons 15 = .ok (.aload_n 0, 1) := by decide +kernel
theorem dX11_moons_16 : decode cX11_moons 16 = .ok (.getfield 49, 3) := by decide +kernel
theorem dX11_moons_19 : decode cX11_moons 19 = .ok (.iload_n 1, 1) := by decide +kernel
theorem dX11_moons_20 : decode cX11_moons 20 = .ok (.aaload, 1) := by decide +kernel
theorem dX11_moons_21 : decode cX11_moons 21 = .ok (.invokevirtual 308, 3) := by decide +kernel
theorem dX11_moons_24 : decode cX11_moons 24 = .ok (.ireturn, 1) := by decide +kernel
theorem dX11_look_0 : decode cX11_look 0 = .ok (.aload_n 0, 1) := by decide +kernel
theorem dX11_look_1 : decode cX11_look 1 = .ok (.iload_n 1, 1) := by decide +kernel
theorem dX11_look_2 : decode cX11_look 2 = .ok (.invokevirtual 305, 3) := by decide +kernel
theorem dX11_look_5 : decode cX11_look 5 = .ok (.istore_n 2, 1) := by decide +kernel
theorem dX11_look_6 : decode cX11_look 6 = .ok (.iload_n 2, 1) := by decide +kernel
theorem dX11_look_7 : decode cX11_look 7 = .ok (.ifCond .eq 5, 3) := by decide +kernel
theorem dX11_look_10 : decode cX11_look 10 = .ok (.iload_n 2, 1) := by decide +kernel
theorem dX11_look_11 : decode cX11_look 11 = .ok (.ireturn, 1) := by decide +kernel
theorem dX11_look_12 : decode cX11_look 12 = .ok (.aload_n 0, 1) := by decide +kernel
theorem dX11_look_13 : decode cX11_look 13 = .ok (.aload_n 0, 1) := by decide +kernel
theorem dX11_look_14 : decode cX11_look 14 = .ok (.getfield 49, 3) := by decide +kernel
theorem dX11_look_17 : decode cX11_look 17 = .ok (.iload_n 1, 1) := by decide +kernel
theorem dX11_look_18 : decode cX11_look 18 = .ok (.aaload, 1) := by decide +kernel
theorem dX11_look_19 : decode cX11_look 19 = .ok (.invokevirtual 308, 3) := by decide +kernel
theorem dX11_look_22 : decode cX11_look 22 = .ok (.istore_n 3, 1) := by decide +kernel
theorem dX11_look_23 : decode cX11_look 23 = .ok (.iload_n 3, 1) := by decide +kernel
theorem dX11_look_24 : decode cX11_look 24 = .ok (.ifCond .ne 5, 3) := by decide +kernel
theorem dX11_look_27 : decode cX11_look 27 = .ok (.iconst (-1), 1) := by decide +kernel
theorem dX11_look_28 : decode cX11_look 28 = .ok (.ireturn, 1) := by decide +kernel
theorem dX11_look_29 : decode cX11_look 29 = .ok (.iconst 0, 1) := by decide +kernel
theorem dX11_look_30 : decode cX11_look 30 = .ok (.istore 4, 2) := by decide +kernel
theorem dX11_look_32 : decode cX11_look 32 = .ok (.bipush 11, 2) := by decide +kernel
theorem dX11_look_34 : decode cX11_look 34 = .ok (.istore 5, 2) := by decide +kernel
theorem dX11_look_36 : decode cX11_look 36 = .ok (.iconst 0, 1) := by decide +kernel
theorem dX11_look_37 : decode cX11_look 37 = .ok (.istore 6, 2) := by decide +kernel
theorem dX11_look_39 : decode cX11_look 39 = .ok (.iload 6, 2) := by decide +kernel
theorem dX11_look_41 : decode cX11_look 41 = .ok (.bipush 100, 2) := by decide +kernel
theorem dX11_look_43 : decode cX11_look 43 = .ok (.if_icmp .ge 48, 3) := by decide +kernel
theorem dX11_look_46 : decode cX11_look 46 = .ok (.aload_n 0, 1) := by decide +kernel
theorem dX11_look_47 : decode cX11_look 47 = .ok (.getfield 36, 3) := by decide +kernel
theorem dX11_look_50 : decode cX11_look 50 = .ok (.aload_n 0, 1) := by decide +kernel
theorem dX11_look_51 : decode cX11_look 51 = .ok (.getfield 19, 3) := by decide +kernel
theorem dX11_look_54 : decode cX11_look 54 = .ok (.aload_n 0, 1) := by decide +kernel
theorem dX11_look_55 : decode cX11_look 55 = .ok (.getfield 26, 3) := by decide +kernel
theorem dX11_look_58 : decode cX11_look 58 = .ok (.getfield 312, 3) := by decide +kernel
theorem dX11_look_61 : decode cX11_look 61 = .ok (.iload 6, 2) := by decide +kernel
theorem dX11_look_63 : decode cX11_look 63 = .ok (.iadd, 1) := by decide +kernel
theorem dX11_look_64 : decode cX11_look 64 = .ok (.iload_n 3, 1) := by decide +kernel
theorem dX11_look_65 : decode cX11_look 65 = .ok (.invokevirtual 315, 3) := by decide +kernel
theorem dX11_look_68 : decode cX11_look 68 = .ok (.istore 7, 2) := by decide +kernel
theorem dX11_look_70 : decode cX11_look 70 = .ok (.iload 7, 2) := by decide +kernel
theorem dX11_look_72 : decode cX11_look 72 = .ok (.iload 5, 2) := by decide +kernel
theorem dX11_look_74 : decode cX11_look 74 = .ok (.if_icmp .ge 11, 3) := by decide +kernel
theorem dX11_look_77 : decode cX11_look 77 = .ok (.iload 7, 2) := by decide +kernel
theorem dX11_look_79 : decode cX11_look 79 = .ok (.istore 5, 2) := by decide +kernel
theorem dX11_look_81 : decode cX11_look 81 = .ok (.iload 6, 2) := by decide +kernel
theorem dX11_look_83 : decode cX11_look 83 = .ok (.istore 4, 2) := by decide +kernel
theorem dX11_look_85 : decode cX11_look 85 = .ok (.iinc 6 1, 3) := by decide +kernel
theorem dX11_look_88 : decode cX11_look 88 = .ok (.goto (-49), 3) := by decide +kernel
theorem dX11_look_91 : decode cX11_look 91 = .ok (.iload 4, 2) := by decide +kernel
theorem dX11_look_93 : decode cX11_look 93 = .ok (.ireturn, 1) := by decide +kernel
theorem dX11_puts_0 : decode cX11_puts 0 = .ok (.iload_n 1, 1) := by decide +kernel
theorem dX11_puts_1 : decode cX11_puts 1 = .ok (.ifCond .lt 14, 3) := by decide +kernel
theorem dX11_puts_4 : decode cX11_puts 4 = .ok (.iload_n 1, 1) := by decide +kernel
theorem dX11_puts_5 : decode cX11_puts 5 = .ok (.aload_n 0, 1) := by decide +kernel
theorem dX11_puts_6 : decode cX11_puts 6 = .ok (.getfield 19, 3) := by decide +kernel
theorem dX11_puts_9 : decode cX11_puts 9 = .ok (.getfield 318, 3) := by decide +kernel
theorem dX11_puts_12 : decode cX11_puts 12 = .ok (.if_icmp .lt 6, 3) := by decide +kernel
theorem dX11_puts_15 : decode cX11_puts 15 = .ok (.bipush (-2), 2) := by decide +kernel
theorem dX11_puts_17 : decode cX11_puts 17 = .ok (.ireturn, 1) := by decide +kernel
theorem dX11_puts_18 : decode cX11_puts 18 = .ok (.aload_n 0, 1) := by decide +kernel
theorem dX11_puts_19 : decode cX11_puts 19 = .ok (.iload_n 1, 1) := by decide +kernel
theorem dX11_puts_20 : decode cX11_puts 20 = .ok (.invokevirtual 321, 3) := by decide +kernel
theorem dX11_puts_23 : decode cX11_puts 23 = .ok (.istore_n 2, 1) := by decide +kernel
theorem dX11_puts_24 : decode cX11_puts 24 = .ok (.iconst 0, 1) := by decide +kernel
theorem dX11_puts_25 : decode cX11_puts 25 = .ok (.istore_n 3, 1) := by decide +kernel
theorem dX11_puts_26 : decode cX11_puts 26 = .ok (.iload_n 3, 1) := by decide +kernel
theorem dX11_puts_27 : decode cX11_puts 27 = .ok (.aload_n 0, 1) := by decide +kernel
theorem dX11_puts_28 : decode cX11_puts 28 = .ok (.getfield 19, 3) := by decide +kernel
theorem dX11_puts_31 : decode cX11_puts 31 = .ok (.getfield 324, 3) := by decide +kernel
theorem dX11_puts_34 : decode cX11_puts 34 = .ok (.if_icmp .ge 42, 3) := by decide +kernel
theorem dX11_puts_37 : decode cX11_puts 37 = .ok (.iload_n 2, 1) := by decide +kernel
theorem dX11_puts_38 : decode cX11_puts 38 = .ok (.iload_n 3, 1) := by decide +kernel
theorem dX11_puts_39 : decode cX11_puts 39 = .ok (.ishr, 1) := by decide +kernel
theorem dX11_puts_40 : decode cX11_puts 40 = .ok (.iconst 1, 1) := by decide +kernel
theorem dX11_puts_41 : decode cX11_puts 41 = .ok (.iand, 1) := by decide +kernel
theorem dX11_puts_42 : decode cX11_puts 42 = .ok (.ifCond .eq 28, 3) := by decide +kernel
theorem dX11_puts_45 : decode cX11_puts 45 = .ok (.aload_n 0, 1) := by decide +kernel
theorem dX11_puts_46 : decode cX11_puts 46 = .ok (.getfield 87, 3) := by decide +kernel
theorem dX11_puts_49 : decode cX11_puts 49 = .ok (.iload_n 2, 1) := by decide +kernel
theorem dX11_puts_50 : decode cX11_puts 50 = .ok (.iload_n 3, 1) := by decide +kernel
theorem dX11_puts_51 : decode cX11_puts 51 = .ok (.invokestatic 327, 3) := by decide +kernel
theorem dX11_puts_54 : decode cX11_puts 54 = .ok (.iaload, 1) := by decide +kernel
theorem dX11_puts_55 : decode cX11_puts 55 = .ok (.ifCond .ne 15, 3) := by decide +kernel
theorem dX11_puts_58 : decode cX11_puts 58 = .ok (.iload_n 1, 1) := by decide +kernel
theorem dX11_puts_59 : decode cX11_puts 59 = .ok (.aload_n 0, 1) := by decide +kernel
theorem dX11_puts_60 : decode cX11_puts 60 = .ok (.getfield 19, 3) := by decide +kernel
theorem dX11_puts_63 : decode cX11_puts 63 = .ok (.getfield 324, 3) := by decide +kernel
theorem dX11_puts_66 : decode cX11_puts 66 = .ok (.imul, 1) := by decide +kernel
theorem dX11_puts_67 : decode cX11_puts 67 = .ok (.iload_n 3, 1) := by decide +kernel
theorem dX11_puts_68 : decode cX11_puts 68 = .ok (.iadd, 1) := by decide +kernel
theorem dX11_puts_69 : decode cX11_puts 69 = .ok (.ireturn, 1) := by decide +kernel
theorem dX11_puts_70 : decode cX11_puts 70 = .ok (.iinc 3 1, 3) := by decide +kernel
theorem dX11_puts_73 : decode cX11_puts 73 = .ok (.goto (-47), 3) := by decide +kernel
theorem dX11_puts_76 : decode cX11_puts 76 = .ok (.iconst (-1), 1) := by decide +kernel
theorem dX11_puts_77 : decode cX11_puts 77 = .ok (.ireturn, 1) := by decide +kernel
theorem dX11_wins_0 : decode cX11_wins 0 = .ok (.iconst 0, 1) := by decide +kernel
theorem dX11_wins_1 : decode cX11_wins 1 = .ok (.istore_n 1, 1) := by decide +kernel
theorem dX11_wins_2 : decode cX11_wins 2 = .ok (.iconst 0, 1) := by decide +kernel
theorem dX11_wins_3 : decode cX11_wins 3 = .ok (.istore_n 2, 1) := by decide +kernel
theorem dX11_wins_4 : decode cX11_wins 4 = .ok (.iload_n 2, 1) := by decide +kernel
theorem dX11_wins_5 : decode cX11_wins 5 = .ok (.aload_n 0, 1) := by decide +kernel
theorem dX11_wins_6 : decode cX11_wins 6 = .ok (.getfield 19, 3) := by decide +kernel
theorem dX11_wins_9 : decode cX11_wins 9 = .ok (.getfield 318, 3) := by decide +kernel
theorem dX11_wins_12 : decode cX11_wins 12 = .ok (.if_icmp .ge 22, 3) := by decide +kernel
theorem dX11_wins_15 : decode cX11_wins 15 = .ok (.iload_n 1, 1) := by decide +kernel
theorem dX11_wins_16 : decode cX11_wins 16 = .ok (.aload_n 0, 1) := by decide +kernel
theorem dX11_wins_17 : decode cX11_wins 17 = .ok (.getfield 87, 3) := by decide +kernel
theorem dX11_wins_20 : decode cX11_wins 20 = .ok (.aload_n 0, 1) := by decide +kernel
theorem dX11_wins_21 : decode cX11_wins 21 = .ok (.iload_n 2, 1) := by decide +kernel
theorem dX11_wins_22 : decode cX11_wins 22 = .ok (.invokevirtual 321, 3) := by decide +kernel
theorem dX11_wins_25 : decode cX11_wins 25 = .ok (.iaload, 1) := by decide +kernel
theorem dX11_wins_26 : decode cX11_wins 26 = .ok (.ixor, 1) := by decide +kernel
theorem dX11_wins_27 : decode cX11_wins 27 = .ok (.istore_n 1, 1) := by decide +kernel
theorem dX11_wins_28 : decode cX11_wins 28 = .ok (.iinc 2 1, 3) := by decide +kernel
theorem dX11_wins_31 : decode cX11_wins 31 = .ok (.goto (-27), 3) := by decide +kernel
theorem dX11_wins_34 : decode cX11_wins 34 = .ok (.iload_n 1, 1) := by decide +kernel
theorem dX11_wins_35 : decode cX11_wins 35 = .ok (.ifCond .eq 7, 3) := by decide +kernel
theorem dX11_wins_38 : decode cX11_wins 38 = .ok (.iconst 1, 1) := by decide +kernel
theorem dX11_wins_39 : decode cX11_wins 39 = .ok (.goto 4, 3) := by decide +kernel
theorem dX11_wins_42 : decode cX11_wins 42 = .ok (.iconst 0, 1) := by decide +kernel
theorem dX11_wins_43 : decode cX11_wins 43 = .ok (.ireturn, 1) := by decide +kernel
theorem dX11_chance_0 : decode cX11_chance 0 = .ok (.aload_n 0, 1) := by decide +kernel
theorem dX11_chance_1 : decode cX11_chance 1 = .ok (.iload_n 1, 1) := by decide +kernel
theorem dX11_chance_2 : decode cX11_chance 2 = .ok (.invokevirtual 139, 3) := by decide +kernel
theorem dX11_chance_5 : decode cX11_chance 5 = .ok (.ifCond .eq 12, 3) := by decide +kernel
theorem dX11_chance_8 : decode cX11_chance 8 = .ok (.iload_n 3, 1) := by decide +kernel
theorem dX11_chance_9 : decode cX11_chance 9 = .ok (.ifCond .lt 8, 3) := by decide +kernel
theorem dX11_chance_12 : decode cX11_chance 12 = .ok (.iload_n 3, 1) := by decide +kernel
theorem dX11_chance_13 : decode cX11_chance 13 = .ok (.iconst 1, 1) := by decide +kernel
theorem dX11_chance_14 : decode cX11_chance 14 = .ok (.if_icmp .le 6, 3) := by decide +kernel
theorem dX11_chance_17 : decode cX11_chance 17 = .ok (.bipush (-2), 2) := by decide +kernel
theorem dX11_chance_19 : decode cX11_chance 19 = .ok (.ireturn, 1) := by decide +kernel
theorem dX11_chance_20 : decode cX11_chance 20 = .ok (.iload_n 2, 1) := by decide +kernel
theorem dX11_chance_21 : decode cX11_chance 21 = .ok (.ifCond .lt 9, 3) := by decide +kernel
theorem dX11_chance_24 : decode cX11_chance 24 = .ok (.iload_n 2, 1) := by decide +kernel
theorem dX11_chance_25 : decode cX11_chance 25 = .ok (.bipush 8, 2) := by decide +kernel
theorem dX11_chance_27 : decode cX11_chance 27 = .ok (.if_icmp .le 6, 3) := by decide +kernel
theorem dX11_chance_30 : decode cX11_chance 30 = .ok (.bipush (-3), 2) := by decide +kernel
theorem dX11_chance_32 : decode cX11_chance 32 = .ok (.ireturn, 1) := by decide +kernel
theorem dX11_chance_33 : decode cX11_chance 33 = .ok (.aload_n 0, 1) := by decide +kernel
theorem dX11_chance_34 : decode cX11_chance 34 = .ok (.getfield 94, 3) := by decide +kernel
theorem dX11_chance_37 : decode cX11_chance 37 = .ok (.aload_n 0, 1) := by decide +kernel
theorem dX11_chance_38 : decode cX11_chance 38 = .ok (.getfield 19, 3) := by decide +kernel
theorem dX11_chance_41 : decode cX11_chance 41 = .ok (.aload_n 0, 1) := by decide +kernel
theorem dX11_chance_42 : decode cX11_chance 42 = .ok (.getfield 26, 3) := by decide +kernel
theorem dX11_chance_45 : decode cX11_chance 45 = .ok (.aload_n 0, 1) := by decide +kernel
theorem dX11_chance_46 : decode cX11_chance 46 = .ok (.getfield 36, 3) := by decide +kernel
theorem dX11_chance_49 : decode cX11_chance 49 = .ok (.iload_n 2, 1) := by decide +kernel
theorem dX11_chance_50 : decode cX11_chance 50 = .ok (.invokevirtual 330, 3) := by decide +kernel
theorem dX11_chance_53 : decode cX11_chance 53 = .ok (.aload_n 0, 1) := by decide +kernel
theorem dX11_chance_54 : decode cX11_chance 54 = .ok (.getfield 94, 3) := by decide +kernel
theorem dX11_chance_57 : decode cX11_chance 57 = .ok (.getfield 334, 3) := by decide +kernel
theorem dX11_chance_60 : decode cX11_chance 60 = .ok (.iload_n 1, 1) := by decide +kernel
theorem dX11_chance_61 : decode cX11_chance 61 = .ok (.laload, 1) := by decide +kernel
theorem dX11_chance_62 : decode cX11_chance 62 = .ok (.iload_n 2, 1) := by decide +kernel
theorem dX11_chance_63 : decode cX11_chance 63 = .ok (.iload_n 3, 1) := by decide +kernel
theorem dX11_chance_64 : decode cX11_chance 64 = .ok (.invokestatic 337, 3) := by decide +kernel
theorem dX11_chance_67 : decode cX11_chance 67 = .ok (.ireturn, 1) := by decide +kernel
theorem dX11_mean_0 : decode cX11_mean 0 = .ok (.iload_n 2, 1) := by decide +kernel
theorem dX11_mean_1 : decode cX11_mean 1 = .ok (.ifCond .lt 8, 3) := by decide +kernel
theorem dX11_mean_4 : decode cX11_mean 4 = .ok (.iload_n 2, 1) := by decide +kernel
theorem dX11_mean_5 : decode cX11_mean 5 = .ok (.iconst 1, 1) := by decide +kernel
theorem dX11_mean_6 : decode cX11_mean 6 = .ok (.if_icmp .le 6, 3) := by decide +kernel
theorem dX11_mean_9 : decode cX11_mean 9 = .ok (.bipush (-2), 2) := by decide +kernel
theorem dX11_mean_11 : decode cX11_mean 11 = .ok (.ireturn, 1) := by decide +kernel
theorem dX11_mean_12 : decode cX11_mean 12 = .ok (.iload_n 1, 1) := by decide +kernel
theorem dX11_mean_13 : decode cX11_mean 13 = .ok (.ifCond .lt 9, 3) := by decide +kernel
theorem dX11_mean_16 : decode cX11_mean 16 = .ok (.iload_n 1, 1) := by decide +kernel
theorem dX11_mean_17 : decode cX11_mean 17 = .ok (.bipush 8, 2) := by decide +kernel
theorem dX11_mean_19 : decode cX11_mean 19 = .ok (.if_icmp .le 6, 3) := by decide +kernel
theorem dX11_mean_22 : decode cX11_mean 22 = .ok (.bipush (-3), 2) := by decide +kernel
theorem dX11_mean_24 : decode cX11_mean 24 = .ok (.ireturn, 1) := by decide +kernel
theorem dX11_mean_25 : decode cX11_mean 25 = .ok (.aload_n 0, 1) := by decide +kernel
theorem dX11_mean_26 : decode cX11_mean 26 = .ok (.getfield 94, 3) := by decide +kernel
theorem dX11_mean_29 : decode cX11_mean 29 = .ok (.aload_n 0, 1) := by decide +kernel
theorem dX11_mean_30 : decode cX11_mean 30 = .ok (.getfield 19, 3) := by decide +kernel
theorem dX11_mean_33 : decode cX11_mean 33 = .ok (.aload_n 0, 1) := by decide +kernel
theorem dX11_mean_34 : decode cX11_mean 34 = .ok (.getfield 26, 3) := by decide +kernel
theorem dX11_mean_37 : decode cX11_mean 37 = .ok (.aload_n 0, 1) := by decide +kernel
theorem dX11_mean_38 : decode cX11_mean 38 = .ok (.getfield 36, 3) := by decide +kernel
theorem dX11_mean_41 : decode cX11_mean 41 = .ok (.iload_n 1, 1) := by decide +kernel
theorem dX11_mean_42 : decode cX11_mean 42 = .ok (.invokevirtual 330, 3) := by decide +kernel
theorem dX11_mean_45 : decode cX11_mean 45 = .ok (.lconst 0, 1) := by decide +kernel
theorem dX11_mean_46 : decode cX11_mean 46 = .ok (.lstore_n 3, 1) := by decide +kernel
theorem dX11_mean_47 : decode cX11_mean 47 = .ok (.iconst 0, 1) := by decide +kernel
theorem dX11_mean_48 : decode cX11_mean 48 = .ok (.istore 5, 2) := by decide +kernel
theorem dX11_mean_50 : decode cX11_mean 50 = .ok (.iload 5, 2) := by decide +kernel
theorem dX11_mean_52 : decode cX11_mean 52 = .ok (.bipush 6, 2) := by decide +kernel
theorem dX11_mean_54 : decode cX11_mean 54 = .ok (.if_icmp .ge 22, 3) := by decide +kernel
theorem dX11_mean_57 : decode cX11_mean 57 = .ok (.lload_n 3, 1) := by decide +kernel
theorem dX11_mean_58 : decode cX11_mean 58 = .ok (.aload_n 0, 1) := by decide +kernel
theorem dX11_mean_59 : decode cX11_mean 59 = .ok (.getfield 94, 3) := by decide +kernel
theorem dX11_mean_62 : decode cX11_mean 62 = .ok (.getfield 334, 3) := by decide +kernel
theorem dX11_mean_65 : decode cX11_mean 65 = .ok (.iload 5, 2) := by decide +kernel
theorem dX11_mean_67 : decode cX11_mean 67 = .ok (.laload, 1) := by decide +kernel
theorem dX11_mean_68 : decode cX11_mean 68 = .ok (.ladd, 1) := by decide +kernel
theorem dX11_mean_69 : decode cX11_mean 69 = .ok (.lstore_n 3, 1) := by decide +kernel
theorem dX11_mean_70 : decode cX11_mean 70 = .ok (.iinc 5 1, 3) := by decide +kernel
theorem dX11_mean_73 : decode cX11_mean 73 = .ok (.goto (-23), 3) := by decide +kernel
theorem dX11_mean_76 : decode cX11_mean 76 = .ok (.lload_n 3, 1) := by decide +kernel
theorem dX11_mean_77 : decode cX11_mean 77 = .ok (.iload_n 1, 1) := by decide +kernel
theorem dX11_mean_78 : decode cX11_mean 78 = .ok (.iload_n 2, 1) := by decide +kernel
theorem dX11_mean_79 : decode cX11_mean 79 = .ok (.invokestatic 337, 3) := by decide +kernel
theorem dX11_mean_82 : decode cX11_mean 82 = .ok (.ireturn, 1) := by decide +kernel
theorem dX11_numbers_0 : decode cX11_numbers 0 = .ok (.iload_n 1, 1) := by decide +kernel
theorem dX11_numbers_1 : decode cX11_numbers 1 = .ok (.invokestatic 341, 3) := by decide +kernel
theorem dX11_numbers_4 : decode cX11_numbers 4 = .ok (.ifCond .eq 12, 3) := by decide +kernel
theorem dX11_numbers_7 : decode cX11_numbers 7 = .ok (.iload_n 2, 1) := by decide +kernel
theorem dX11_numbers_8 : decode cX11_numbers 8 = .ok (.ifCond .lt 8, 3) := by decide +kernel
theorem dX11_numbers_11 : decode cX11_numbers 11 = .ok (.iload_n 2, 1) := by decide +kernel
theorem dX11_numbers_12 : decode cX11_numbers 12 = .ok (.iconst 3, 1) := by decide +kernel
theorem dX11_numbers_13 : decode cX11_numbers 13 = .ok (.if_icmp .le 6, 3) := by decide +kernel
theorem dX11_numbers_16 : decode cX11_numbers 16 = .ok (.bipush (-2), 2) := by decide +kernel
theorem dX11_numbers_18 : decode cX11_numbers 18 = .ok (.ireturn, 1) := by decide +kernel
theorem dX11_numbers_19 : decode cX11_numbers 19 = .ok (.iload_n 3, 1) := by decide +kernel
theorem dX11_numbers_20 : decode cX11_numbers 20 = .ok (.ifCond .lt 9, 3) := by decide +kernel
theorem dX11_numbers_23 : decode cX11_numbers 23 = .ok (.iload_n 3, 1) := by decide +kernel
theorem dX11_numbers_24 : decode cX11_numbers 24 = .ok (.bipush 40, 2) := by decide +kernel
theorem dX11_numbers_26 : decode cX11_numbers 26 = .ok (.if_icmp .le 6, 3) := by decide +kernel
theorem dX11_numbers_29 : decode cX11_numbers 29 = .ok (.bipush (-3), 2) := by decide +kernel
theorem dX11_numbers_31 : decode cX11_numbers 31 = .ok (.ireturn, 1) := by decide +kernel
theorem dX11_numbers_32 : decode cX11_numbers 32 = .ok (.aload_n 0, 1) := by decide +kernel
theorem dX11_numbers_33 : decode cX11_numbers 33 = .ok (.getfield 49, 3) := by decide +kernel
theorem dX11_numbers_36 : decode cX11_numbers 36 = .ok (.iload_n 1, 1) := by decide +kernel
theorem dX11_numbers_37 : decode cX11_numbers 37 = .ok (.aaload, 1) := by decide +kernel
theorem dX11_numbers_38 : decode cX11_numbers 38 = .ok (.iload_n 2, 1) := by decide +kernel
theorem dX11_numbers_39 : decode cX11_numbers 39 = .ok (.iload_n 3, 1) := by decide +kernel
theorem dX11_numbers_40 : decode cX11_numbers 40 = .ok (.invokevirtual 344, 3) := by decide +kernel
theorem dX11_numbers_43 : decode cX11_numbers 43 = .ok (.iconst 0, 1) := by decide +kernel
theorem dX11_numbers_44 : decode cX11_numbers 44 = .ok (.ireturn, 1) := by decide +kernel
theorem dX11_write_0 : decode cX11_write 0 = .ok (.aload_n 0, 1) := by decide +kernel
theorem dX11_write_1 : decode cX11_write 1 = .ok (.iload_n 1, 1) := by decide +kernel
theorem dX11_write_2 : decode cX11_write 2 = .ok (.invokevirtual 225, 3) := by decide +kernel
theorem dX11_write_5 : decode cX11_write 5 = .ok (.istore 5, 2) := by decide +kernel
theorem dX11_write_7 : decode cX11_write 7 = .ok (.iload 5, 2) := by decide +kernel
theorem dX11_write_9 : decode cX11_write 9 = .ok (.ifCond .eq 7, 3) := by decide +kernel
theorem dX11_write_12 : decode cX11_write 12 = .ok (.iload 5, 2) := by decide +kernel
theorem dX11_write_14 : decode cX11_write 14 = .ok (.i2l, 1) := by decide +kernel
theorem dX11_write_15 : decode cX11_write 15 = .ok (.lreturn, 1) := by decide +kernel
theorem dX11_write_16 : decode cX11_write 16 = .ok (.iload_n 2, 1) := by decide +kernel
theorem dX11_write_17 : decode cX11_write 17 = .ok (.ifCond .lt 16, 3) := by decide +kernel
theorem dX11_write_20 : decode cX11_write 20 = .ok (.iload_n 2, 1) := by decide +kernel
theorem dX11_write_21 : decode cX11_write 21 = .ok (.aload_n 0, 1) := by decide +kernel
theorem dX11_write_22 : decode cX11_write 22 = .ok (.getfield 49, 3) := by decide +kernel
theorem dX11_write_25 : decode cX11_write 25 = .ok (.iload_n 1, 1) := by decide +kernel
theorem dX11_write_26 : decode cX11_write 26 = .ok (.aaload, 1) := by decide +kernel
theorem dX11_write_27 : decode cX11_write 27 = .ok (.getfield 232, 3) := by decide +kernel
theorem dX11_write_30 : decode cX11_write 30 = .ok (.if_icmp .lt 7, 3) := by decide +kernel
theorem dX11_write_33 : decode cX11_write 33 = .ok (.ldc2_w 348, 3) := by decide +kernel
theorem dX11_write_36 : decode cX11_write 36 = .ok (.lreturn, 1) := by decide +kernel
theorem dX11_write_37 : decode cX11_write 37 = .ok (.aload_n 0, 1) := by decide +kernel
theorem dX11_write_38 : decode cX11_write 38 = .ok (.getfield 49, 3) := by decide +kernel
theorem dX11_write_41 : decode cX11_write 41 = .ok (.iload_n 1, 1) := by decide +kernel
theorem dX11_write_42 : decode cX11_write 42 = .ok (.aaload, 1) := by decide +kernel
theorem dX11_write_43 : decode cX11_write 43 = .ok (.iload_n 2, 1) := by decide +kernel
theorem dX11_write_44 : decode cX11_write 44 = .ok (.lload_n 3, 1) := by decide +kernel
theorem dX11_write_45 : decode cX11_write 45 = .ok (.invokevirtual 350, 3) := by decide +kernel
theorem dX11_write_48 : decode cX11_write 48 = .ok (.lreturn, 1) := by decide +kernel
theorem dX11_lists_0 : decode cX11_lists 0 = .ok (.aload_n 0, 1) := by decide +kernel
theorem dX11_lists_1 : decode cX11_lists 1 = .ok (.iload_n 1, 1) := by decide +kernel
theorem dX11_lists_2 : decode cX11_lists 2 = .ok (.invokevirtual 225, 3) := by decide +kernel
theorem dX11_lists_5 : decode cX11_lists 5 = .ok (.istore_n 2, 1) := by decide +kernel
theorem dX11_lists_6 : decode cX11_lists 6 = .ok (.iload_n 2, 1) := by decide +kernel
theorem dX11_lists_7 : decode cX11_lists 7 = .ok (.ifCond .eq 5, 3) := by decide +kernel
theorem dX11_lists_10 : decode cX11_lists 10 = .ok (.iload_n 2, 1) := by decide +kernel
theorem dX11_lists_11 : decode cX11_lists 11 = .ok (.ireturn, 1) := by decide +kernel
theorem dX11_lists_12 : decode cX11_lists 12 = .ok (.aload_n 0, 1) := by decide +kernel
theorem dX11_lists_13 : decode cX11_lists 13 = .ok (.getfield 49, 3) := by decide +kernel
theorem dX11_lists_16 : decode cX11_lists 16 = .ok (.iload_n 1, 1) := by decide +kernel
theorem dX11_lists_17 : decode cX11_lists 17 = .ok (.aaload, 1) := by decide +kernel
theorem dX11_lists_18 : decode cX11_lists 18 = .ok (.getfield 232, 3) := by decide +kernel
theorem dX11_lists_21 : decode cX11_lists 21 = .ok (.aload_n 0, 1) := by decide +kernel
theorem dX11_lists_22 : decode cX11_lists 22 = .ok (.getfield 19, 3) := by decide +kernel
theorem dX11_lists_25 : decode cX11_lists 25 = .ok (.invokevirtual 194, 3) := by decide +kernel
theorem dX11_lists_28 : decode cX11_lists 28 = .ok (.invokestatic 354, 3) := by decide +kernel
theorem dX11_lists_31 : decode cX11_lists 31 = .ok (.istore_n 3, 1) := by decide +kernel
theorem dX11_lists_32 : decode cX11_lists 32 = .ok (.iconst 0, 1) := by decide +kernel
theorem dX11_lists_33 : decode cX11_lists 33 = .ok (.istore 4, 2) := by decide +kernel
theorem dX11_lists_35 : decode cX11_lists 35 = .ok (.iload 4, 2) := by decide +kernel
theorem dX11_lists_37 : decode cX11_lists 37 = .ok (.iload_n 3, 1) := by decide +kernel
theorem dX11_lists_38 : decode cX11_lists 38 = .ok (.if_icmp .ge 32, 3) := by decide +kernel
theorem dX11_lists_41 : decode cX11_lists 41 = .ok (.aload_n 0, 1) := by decide +kernel
theorem dX11_lists_42 : decode cX11_lists 42 = .ok (.getfield 49, 3) := by decide +kernel
theorem dX11_lists_45 : decode cX11_lists 45 = .ok (.iload_n 1, 1) := by decide +kernel
theorem dX11_lists_46 : decode cX11_lists 46 = .ok (.aaload, 1) := by decide +kernel
theorem dX11_lists_47 : decode cX11_lists 47 = .ok (.iload 4, 2) := by decide +kernel
theorem dX11_lists_49 : decode cX11_lists 49 = .ok (.aload_n 0, 1) := by decide +kernel
theorem dX11_lists_50 : decode cX11_lists 50 = .ok (.getfield 26, 3) := by decide +kernel
theorem dX11_lists_53 : decode cX11_lists 53 = .ok (.getfield 136, 3) := by decide +kernel
theorem dX11_lists_56 : decode cX11_lists 56 = .ok (.iload 4, 2) := by decide +kernel
theorem dX11_lists_58 : decode cX11_lists 58 = .ok (.iaload, 1) := by decide +kernel
theorem dX11_lists_59 : decode cX11_lists 59 = .ok (.i2l, 1) := by decide +kernel
theorem dX11_lists_60 : decode cX11_lists 60 = .ok (.invokevirtual 350, 3) := by decide +kernel
theorem dX11_lists_63 : decode cX11_lists 63 = .ok (.pop2, 1) := by decide +kernel
theorem dX11_lists_64 : decode cX11_lists 64 = .ok (.iinc 4 1, 3) := by decide +kernel
theorem dX11_lists_67 : decode cX11_lists 67 = .ok (.goto (-32), 3) := by decide +kernel
theorem dX11_lists_70 : decode cX11_lists 70 = .ok (.iload_n 3, 1) := by decide +kernel
theorem dX11_lists_71 : decode cX11_lists 71 = .ok (.ireturn, 1) := by decide +kernel
theorem dX11_image_0 : decode cX11_image 0 = .ok (.iload_n 1, 1) := by decide +kernel
theorem dX11_image_1 : decode cX11_image 1 = .ok (.invokestatic 359, 3) := by decide +kernel
theorem dX11_image_4 : decode cX11_image 4 = .ok (.ifCond .ne 6, 3) := by decide +kernel
theorem dX11_image_7 : decode cX11_image 7 = .ok (.bipush (-2), 2) := by decide +kernel
theorem dX11_image_9 : decode cX11_image 9 = .ok (.ireturn, 1) := by decide +kernel
theorem dX11_image_10 : decode cX11_image 10 = .ok (.aload_n 0, 1) := by decide +kernel
theorem dX11_image_11 : decode cX11_image 11 = .ok (.getfield 54, 3) := by decide +kernel
theorem dX11_image_14 : decode cX11_image 14 = .ok (.iload_n 1, 1) := by decide +kernel
theorem dX11_image_15 : decode cX11_image 15 = .ok (.aaload, 1) := by decide +kernel
theorem dX11_image_16 : decode cX11_image 16 = .ok (.aload_n 0, 1) := by decide +kernel
theorem dX11_image_17 : decode cX11_image 17 = .ok (.getfield 19, 3) := by decide +kernel
theorem dX11_image_20 : decode cX11_image 20 = .ok (.invokevirtual 114, 3) := by decide +kernel
theorem dX11_image_23 : decode cX11_image 23 = .ok (.aload_n 0, 1) := by decide +kernel
theorem dX11_image_24 : decode cX11_image 24 = .ok (.getfield 58, 3) := by decide +kernel
theorem dX11_image_27 : decode cX11_image 27 = .ok (.iload_n 1, 1) := by decide +kernel
theorem dX11_image_28 : decode cX11_image 28 = .ok (.aaload, 1) := by decide +kernel
theorem dX11_image_29 : decode cX11_image 29 = .ok (.aload_n 0, 1) := by decide +kernel
theorem dX11_image_30 : decode cX11_image 30 = .ok (.getfield 26, 3) := by decide +kernel
theorem dX11_image_33 : decode cX11_image 33 = .ok (.invokevirtual 121, 3) := by decide +kernel
theorem dX11_image_36 : decode cX11_image 36 = .ok (.aload_n 0, 1) := by decide +kernel
theorem dX11_image_37 : decode cX11_image 37 = .ok (.dup, 1) := by decide +kernel
theorem dX11_image_38 : decode cX11_image 38 = .ok (.getfield 362, 3) := by decide +kernel
theorem dX11_image_41 : decode cX11_image 41 = .ok (.iconst 1, 1) := by decide +kernel
theorem dX11_image_42 : decode cX11_image 42 = .ok (.iload_n 1, 1) := by decide +kernel
theorem dX11_image_43 : decode cX11_image 43 = .ok (.ishl, 1) := by decide +kernel
theorem dX11_image_44 : decode cX11_image 44 = .ok (.ior, 1) := by decide +kernel
theorem dX11_image_45 : decode cX11_image 45 = .ok (.putfield 362, 3) := by decide +kernel
theorem dX11_image_48 : decode cX11_image 48 = .ok (.iconst 0, 1) := by decide +kernel
theorem dX11_image_49 : decode cX11_image 49 = .ok (.ireturn, 1) := by decide +kernel
theorem dX11_restore_0 : decode cX11_restore 0 = .ok (.iload_n 1, 1) := by decide +kernel
theorem dX11_restore_1 : decode cX11_restore 1 = .ok (.invokestatic 359, 3) := by decide +kernel
theorem dX11_restore_4 : decode cX11_restore 4 = .ok (.ifCond .ne 6, 3) := by decide +kernel
theorem dX11_restore_7 : decode cX11_restore 7 = .ok (.bipush (-2), 2) := by decide +kernel
theorem dX11_restore_9 : decode cX11_restore 9 = .ok (.ireturn, 1) := by decide +kernel
theorem dX11_restore_10 : decode cX11_restore 10 = .ok (.aload_n 0, 1) := by decide +kernel
theorem dX11_restore_11 : decode cX11_restore 11 = .ok (.getfield 362, 3) := by decide +kernel
theorem dX11_restore_14 : decode cX11_restore 14 = .ok (.iload_n 1, 1) := by decide +kernel
theorem dX11_restore_15 : decode cX11_restore 15 = .ok (.ishr, 1) := by decide +kernel
theorem dX11_restore_16 : decode cX11_restore 16 = .ok (.iconst 1, 1) := by decide +kernel
theorem dX11_restore_17 : decode cX11_restore 17 = .ok (.iand, 1) := by decide +kernel
theorem dX11_restore_18 : decode cX11_restore 18 = .ok (.ifCond .ne 6, 3) := by decide +kernel
theorem dX11_restore_21 : decode cX11_restore 21 = .ok (.bipush (-5), 2) := by decide +kernel
theorem dX11_restore_23 : decode cX11_restore 23 = .ok (.ireturn, 1) := by decide +kernel
theorem dX11_restore_24 : decode cX11_restore 24 = .ok (.aload_n 0, 1) := by decide +kernel
theorem dX11_restore_25 : decode cX11_restore 25 = .ok (.getfield 19, 3) := by decide +kernel
theorem dX11_restore_28 : decode cX11_restore 28 = .ok (.aload_n 0, 1) := by decide +kernel
theorem dX11_restore_29 : decode cX11_restore 29 = .ok (.getfield 54, 3) := by decide +kernel
theorem dX11_restore_32 : decode cX11_restore 32 = .ok (.iload_n 1, 1) := by decide +kernel
theorem dX11_restore_33 : decode cX11_restore 33 = .ok (.aaload, 1) := by decide +kernel
theorem dX11_restore_34 : decode cX11_restore 34 = .ok (.invokevirtual 114, 3) := by decide +kernel
theorem dX11_restore_37 : decode cX11_restore 37 = .ok (.aload_n 0, 1) := by decide +kernel
theorem dX11_restore_38 : decode cX11_restore 38 = .ok (.getfield 26, 3) := by decide +kernel
theorem dX11_restore_41 : decode cX11_restore 41 = .ok (.aload_n 0, 1) := by decide +kernel
theorem dX11_restore_42 : decode cX11_restore 42 = .ok (.getfield 58, 3) := by decide +kernel
theorem dX11_restore_45 : decode cX11_restore 45 = .ok (.iload_n 1, 1) := by decide +kernel
theorem dX11_restore_46 : decode cX11_restore 46 = .ok (.aaload, 1) := by decide +kernel
theorem dX11_restore_47 : decode cX11_restore 47 = .ok (.invokevirtual 121, 3) := by decide +kernel
theorem dX11_restore_50 : decode cX11_restore 50 = .ok (.aload_n 0, 1) := by decide +kernel
theorem dX11_restore_51 : decode cX11_restore 51 = .ok (.getfield 43, 3) := by decide +kernel
theorem dX11_restore_54 : decode cX11_restore 54 = .ok (.invokevirtual 124, 3) := by decide +kernel
theorem dX11_restore_57 : decode cX11_restore 57 = .ok (.iconst 0, 1) := by decide +kernel
theorem dX11_restore_58 : decode cX11_restore 58 = .ok (.ireturn, 1) := by decide +kernel
theorem dX11_count_0 : decode cX11_count 0 = .ok (.iload_n 1, 1) := by decide +kernel
theorem dX11_count_1 : decode cX11_count 1 = .ok (.tableswitch 163 0 11 #[63, 71, 79, 87, 95, 103, 111, 126, 134, 142, 150, 155], 63) := by decide +kernel
theorem dX11_count_64 : decode cX11_count 64 = .ok (.aload_n 0, 1) := by decide +kernel
theorem dX11_count_65 : decode cX11_count 65 = .ok (.getfield 19, 3) := by decide +kernel
theorem dX11_count_68 : decode cX11_count 68 = .ok (.getfield 318, 3) := by decide +kernel
theorem dX11_count_71 : decode cX11_count 71 = .ok (.ireturn, 1) := by decide +kernel
theorem dX11_count_72 : decode cX11_count 72 = .ok (.aload_n 0, 1) := by decide +kernel
theorem dX11_count_73 : decode cX11_count 73 = .ok (.getfield 19, 3) := by decide +kernel
theorem dX11_count_76 : decode cX11_count 76 = .ok (.getfield 324, 3) := by decide +kernel
theorem dX11_count_79 : decode cX11_count 79 = .ok (.ireturn, 1) := by decide +kernel
theorem dX11_count_80 : decode cX11_count 80 = .ok (.aload_n 0, 1) := by decide +kernel
theorem dX11_count_81 : decode cX11_count 81 = .ok (.getfield 26, 3) := by decide +kernel
theorem dX11_count_84 : decode cX11_count 84 = .ok (.getfield 212, 3) := by decide +kernel
theorem dX11_count_87 : decode cX11_count 87 = .ok (.ireturn, 1) := by decide +kernel
theorem dX11_count_88 : decode cX11_count 88 = .ok (.aload_n 0, 1) := by decide +kernel
theorem dX11_count_89 : decode cX11_count 89 = .ok (.getfield 26, 3) := by decide +kernel
theorem dX11_count_92 : decode cX11_count 92 = .ok (.getfield 148, 3) := by decide +kernel
theorem dX11_count_95 : decode cX11_count 95 = .ok (.ireturn, 1) := by decide +kernel
theorem dX11_count_96 : decode cX11_count 96 = .ok (.aload_n 0, 1) := by decide +kernel
theorem dX11_count_97 : decode cX11_count 97 = .ok (.getfield 26, 3) := by decide +kernel
theorem dX11_count_100 : decode cX11_count 100 = .ok (.getfield 163, 3) := by decide +kernel
theorem dX11_count_103 : decode cX11_count 103 = .ok (.ireturn, 1) := by decide +kernel
theorem dX11_count_104 : decode cX11_count 104 = .ok (.aload_n 0, 1) := by decide +kernel
theorem dX11_count_105 : decode cX11_count 105 = .ok (.getfield 26, 3) := by decide +kernel
theorem dX11_count_108 : decode cX11_count 108 = .ok (.getfield 312, 3) := by decide +kernel
theorem dX11_count_111 : decode cX11_count 111 = .ok (.ireturn, 1) := by decide +kernel
theorem dX11_count_112 : decode cX11_count 112 = .ok (.aload_n 0, 1) := by decide +kernel
theorem dX11_count_113 : decode cX11_count 113 = .ok (.getfield 26, 3) := by decide +kernel
theorem dX11_count_116 : decode cX11_count 116 = .ok (.aload_n 0, 1) := by decide +kernel
theorem dX11_count_117 : decode cX11_count 117 = .ok (.getfield 19, 3) := by decide +kernel
theorem dX11_count_120 : decode cX11_count 120 = .ok (.invokevirtual 194, 3) := by decide +kernel
theorem dX11_count_123 : decode cX11_count 123 = .ok (.invokevirtual 241, 3) := by decide +kernel
theorem dX11_count_126 : decode cX11_count 126 = .ok (.ireturn, 1) := by decide +kernel
theorem dX11_count_127 : decode cX11_count 127 = .ok (.aload_n 0, 1) := by decide +kernel
theorem dX11_count_128 : decode cX11_count 128 = .ok (.getfield 19, 3) := by decide +kernel
theorem dX11_count_131 : decode cX11_count 131 = .ok (.getfield 151, 3) := by decide +kernel
theorem dX11_count_134 : decode cX11_count 134 = .ok (.ireturn, 1) := by decide +kernel
theorem dX11_count_135 : decode cX11_count 135 = .ok (.aload_n 0, 1) := by decide +kernel
theorem dX11_count_136 : decode cX11_count 136 = .ok (.getfield 19, 3) := by decide +kernel
theorem dX11_count_139 : decode cX11_count 139 = .ok (.getfield 283, 3) := by decide +kernel
theorem dX11_count_142 : decode cX11_count 142 = .ok (.ireturn, 1) := by decide +kernel
theorem dX11_count_143 : decode cX11_count 143 = .ok (.aload_n 0, 1) := by decide +kernel
theorem dX11_count_144 : decode cX11_count 144 = .ok (.getfield 43, 3) := by decide +kernel
theorem dX11_count_147 : decode cX11_count 147 = .ok (.getfield 218, 3) := by decide +kernel
theorem dX11_count_150 : decode cX11_count 150 = .ok (.ireturn, 1) := by decide +kernel
theorem dX11_count_151 : decode cX11_count 151 = .ok (.aload_n 0, 1) := by decide +kernel
theorem dX11_count_152 : decode cX11_count 152 = .ok (.getfield 98, 3) := by decide +kernel
theorem dX11_count_155 : decode cX11_count 155 = .ok (.ireturn, 1) := by decide +kernel
theorem dX11_count_156 : decode cX11_count 156 = .ok (.aload_n 0, 1) := by decide +kernel
theorem dX11_count_157 : decode cX11_count 157 = .ok (.getfield 19, 3) := by decide +kernel
theorem dX11_count_160 : decode cX11_count 160 = .ok (.getfield 127, 3) := by decide +kernel
theorem dX11_count_163 : decode cX11_count 163 = .ok (.ireturn, 1) := by decide +kernel
theorem dX11_count_164 : decode cX11_count 164 = .ok (.iconst (-1), 1) := by decide +kernel
theorem dX11_count_165 : decode cX11_count 165 = .ok (.ireturn, 1) := by decide +kernel
theorem dX11_isCell_0 : decode cX11_isCell 0 = .ok (.iload_n 1, 1) := by decide +kernel
theorem dX11_isCell_1 : decode cX11_isCell 1 = .ok (.ifCond .lt 18, 3) := by decide +kernel
theorem dX11_isCell_4 : decode cX11_isCell 4 = .ok (.iload_n 1, 1) := by decide +kernel
theorem dX11_isCell_5 : decode cX11_isCell 5 = .ok (.aload_n 0, 1) := by decide +kernel
theorem dX11_isCell_6 : decode cX11_isCell 6 = .ok (.getfield 19, 3) := by decide +kernel
theorem dX11_isCell_9 : decode cX11_isCell 9 = .ok (.invokevirtual 194, 3) := by decide +kernel
theorem dX11_isCell_12 : decode cX11_isCell 12 = .ok (.if_icmp .ge 7, 3) := by decide +kernel
theorem dX11_isCell_15 : decode cX11_isCell 15 = .ok (.iconst 1, 1) := by decide +kernel
theorem dX11_isCell_16 : decode cX11_isCell 16 = .ok (.goto 4, 3) := by decide +kernel
theorem dX11_isCell_19 : decode cX11_isCell 19 = .ok (.iconst 0, 1) := by decide +kernel
theorem dX11_isCell_20 : decode cX11_isCell 20 = .ok (.ireturn, 1) := by decide +kernel
theorem dX11_isHouse_0 : decode cX11_isHouse 0 = .ok (.iload_n 1, 1) := by decide +kernel
theorem dX11_isHouse_1 : decode cX11_isHouse 1 = .ok (.ifCond .lt 18, 3) := by decide +kernel
theorem dX11_isHouse_4 : decode cX11_isHouse 4 = .ok (.iload_n 1, 1) := by decide +kernel
theorem dX11_isHouse_5 : decode cX11_isHouse 5 = .ok (.aload_n 0, 1) := by decide +kernel
theorem dX11_isHouse_6 : decode cX11_isHouse 6 = .ok (.getfield 26, 3) := by decide +kernel
theorem dX11_isHouse_9 : decode cX11_isHouse 9 = .ok (.getfield 212, 3) := by decide +kernel
theorem dX11_isHouse_12 : decode cX11_isHouse 12 = .ok (.if_icmp .ge 7, 3) := by decide +kernel
theorem dX11_isHouse_15 : decode cX11_isHouse 15 = .ok (.iconst 1, 1) := by decide +kernel
theorem dX11_isHouse_16 : decode cX11_isHouse 16 = .ok (.goto 4, 3) := by decide +kernel
theorem dX11_isHouse_19 : decode cX11_isHouse 19 = .ok (.iconst 0, 1) := by decide +kernel
theorem dX11_isHouse_20 : decode cX11_isHouse 20 = .ok (.ireturn, 1) := by decide +kernel
theorem dX11_isLevel_0 : decode cX11_isLevel 0 = .ok (.lload_n 0, 1) := by decide +kernel
theorem dX11_isLevel_1 : decode cX11_isLevel 1 = .ok (.lconst 0, 1) := by decide +kernel
theorem dX11_isLevel_2 : decode cX11_isLevel 2 = .ok (.lcmp, 1) := by decide +kernel
theorem dX11_isLevel_3 : decode cX11_isLevel 3 = .ok (.ifCond .lt 15, 3) := by decide +kernel
theorem dX11_isLevel_6 : decode cX11_isLevel 6 = .ok (.lload_n 0, 1) := by decide +kernel
theorem dX11_isLevel_7 : decode cX11_isLevel 7 = .ok (.ldc2_w 365, 3) := by decide +kernel
theorem dX11_isLevel_10 : decode cX11_isLevel 10 = .ok (.lcmp, 1) := by decide +kernel
theorem dX11_isLevel_11 : decode cX11_isLevel 11 = .ok (.ifCond .gt 7, 3) := by decide +kernel
theorem dX11_isLevel_14 : decode cX11_isLevel 14 = .ok (.iconst 1, 1) := by decide +kernel
theorem dX11_isLevel_15 : decode cX11_isLevel 15 = .ok (.goto 4, 3) := by decide +kernel
theorem dX11_isLevel_18 : decode cX11_isLevel 18 = .ok (.iconst 0, 1) := by decide +kernel
theorem dX11_isLevel_19 : decode cX11_isLevel 19 = .ok (.ireturn, 1) := by decide +kernel
theorem dX11_isAhead_0 : decode cX11_isAhead 0 = .ok (.iload_n 0, 1) := by decide +kernel
theorem dX11_isAhead_1 : decode cX11_isAhead 1 = .ok (.ifCond .lt 13, 3) := by decide +kernel
theorem dX11_isAhead_4 : decode cX11_isAhead 4 = .ok (.iload_n 0, 1) := by decide +kernel
theorem dX11_isAhead_5 : decode cX11_isAhead 5 = .ok (.bipush 60, 2) := by decide +kernel
theorem dX11_isAhead_7 : decode cX11_isAhead 7 = .ok (.if_icmp .gt 7, 3) := by decide +kernel
theorem dX11_isAhead_10 : decode cX11_isAhead 10 = .ok (.iconst 1, 1) := by decide +kernel
theorem dX11_isAhead_11 : decode cX11_isAhead 11 = .ok (.goto 4, 3) := by decide +kernel
theorem dX11_isAhead_14 : decode cX11_isAhead 14 = .ok (.iconst 0, 1) := by decide +kernel
theorem dX11_isAhead_15 : decode cX11_isAhead 15 = .ok (.ireturn, 1) := by decide +kernel
theorem dX11_isTray_0 : decode cX11_isTray 0 = .ok (.iload_n 0, 1) := by decide +kernel
theorem dX11_isTray_1 : decode cX11_isTray 1 = .ok (.ifCond .lt 12, 3) := by decide +kernel
theorem dX11_isTray_4 : decode cX11_isTray 4 = .ok (.iload_n 0, 1) := by decide +kernel
theorem dX11_isTray_5 : decode cX11_isTray 5 = .ok (.iconst 4, 1) := by decide +kernel
theorem dX11_isTray_6 : decode cX11_isTray 6 = .ok (.if_icmp .ge 7, 3) := by decide +kernel
theorem dX11_isTray_9 : decode cX11_isTray 9 = .ok (.iconst 1, 1) := by decide +kernel
theorem dX11_isTray_10 : decode cX11_isTray 10 = .ok (.goto 4, 3) := by decide +kernel
theorem dX11_isTray_13 : decode cX11_isTray 13 = .ok (.iconst 0, 1) := by decide +kernel
theorem dX11_isTray_14 : decode cX11_isTray 14 = .ok (.ireturn, 1) := by decide +kernel
theorem dX11_isImage_0 : decode cX11_isImage 0 = .ok (.iload_n 0, 1) := by decide +kernel
theorem dX11_isImage_1 : decode cX11_isImage 1 = .ok (.ifCond .lt 12, 3) := by decide +kernel
theorem dX11_isImage_4 : decode cX11_isImage 4 = .ok (.iload_n 0, 1) := by decide +kernel
theorem dX11_isImage_5 : decode cX11_isImage 5 = .ok (.iconst 2, 1) := by decide +kernel
theorem dX11_isImage_6 : decode cX11_isImage 6 = .ok (.if_icmp .ge 7, 3) := by decide +kernel
theorem dX11_isImage_9 : decode cX11_isImage 9 = .ok (.iconst 1, 1) := by decide +kernel
theorem dX11_isImage_10 : decode cX11_isImage 10 = .ok (.goto 4, 3) := by decide +kernel
theorem dX11_isImage_13 : decode cX11_isImage 13 = .ok (.iconst 0, 1) := by decide +kernel
theorem dX11_isImage_14 : decode cX11_isImage 14 = .ok (.ireturn, 1) := by decide +kernel
theorem dX11_putBytes_0 : decode cX11_putBytes 0 = .ok (.bipush 24, 2) := by decide +kernel
theorem dX11_putBytes_2 : decode cX11_putBytes 2 = .ok (.istore_n 2, 1) := by decide +kernel
theorem dX11_putBytes_3 : decode cX11_putBytes 3 = .ok (.iload_n 2, 1) := by decide +kernel
theorem dX11_putBytes_4 : decode cX11_putBytes 4 = .ok (.ifCond .lt 45, 3) := by decide +kernel
theorem dX11_putBytes_7 : decode cX11_putBytes 7 = .ok (.aload_n 0, 1) := by decide +kernel
theorem dX11_putBytes_8 : decode cX11_putBytes 8 = .ok (.getfield 98, 3) := by decide +kernel
theorem dX11_putBytes_11 : decode cX11_putBytes 11 = .ok (.sipush 900, 3) := by decide +kernel
theorem dX11_putBytes_14 : decode cX11_putBytes 14 = .ok (.if_icmp .ge 35, 3) := by decide +kernel
theorem dX11_putBytes_17 : decode cX11_putBytes 17 = .ok (.aload_n 0, 1) := by decide +kernel
theorem dX11_putBytes_18 : decode cX11_putBytes 18 = .ok (.getfield 12, 3) := by decide +kernel
theorem dX11_putBytes_21 : decode cX11_putBytes 21 = .ok (.getfield 367, 3) := by decide +kernel
theorem dX11_putBytes_24 : decode cX11_putBytes 24 = .ok (.aload_n 0, 1) := by decide +kernel
theorem dX11_putBytes_25 : decode cX11_putBytes 25 = .ok (.getfield 98, 3) := by decide +kernel
theorem dX11_putBytes_28 : decode cX11_putBytes 28 = .ok (.iload_n 1, 1) := by decide +kernel
theorem dX11_putBytes_29 : decode cX11_putBytes 29 = .ok (.iload_n 2, 1) := by decide +kernel
theorem dX11_putBytes_30 : decode cX11_putBytes 30 = .ok (.ishr, 1) := by decide +kernel
theorem dX11_putBytes_31 : decode cX11_putBytes 31 = .ok (.i2b, 1) := by decide +kernel
theorem dX11_putBytes_32 : decode cX11_putBytes 32 = .ok (.bastore, 1) := by decide +kernel
theorem dX11_putBytes_33 : decode cX11_putBytes 33 = .ok (.aload_n 0, 1) := by decide +kernel
theorem dX11_putBytes_34 : decode cX11_putBytes 34 = .ok (.dup, 1) := by decide +kernel
theorem dX11_putBytes_35 : decode cX11_putBytes 35 = .ok (.getfield 98, 3) := by decide +kernel
theorem dX11_putBytes_38 : decode cX11_putBytes 38 = .ok (.iconst 1, 1) := by decide +kernel
theorem dX11_putBytes_39 : decode cX11_putBytes 39 = .ok (.iadd, 1) := by decide +kernel
theorem dX11_putBytes_40 : decode cX11_putBytes 40 = .ok (.putfield 98, 3) := by decide +kernel
theorem dX11_putBytes_43 : decode cX11_putBytes 43 = .ok (.iinc 2 (-8), 3) := by decide +kernel
theorem dX11_putBytes_46 : decode cX11_putBytes 46 = .ok (.goto (-43), 3) := by decide +kernel
theorem dX11_putBytes_49 : decode cX11_putBytes 49 = .ok (.return_, 1) := by decide +kernel
theorem dX11_confirmed_0 : decode cX11_confirmed 0 = .ok (.aload_n 0, 1) := by decide +kernel
theorem dX11_confirmed_1 : decode cX11_confirmed 1 = .ok (.getfield 43, 3) := by decide +kernel
theorem dX11_confirmed_4 : decode cX11_confirmed 4 = .ok (.invokevirtual 185, 3) := by decide +kernel
theorem dX11_confirmed_7 : decode cX11_confirmed 7 = .ok (.iload_n 1, 1) := by decide +kernel
theorem dX11_confirmed_8 : decode cX11_confirmed 8 = .ok (.ireturn, 1) := by decide +kernel
theorem dX11_confirmedIfAny_0 : decode cX11_confirmedIfAny 0 = .ok (.iload_n 1, 1) := by decide +kernel
theorem dX11_confirmedIfAny_1 : decode cX11_confirmedIfAny 1 = .ok (.ifCond .le 11, 3) := by decide +kernel
theorem dX11_confirmedIfAny_4 : decode cX11_confirmedIfAny 4 = .ok (.aload_n 0, 1) := by decide +kernel
theorem dX11_confirmedIfAny_5 : decode cX11_confirmedIfAny 5 = .ok (.iload_n 1, 1) := by decide +kernel
theorem dX11_confirmedIfAny_6 : decode cX11_confirmedIfAny 6 = .ok (.invokevirtual 202, 3) := by decide +kernel
theorem dX11_confirmedIfAny_9 : decode cX11_confirmedIfAny 9 = .ok (.goto 4, 3) := by decide +kernel
theorem dX11_confirmedIfAny_12 : decode cX11_confirmedIfAny 12 = .ok (.iload_n 1, 1) := by decide +kernel
theorem dX11_confirmedIfAny_13 : decode cX11_confirmedIfAny 13 = .ok (.ireturn, 1) := by decide +kernel
theorem dX11_refusedTray_0 : decode cX11_refusedTray 0 = .ok (.iload_n 1, 1) := by decide +kernel
theorem dX11_refusedTray_1 : decode cX11_refusedTray 1 = .ok (.invokestatic 341, 3) := by decide +kernel
theorem dX11_refusedTray_4 : decode cX11_refusedTray 4 = .ok (.ifCond .ne 6, 3) := by decide +kernel
theorem dX11_refusedTray_7 : decode cX11_refusedTray 7 = .ok (.bipush (-2), 2) := by decide +kernel
theorem dX11_refusedTray_9 : decode cX11_refusedTray 9 = .ok (.ireturn, 1) := by decide +kernel
theorem dX11_refusedTray_10 : decode cX11_refusedTray 10 = .ok (.aload_n 0, 1) := by decide +kernel
theorem dX11_refusedTray_11 : decode cX11_refusedTray 11 = .ok (.getfield 49, 3) := by decide +kernel
theorem dX11_refusedTray_14 : decode cX11_refusedTray 14 = .ok (.iload_n 1, 1) := by decide +kernel
theorem dX11_refusedTray_15 : decode cX11_refusedTray 15 = .ok (.aaload, 1) := by decide +kernel
theorem dX11_refusedTray_16 : decode cX11_refusedTray 16 = .ok (.getfield 232, 3) := by decide +kernel
theorem dX11_refusedTray_19 : decode cX11_refusedTray 19 = .ok (.iconst (-1), 1) := by decide +kernel
theorem dX11_refusedTray_20 : decode cX11_refusedTray 20 = .ok (.if_icmp .ne 8, 3) := by decide +kernel
theorem dX11_refusedTray_23 : decode cX11_refusedTray 23 = .ok (.bipush (-6), 2) := by decide +kernel
theorem dX11_refusedTray_25 : decode cX11_refusedTray 25 = .ok (.goto 4, 3) := by decide +kernel
theorem dX11_refusedTray_28 : decode cX11_refusedTray 28 = .ok (.iconst 0, 1) := by decide +kernel
theorem dX11_refusedTray_29 : decode cX11_refusedTray 29 = .ok (.ireturn, 1) := by decide +kernel
theorem dX11_refusedLooks_0 : decode cX11_refusedLooks 0 = .ok (.aload_n 0, 1) := by decide +kernel
theorem dX11_refusedLooks_1 : decode cX11_refusedLooks 1 = .ok (.iload_n 1, 1) := by decide +kernel
theorem dX11_refusedLooks_2 : decode cX11_refusedLooks 2 = .ok (.invokevirtual 225, 3) := by decide +kernel
theorem dX11_refusedLooks_5 : decode cX11_refusedLooks 5 = .ok (.istore_n 2, 1) := by decide +kernel
theorem dX11_refusedLooks_6 : decode cX11_refusedLooks 6 = .ok (.iload_n 2, 1) := by decide +kernel
theorem dX11_refusedLooks_7 : decode cX11_refusedLooks 7 = .ok (.ifCond .eq 5, 3) := by decide +kernel
theorem dX11_refusedLooks_10 : decode cX11_refusedLooks 10 = .ok (.iload_n 2, 1) := by decide +kernel
theorem dX11_refusedLooks_11 : decode cX11_refusedLooks 11 = .ok (.ireturn, 1) := by decide +kernel
theorem dX11_refusedLooks_12 : decode cX11_refusedLooks 12 = .ok (.aload_n 0, 1) := by decide +kernel
theorem dX11_refusedLooks_13 : decode cX11_refusedLooks 13 = .ok (.getfield 49, 3) := by decide +kernel
theorem dX11_refusedLooks_16 : decode cX11_refusedLooks 16 = .ok (.iload_n 1, 1) := by decide +kernel
theorem dX11_refusedLooks_17 : decode cX11_refusedLooks 17 = .ok (.aaload, 1) := by decide +kernel
theorem dX11_refusedLooks_18 : decode cX11_refusedLooks 18 = .ok (.astore_n 3, 1) := by decide +kernel
theorem dX11_refusedLooks_19 : decode cX11_refusedLooks 19 = .ok (.aload_n 3, 1) := by decide +kernel
theorem dX11_refusedLooks_20 : decode cX11_refusedLooks 20 = .ok (.getfield 232, 3) := by decide +kernel
theorem dX11_refusedLooks_23 : decode cX11_refusedLooks 23 = .ok (.iconst 1, 1) := by decide +kernel
theorem dX11_refusedLooks_24 : decode cX11_refusedLooks 24 = .ok (.if_icmp .lt 12, 3) := by decide +kernel
theorem dX11_refusedLooks_27 : decode cX11_refusedLooks 27 = .ok (.aload_n 3, 1) := by decide +kernel
theorem dX11_refusedLooks_28 : decode cX11_refusedLooks 28 = .ok (.getfield 232, 3) := by decide +kernel
theorem dX11_refusedLooks_31 : decode cX11_refusedLooks 31 = .ok (.bipush 8, 2) := by decide +kernel
theorem dX11_refusedLooks_33 : decode cX11_refusedLooks 33 = .ok (.if_icmp .le 6, 3) := by decide +kernel
theorem dX11_refusedLooks_36 : decode cX11_refusedLooks 36 = .ok (.bipush (-4), 2) := by decide +kernel
theorem dX11_refusedLooks_38 : decode cX11_refusedLooks 38 = .ok (.ireturn, 1) := by decide +kernel
