theorem dL_cell_0 : decode cL_cell 0 = .ok (.iload_n 1, 1) := by decide +kernel
theorem dL_cell_1 : decode cL_cell 1 = .ok (.aload_n 0, 1) := by decide +kernel
theorem dL_cell_2 : decode cL_cell 2 = .ok (.arraylength, 1) := by decide +kernel
theorem dL_cell_3 : decode cL_cell 3 = .ok (.if_icmp .ge 9, 3) := by decide +kernel
theorem dL_cell_6 : decode cL_cell 6 = .ok (.aload_n 0, 1) := by decide +kernel
theorem dL_cell_7 : decode cL_cell 7 = .ok (.iload_n 1, 1) := by decide +kernel
theorem dL_cell_8 : decode cL_cell 8 = .ok (.iaload, 1) := by decide +kernel
theorem dL_cell_9 : decode cL_cell 9 = .ok (.goto 9, 3) := by decide +kernel
theorem dL_cell_12 : decode cL_cell 12 = .ok (.ldc 7, 2) := by decide +kernel
theorem dL_cell_14 : decode cL_cell 14 = .ok (.iload_n 1, 1) := by decide +kernel
theorem dL_cell_15 : decode cL_cell 15 = .ok (.iconst 3, 1) := by decide +kernel
theorem dL_cell_16 : decode cL_cell 16 = .ok (.iadd, 1) := by decide +kernel
theorem dL_cell_17 : decode cL_cell 17 = .ok (.imul, 1) := by decide +kernel
theorem dL_cell_18 : decode cL_cell 18 = .ok (.ireturn, 1) := by decide +kernel
theorem dL_size_0 : decode cL_size 0 = .ok (.lconst 1, 1) := by decide +kernel
theorem dL_size_1 : decode cL_size 1 = .ok (.lstore_n 3, 1) := by decide +kernel
theorem dL_size_2 : decode cL_size 2 = .ok (.iconst 0, 1) := by decide +kernel
theorem dL_size_3 : decode cL_size 3 = .ok (.istore 5, 2) := by decide +kernel
theorem dL_size_5 : decode cL_size 5 = .ok (.iload 5, 2) := by decide +kernel
theorem dL_size_7 : decode cL_size 7 = .ok (.iconst 5, 1) := by decide +kernel
theorem dL_size_8 : decode cL_size 8 = .ok (.if_icmp .ge 93, 3) := by decide +kernel
theorem dL_size_11 : decode cL_size 11 = .ok (.lload_n 3, 1) := by decide +kernel
theorem dL_size_12 : decode cL_size 12 = .ok (.iload_n 1, 1) := by decide +kernel
theorem dL_size_13 : decode cL_size 13 = .ok (.iload 5, 2) := by decide +kernel
theorem dL_size_15 : decode cL_size 15 = .ok (.ishr, 1) := by decide +kernel
theorem dL_size_16 : decode cL_size 16 = .ok (.iconst 1, 1) := by decide +kernel
theorem dL_size_17 : decode cL_size 17 = .ok (.iand, 1) := by decide +kernel
theorem dL_size_18 : decode cL_size 18 = .ok (.iconst 1, 1) := by decide +kernel
theorem dL_size_19 : decode cL_size 19 = .ok (.if_icmp .ne 13, 3) := by decide +kernel
theorem dL_size_22 : decode cL_size 22 = .ok (.aload_n 0, 1) := by decide +kernel
theorem dL_size_23 : decode cL_size 23 = .ok (.iload_n 2, 1) := by decide +kernel
theorem dL_size_24 : decode cL_size 24 = .ok (.iload 5, 2) := by decide +kernel
theorem dL_size_26 : decode cL_size 26 = .ok (.iadd, 1) := by decide +kernel
theorem dL_size_27 : decode cL_size 27 = .ok (.iaload, 1) := by decide +kernel
theorem dL_size_28 : decode cL_size 28 = .ok (.i2l, 1) := by decide +kernel
theorem dL_size_29 : decode cL_size 29 = .ok (.goto 4, 3) := by decide +kernel
theorem dL_size_32 : decode cL_size 32 = .ok (.lconst 1, 1) := by decide +kernel
theorem dL_size_33 : decode cL_size 33 = .ok (.lmul, 1) := by decide +kernel
theorem dL_size_34 : decode cL_size 34 = .ok (.lstore_n 3, 1) := by decide +kernel
theorem dL_size_35 : decode cL_size 35 = .ok (.iconst 0, 1) := by decide +kernel
theorem dL_size_36 : decode cL_size 36 = .ok (.istore 6, 2) := by decide +kernel
theorem dL_size_38 : decode cL_size 38 = .ok (.iload 6, 2) := by decide +kernel
theorem dL_size_40 : decode cL_size 40 = .ok (.iload 5, 2) := by decide +kernel
theorem dL_size_42 : decode cL_size 42 = .ok (.if_icmp .ge 53, 3) := by decide +kernel
theorem dL_size_45 : decode cL_size 45 = .ok (.iload_n 1, 1) := by decide +kernel
theorem dL_size_46 : decode cL_size 46 = .ok (.iload 5, 2) := by decide +kernel
theorem dL_size_48 : decode cL_size 48 = .ok (.ishr, 1) := by decide +kernel
theorem dL_size_49 : decode cL_size 49 = .ok (.iconst 1, 1) := by decide +kernel
theorem dL_size_50 : decode cL_size 50 = .ok (.iand, 1) := by decide +kernel
theorem dL_size_51 : decode cL_size 51 = .ok (.iconst 1, 1) := by decide +kernel
theorem dL_size_52 : decode cL_size 52 = .ok (.if_icmp .ne 35, 3) := by decide +kernel
theorem dL_size_55 : decode cL_size 55 = .ok (.iload_n 1, 1) := by decide +kernel
theorem dL_size_56 : decode cL_size 56 = .ok (.iload 6, 2) := by decide +kernel
theorem dL_size_58 : decode cL_size 58 = .ok (.ishr, 1) := by decide +kernel
theorem dL_size_59 : decode cL_size 59 = .ok (.iconst 1, 1) := by decide +kernel
theorem dL_size_60 : decode cL_size 60 = .ok (.iand, 1) := by decide +kernel
theorem dL_size_61 : decode cL_size 61 = .ok (.iconst 1, 1) := by decide +kernel
theorem dL_size_62 : decode cL_size 62 = .ok (.if_icmp .ne 25, 3) := by decide +kernel
theorem dL_size_65 : decode cL_size 65 = .ok (.lload_n 3, 1) := by decide +kernel
theorem dL_size_66 : decode cL_size 66 = .ok (.aload_n 0, 1) := by decide +kernel
theorem dL_size_67 : decode cL_size 67 = .ok (.bipush 10, 2) := by decide +kernel
theorem dL_size_69 : decode cL_size 69 = .ok (.iconst 5, 1) := by decide +kernel
theorem dL_size_70 : decode cL_size 70 = .ok (.iload 6, 2) := by decide +kernel
theorem dL_size_72 : decode cL_size 72 = .ok (.imul, 1) := by decide +kernel
theorem dL_size_73 : decode cL_size 73 = .ok (.iadd, 1) := by decide +kernel
theorem dL_size_74 : decode cL_size 74 = .ok (.iload 5, 2) := by decide +kernel
theorem dL_size_76 : decode cL_size 76 = .ok (.iadd, 1) := by decide +kernel
theorem dL_size_77 : decode cL_size 77 = .ok (.iaload, 1) := by decide +kernel
theorem dL_size_78 : decode cL_size 78 = .ok (.i2l, 1) := by decide +kernel
theorem dL_size_79 : decode cL_size 79 = .ok (.lmul, 1) := by decide +kernel
theorem dL_size_80 : decode cL_size 80 = .ok (.ldc2_w 9, 3) := by decide +kernel
theorem dL_size_83 : decode cL_size 83 = .ok (.ldiv, 1) := by decide +kernel
theorem dL_size_84 : decode cL_size 84 = .ok (.goto 4, 3) := by decide +kernel
theorem dL_size_87 : decode cL_size 87 = .ok (.lload_n 3, 1) := by decide +kernel
theorem dL_size_88 : decode cL_size 88 = .ok (.lstore_n 3, 1) := by decide +kernel
theorem dL_size_89 : decode cL_size 89 = .ok (.iinc 6 1, 3) := by decide +kernel
theorem dL_size_92 : decode cL_size 92 = .ok (.goto (-54), 3) := by decide +kernel
theorem dL_size_95 : decode cL_size 95 = .ok (.iinc 5 1, 3) := by decide +kernel
theorem dL_size_98 : decode cL_size 98 = .ok (.goto (-93), 3) := by decide +kernel
theorem dL_size_101 : decode cL_size 101 = .ok (.lload_n 3, 1) := by decide +kernel
theorem dL_size_102 : decode cL_size 102 = .ok (.lconst 0, 1) := by decide +kernel
theorem dL_size_103 : decode cL_size 103 = .ok (.lcmp, 1) := by decide +kernel
theorem dL_size_104 : decode cL_size 104 = .ok (.ifCond .ne 7, 3) := by decide +kernel
theorem dL_size_107 : decode cL_size 107 = .ok (.lconst 1, 1) := by decide +kernel
theorem dL_size_108 : decode cL_size 108 = .ok (.goto 4, 3) := by decide +kernel
theorem dL_size_111 : decode cL_size 111 = .ok (.lload_n 3, 1) := by decide +kernel
theorem dL_size_112 : decode cL_size 112 = .ok (.lreturn, 1) := by decide +kernel
theorem dL_least_0 : decode cL_least 0 = .ok (.aload_n 3, 1) := by decide +kernel
theorem dL_least_1 : decode cL_least 1 = .ok (.iconst 0, 1) := by decide +kernel
theorem dL_least_2 : decode cL_least 2 = .ok (.lconst 0, 1) := by decide +kernel
theorem dL_least_3 : decode cL_least 3 = .ok (.lastore, 1) := by decide +kernel
theorem dL_least_4 : decode cL_least 4 = .ok (.iconst 1, 1) := by decide +kernel
theorem dL_least_5 : decode cL_least 5 = .ok (.istore 4, 2) := by decide +kernel
theorem dL_least_7 : decode cL_least 7 = .ok (.iload 4, 2) := by decide +kernel
theorem dL_least_9 : decode cL_least 9 = .ok (.iload_n 1, 1) := by decide +kernel
theorem dL_least_10 : decode cL_least 10 = .ok (.if_icmp .gt 99, 3) := by decide +kernel
theorem dL_least_13 : decode cL_least 13 = .ok (.aload_n 3, 1) := by decide +kernel
theorem dL_least_14 : decode cL_least 14 = .ok (.iload 4, 2) := by decide +kernel
theorem dL_least_16 : decode cL_least 16 = .ok (.ldc2_w 11, 3) := by decide +kernel
theorem dL_least_19 : decode cL_least 19 = .ok (.lastore, 1) := by decide +kernel
theorem dL_least_20 : decode cL_least 20 = .ok (.iconst 0, 1) := by decide +kernel
theorem dL_least_21 : decode cL_least 21 = .ok (.istore 5, 2) := by decide +kernel
theorem dL_least_23 : decode cL_least 23 = .ok (.iload 5, 2) := by decide +kernel
theorem dL_least_25 : decode cL_least 25 = .ok (.iconst 5, 1) := by decide +kernel
theorem dL_least_26 : decode cL_least 26 = .ok (.if_icmp .ge 63, 3) := by decide +kernel
theorem dL_least_29 : decode cL_least 29 = .ok (.iload 4, 2) := by decide +kernel
theorem dL_least_31 : decode cL_least 31 = .ok (.iconst 1, 1) := by decide +kernel
theorem dL_least_32 : decode cL_least 32 = .ok (.iload 5, 2) := by decide +kernel
theorem dL_least_34 : decode cL_least 34 = .ok (.ishl, 1) := by decide +kernel
theorem dL_least_35 : decode cL_least 35 = .ok (.iconst (-1), 1) := by decide +kernel
theorem dL_least_36 : decode cL_least 36 = .ok (.ixor, 1) := by decide +kernel
theorem dL_least_37 : decode cL_least 37 = .ok (.iand, 1) := by decide +kernel
theorem dL_least_38 : decode cL_least 38 = .ok (.istore 6, 2) := by decide +kernel
theorem dL_least_40 : decode cL_least 40 = .ok (.aload_n 3, 1) := by decide +kernel
theorem dL_least_41 : decode cL_least 41 = .ok (.iload 4, 2) := by decide +kernel
theorem dL_least_43 : decode cL_least 43 = .ok (.iload 6, 2) := by decide +kernel
theorem dL_least_45 : decode cL_least 45 = .ok (.iload 4, 2) := by decide +kernel
theorem dL_least_47 : decode cL_least 47 = .ok (.if_icmp .eq 31, 3) := by decide +kernel
theorem dL_least_50 : decode cL_least 50 = .ok (.aload_n 3, 1) := by decide +kernel
theorem dL_least_51 : decode cL_least 51 = .ok (.iload 4, 2) := by decide +kernel
theorem dL_least_53 : decode cL_least 53 = .ok (.laload, 1) := by decide +kernel
theorem dL_least_54 : decode cL_least 54 = .ok (.lconst 0, 1) := by decide +kernel
theorem dL_least_55 : decode cL_least 55 = .ok (.lcmp, 1) := by decide +kernel
theorem dL_least_56 : decode cL_least 56 = .ok (.ifCond .lt 15, 3) := by decide +kernel
theorem dL_least_59 : decode cL_least 59 = .ok (.aload_n 3, 1) := by decide +kernel
theorem dL_least_60 : decode cL_least 60 = .ok (.iload 6, 2) := by decide +kernel
theorem dL_least_62 : decode cL_least 62 = .ok (.laload, 1) := by decide +kernel
theorem dL_least_63 : decode cL_least 63 = .ok (.aload_n 3, 1) := by decide +kernel
theorem dL_least_64 : decode cL_least 64 = .ok (.iload 4, 2) := by decide +kernel
theorem dL_least_66 : decode cL_least 66 = .ok (.laload, 1) := by decide +kernel
theorem dL_least_67 : decode cL_least 67 = .ok (.lcmp, 1) := by decide +kernel
theorem dL_least_68 : decode cL_least 68 = .ok (.ifCond .ge 10, 3) := by decide +kernel
theorem dL_least_71 : decode cL_least 71 = .ok (.aload_n 3, 1) := by decide +kernel
theorem dL_least_72 : decode cL_least 72 = .ok (.iload 6, 2) := by decide +kernel
theorem dL_least_74 : decode cL_least 74 = .ok (.laload, 1) := by decide +kernel
theorem dL_least_75 : decode cL_least 75 = .ok (.goto 7, 3) := by decide +kernel
theorem dL_least_78 : decode cL_least 78 = .ok (.aload_n 3, 1) := by decide +kernel
theorem dL_least_79 : decode cL_least 79 = .ok (.iload 4, 2) := by decide +kernel
theorem dL_least_81 : decode cL_least 81 = .ok (.laload, 1) := by decide +kernel
theorem dL_least_82 : decode cL_least 82 = .ok (.lastore, 1) := by decide +kernel
theorem dL_least_83 : decode cL_least 83 = .ok (.iinc 5 1, 3) := by decide +kernel
theorem dL_least_86 : decode cL_least 86 = .ok (.goto (-63), 3) := by decide +kernel
theorem dL_least_89 : decode cL_least 89 = .ok (.aload_n 3, 1) := by decide +kernel
theorem dL_least_90 : decode cL_least 90 = .ok (.iload 4, 2) := by decide +kernel
theorem dL_least_92 : decode cL_least 92 = .ok (.dup2, 1) := by decide +kernel
theorem dL_least_93 : decode cL_least 93 = .ok (.laload, 1) := by decide +kernel
theorem dL_least_94 : decode cL_least 94 = .ok (.aload_n 0, 1) := by decide +kernel
theorem dL_least_95 : decode cL_least 95 = .ok (.iload 4, 2) := by decide +kernel
theorem dL_least_97 : decode cL_least 97 = .ok (.iload_n 2, 1) := by decide +kernel
theorem dL_least_98 : decode cL_least 98 = .ok (.invokestatic 13, 3) := by decide +kernel
theorem dL_least_101 : decode cL_least 101 = .ok (.ladd, 1) := by decide +kernel
theorem dL_least_102 : decode cL_least 102 = .ok (.lastore, 1) := by decide +kernel
theorem dL_least_103 : decode cL_least 103 = .ok (.iinc 4 1, 3) := by decide +kernel
theorem dL_least_106 : decode cL_least 106 = .ok (.goto (-99), 3) := by decide +kernel
theorem dL_least_109 : decode cL_least 109 = .ok (.aload_n 3, 1) := by decide +kernel
theorem dL_least_110 : decode cL_least 110 = .ok (.iload_n 1, 1) := by decide +kernel
theorem dL_least_111 : decode cL_least 111 = .ok (.laload, 1) := by decide +kernel
theorem dL_least_112 : decode cL_least 112 = .ok (.lreturn, 1) := by decide +kernel
theorem dL_best_0 : decode cL_best 0 = .ok (.aload_n 0, 1) := by decide +kernel
theorem dL_best_1 : decode cL_best 1 = .ok (.iload_n 1, 1) := by decide +kernel
theorem dL_best_2 : decode cL_best 2 = .ok (.iload_n 2, 1) := by decide +kernel
theorem dL_best_3 : decode cL_best 3 = .ok (.aload_n 3, 1) := by decide +kernel
theorem dL_best_4 : decode cL_best 4 = .ok (.invokestatic 19, 3) := by decide +kernel
theorem dL_best_7 : decode cL_best 7 = .ok (.lstore 5, 2) := by decide +kernel
theorem dL_best_9 : decode cL_best 9 = .ok (.iconst 0, 1) := by decide +kernel
theorem dL_best_10 : decode cL_best 10 = .ok (.istore 7, 2) := by decide +kernel
theorem dL_best_12 : decode cL_best 12 = .ok (.lconst 0, 1) := by decide +kernel
theorem dL_best_13 : decode cL_best 13 = .ok (.lstore 8, 2) := by decide +kernel
theorem dL_best_15 : decode cL_best 15 = .ok (.iconst 0, 1) := by decide +kernel
theorem dL_best_16 : decode cL_best 16 = .ok (.istore 10, 2) := by decide +kernel
theorem dL_best_18 : decode cL_best 18 = .ok (.iload 10, 2) := by decide +kernel
theorem dL_best_20 : decode cL_best 20 = .ok (.iconst 5, 1) := by decide +kernel
theorem dL_best_21 : decode cL_best 21 = .ok (.if_icmp .ge 162, 3) := by decide +kernel
theorem dL_best_24 : decode cL_best 24 = .ok (.aload 4, 2) := by decide +kernel
theorem dL_best_26 : decode cL_best 26 = .ok (.iload 10, 2) := by decide +kernel
theorem dL_best_28 : decode cL_best 28 = .ok (.bipush (-4), 2) := by decide +kernel
theorem dL_best_30 : decode cL_best 30 = .ok (.iastore, 1) := by decide +kernel
theorem dL_best_31 : decode cL_best 31 = .ok (.iconst 0, 1) := by decide +kernel
theorem dL_best_32 : decode cL_best 32 = .ok (.istore 11, 2) := by decide +kernel
theorem dL_best_34 : decode cL_best 34 = .ok (.iload 11, 2) := by decide +kernel
theorem dL_best_36 : decode cL_best 36 = .ok (.iconst 5, 1) := by decide +kernel
theorem dL_best_37 : decode cL_best 37 = .ok (.if_icmp .ge 92, 3) := by decide +kernel
theorem dL_best_40 : decode cL_best 40 = .ok (.aload 4, 2) := by decide +kernel
theorem dL_best_42 : decode cL_best 42 = .ok (.iload 10, 2) := by decide +kernel
theorem dL_best_44 : decode cL_best 44 = .ok (.iaload, 1) := by decide +kernel
theorem dL_best_45 : decode cL_best 45 = .ok (.ifCond .ge 84, 3) := by decide +kernel
theorem dL_best_48 : decode cL_best 48 = .ok (.iload_n 1, 1) := by decide +kernel
theorem dL_best_49 : decode cL_best 49 = .ok (.iload 11, 2) := by decide +kernel
theorem dL_best_51 : decode cL_best 51 = .ok (.ishr, 1) := by decide +kernel
theorem dL_best_52 : decode cL_best 52 = .ok (.iconst 1, 1) := by decide +kernel
theorem dL_best_53 : decode cL_best 53 = .ok (.iand, 1) := by decide +kernel
theorem dL_best_54 : decode cL_best 54 = .ok (.iconst 1, 1) := by decide +kernel
theorem dL_best_55 : decode cL_best 55 = .ok (.if_icmp .ne 17, 3) := by decide +kernel
theorem dL_best_58 : decode cL_best 58 = .ok (.iload 7, 2) := by decide +kernel
theorem dL_best_60 : decode cL_best 60 = .ok (.iload 11, 2) := by decide +kernel
theorem dL_best_62 : decode cL_best 62 = .ok (.ishr, 1) := by decide +kernel
theorem dL_best_63 : decode cL_best 63 = .ok (.iconst 1, 1) := by decide +kernel
theorem dL_best_64 : decode cL_best 64 = .ok (.iand, 1) := by decide +kernel
theorem dL_best_65 : decode cL_best 65 = .ok (.ifCond .ne 7, 3) := by decide +kernel
theorem dL_best_68 : decode cL_best 68 = .ok (.iconst 1, 1) := by decide +kernel
theorem dL_best_69 : decode cL_best 69 = .ok (.goto 4, 3) := by decide +kernel
theorem dL_best_72 : decode cL_best 72 = .ok (.iconst 0, 1) := by decide +kernel
theorem dL_best_73 : decode cL_best 73 = .ok (.istore 12, 2) := by decide +kernel
theorem dL_best_75 : decode cL_best 75 = .ok (.iload 12, 2) := by decide +kernel
theorem dL_best_77 : decode cL_best 77 = .ok (.ifCond .eq 46, 3) := by decide +kernel
theorem dL_best_80 : decode cL_best 80 = .ok (.lload 8, 2) := by decide +kernel
theorem dL_best_82 : decode cL_best 82 = .ok (.aload_n 0, 1) := by decide +kernel
theorem dL_best_83 : decode cL_best 83 = .ok (.iload 7, 2) := by decide +kernel
theorem dL_best_85 : decode cL_best 85 = .ok (.iconst 1, 1) := by decide +kernel
theorem dL_best_86 : decode cL_best 86 = .ok (.iload 11, 2) := by decide +kernel
theorem dL_best_88 : decode cL_best 88 = .ok (.ishl, 1) := by decide +kernel
theorem dL_best_89 : decode cL_best 89 = .ok (.ior, 1) := by decide +kernel
theorem dL_best_90 : decode cL_best 90 = .ok (.iload_n 2, 1) := by decide +kernel
theorem dL_best_91 : decode cL_best 91 = .ok (.invokestatic 13, 3) := by decide +kernel
theorem dL_best_94 : decode cL_best 94 = .ok (.ladd, 1) := by decide +kernel
theorem dL_best_95 : decode cL_best 95 = .ok (.aload_n 0, 1) := by decide +kernel
theorem dL_best_96 : decode cL_best 96 = .ok (.iload_n 1, 1) := by decide +kernel
theorem dL_best_97 : decode cL_best 97 = .ok (.iload 7, 2) := by decide +kernel
theorem dL_best_99 : decode cL_best 99 = .ok (.iconst 1, 1) := by decide +kernel
theorem dL_best_100 : decode cL_best 100 = .ok (.iload 11, 2) := by decide +kernel
theorem dL_best_102 : decode cL_best 102 = .ok (.ishl, 1) := by decide +kernel
theorem dL_best_103 : decode cL_best 103 = .ok (.ior, 1) := by decide +kernel
theorem dL_best_104 : decode cL_best 104 = .ok (.iload_n 2, 1) := by decide +kernel
theorem dL_best_105 : decode cL_best 105 = .ok (.aload_n 3, 1) := by decide +kernel
theorem dL_best_106 : decode cL_best 106 = .ok (.invokestatic 23, 3) := by decide +kernel
theorem dL_best_109 : decode cL_best 109 = .ok (.ladd, 1) := by decide +kernel
theorem dL_best_110 : decode cL_best 110 = .ok (.lload 5, 2) := by decide +kernel
theorem dL_best_112 : decode cL_best 112 = .ok (.lcmp, 1) := by decide +kernel
theorem dL_best_113 : decode cL_best 113 = .ok (.ifCond .ne 10, 3) := by decide +kernel
theorem dL_best_116 : decode cL_best 116 = .ok (.aload 4, 2) := by decide +kernel
theorem dL_best_118 : decode cL_best 118 = .ok (.iload 10, 2) := by decide +kernel
theorem dL_best_120 : decode cL_best 120 = .ok (.iload 11, 2) := by decide +kernel
theorem dL_best_122 : decode cL_best 122 = .ok (.iastore, 1) := by decide +kernel
theorem dL_best_123 : decode cL_best 123 = .ok (.iinc 11 1, 3) := by decide +kernel
theorem dL_best_126 : decode cL_best 126 = .ok (.goto (-92), 3) := by decide +kernel
theorem dL_best_129 : decode cL_best 129 = .ok (.iload 7, 2) := by decide +kernel
theorem dL_best_131 : decode cL_best 131 = .ok (.aload 4, 2) := by decide +kernel
theorem dL_best_133 : decode cL_best 133 = .ok (.iload 10, 2) := by decide +kernel
theorem dL_best_135 : decode cL_best 135 = .ok (.iaload, 1) := by decide +kernel
theorem dL_best_136 : decode cL_best 136 = .ok (.ifCond .ge 7, 3) := by decide +kernel
theorem dL_best_139 : decode cL_best 139 = .ok (.iconst 0, 1) := by decide +kernel
theorem dL_best_140 : decode cL_best 140 = .ok (.goto 10, 3) := by decide +kernel
theorem dL_best_143 : decode cL_best 143 = .ok (.iconst 1, 1) := by decide +kernel
theorem dL_best_144 : decode cL_best 144 = .ok (.aload 4, 2) := by decide +kernel
theorem dL_best_146 : decode cL_best 146 = .ok (.iload 10, 2) := by decide +kernel
theorem dL_best_148 : decode cL_best 148 = .ok (.iaload, 1) := by decide +kernel
theorem dL_best_149 : decode cL_best 149 = .ok (.ishl, 1) := by decide +kernel
theorem dL_best_150 : decode cL_best 150 = .ok (.ior, 1) := by decide +kernel
theorem dL_best_151 : decode cL_best 151 = .ok (.istore 7, 2) := by decide +kernel
theorem dL_best_153 : decode cL_best 153 = .ok (.lload 8, 2) := by decide +kernel
theorem dL_best_155 : decode cL_best 155 = .ok (.aload 4, 2) := by decide +kernel
theorem dL_best_157 : decode cL_best 157 = .ok (.iload 10, 2) := by decide +kernel
theorem dL_best_159 : decode cL_best 159 = .ok (.iaload, 1) := by decide +kernel
theorem dL_best_160 : decode cL_best 160 = .ok (.ifCond .ge 7, 3) := by decide +kernel
theorem dL_best_163 : decode cL_best 163 = .ok (.lconst 0, 1) := by decide +kernel
theorem dL_best_164 : decode cL_best 164 = .ok (.goto 10, 3) := by decide +kernel
theorem dL_best_167 : decode cL_best 167 = .ok (.aload_n 0, 1) := by decide +kernel
theorem dL_best_168 : decode cL_best 168 = .ok (.iload 7, 2) := by decide +kernel
theorem dL_best_170 : decode cL_best 170 = .ok (.iload_n 2, 1) := by decide +kernel
theorem dL_best_171 : decode cL_best 171 = .ok (.invokestatic 13, 3) := by decide +kernel
theorem dL_best_174 : decode cL_best 174 = .ok (.ladd, 1) := by decide +kernel
theorem dL_best_175 : decode cL_best 175 = .ok (.lstore 8, 2) := by decide +kernel
theorem dL_best_177 : decode cL_best 177 = .ok (.iinc 10 1, 3) := by decide +kernel
theorem dL_best_180 : decode cL_best 180 = .ok (.goto (-162), 3) := by decide +kernel
theorem dL_best_183 : decode cL_best 183 = .ok (.return_, 1) := by decide +kernel
theorem dL_rest_0 : decode cL_rest 0 = .ok (.bipush 31, 2) := by decide +kernel
theorem dL_rest_2 : decode cL_rest 2 = .ok (.istore 5, 2) := by decide +kernel
theorem dL_rest_4 : decode cL_rest 4 = .ok (.iload 5, 2) := by decide +kernel
theorem dL_rest_6 : decode cL_rest 6 = .ok (.ifCond .lt 185, 3) := by decide +kernel
theorem dL_rest_9 : decode cL_rest 9 = .ok (.aload 4, 2) := by decide +kernel
theorem dL_rest_11 : decode cL_rest 11 = .ok (.bipush 32, 2) := by decide +kernel
theorem dL_rest_13 : decode cL_rest 13 = .ok (.iload 5, 2) := by decide +kernel
theorem dL_rest_15 : decode cL_rest 15 = .ok (.iadd, 1) := by decide +kernel
theorem dL_rest_16 : decode cL_rest 16 = .ok (.iload 5, 2) := by decide +kernel
theorem dL_rest_18 : decode cL_rest 18 = .ok (.iload_n 1, 1) := by decide +kernel
theorem dL_rest_19 : decode cL_rest 19 = .ok (.if_icmp .ne 7, 3) := by decide +kernel
theorem dL_rest_22 : decode cL_rest 22 = .ok (.lconst 0, 1) := by decide +kernel
theorem dL_rest_23 : decode cL_rest 23 = .ok (.goto 6, 3) := by decide +kernel
theorem dL_rest_26 : decode cL_rest 26 = .ok (.ldc2_w 11, 3) := by decide +kernel
theorem dL_rest_29 : decode cL_rest 29 = .ok (.lastore, 1) := by decide +kernel
theorem dL_rest_30 : decode cL_rest 30 = .ok (.iconst 0, 1) := by decide +kernel
theorem dL_rest_31 : decode cL_rest 31 = .ok (.istore 6, 2) := by decide +kernel
theorem dL_rest_33 : decode cL_rest 33 = .ok (.iload 6, 2) := by decide +kernel
theorem dL_rest_35 : decode cL_rest 35 = .ok (.iconst 5, 1) := by decide +kernel
theorem dL_rest_36 : decode cL_rest 36 = .ok (.if_icmp .ge 149, 3) := by decide +kernel
theorem dL_rest_39 : decode cL_rest 39 = .ok (.iload 5, 2) := by decide +kernel
theorem dL_rest_41 : decode cL_rest 41 = .ok (.iload_n 1, 1) := by decide +kernel
theorem dL_rest_42 : decode cL_rest 42 = .ok (.ior, 1) := by decide +kernel
theorem dL_rest_43 : decode cL_rest 43 = .ok (.iload_n 1, 1) := by decide +kernel
theorem dL_rest_44 : decode cL_rest 44 = .ok (.if_icmp .ne 141, 3) := by decide +kernel
theorem dL_rest_47 : decode cL_rest 47 = .ok (.iload 5, 2) := by decide +kernel
theorem dL_rest_49 : decode cL_rest 49 = .ok (.iload_n 1, 1) := by decide +kernel
theorem dL_rest_50 : decode cL_rest 50 = .ok (.if_icmp .eq 135, 3) := by decide +kernel
theorem dL_rest_53 : decode cL_rest 53 = .ok (.iload 5, 2) := by decide +kernel
theorem dL_rest_55 : decode cL_rest 55 = .ok (.iconst 1, 1) := by decide +kernel
theorem dL_rest_56 : decode cL_rest 56 = .ok (.iload 6, 2) := by decide +kernel
theorem dL_rest_58 : decode cL_rest 58 = .ok (.ishl, 1) := by decide +kernel
theorem dL_rest_59 : decode cL_rest 59 = .ok (.ior, 1) := by decide +kernel
theorem dL_rest_60 : decode cL_rest 60 = .ok (.istore 7, 2) := by decide +kernel
theorem dL_rest_62 : decode cL_rest 62 = .ok (.iload 7, 2) := by decide +kernel
theorem dL_rest_64 : decode cL_rest 64 = .ok (.iload 5, 2) := by decide +kernel
theorem dL_rest_66 : decode cL_rest 66 = .ok (.if_icmp .eq 28, 3) := by decide +kernel
theorem dL_rest_69 : decode cL_rest 69 = .ok (.iload 7, 2) := by decide +kernel
theorem dL_rest_71 : decode cL_rest 71 = .ok (.iload_n 1, 1) := by decide +kernel
theorem dL_rest_72 : decode cL_rest 72 = .ok (.ior, 1) := by decide +kernel
theorem dL_rest_73 : decode cL_rest 73 = .ok (.iload_n 1, 1) := by decide +kernel
theorem dL_rest_74 : decode cL_rest 74 = .ok (.if_icmp .ne 20, 3) := by decide +kernel
theorem dL_rest_77 : decode cL_rest 77 = .ok (.aload 4, 2) := by decide +kernel
theorem dL_rest_79 : decode cL_rest 79 = .ok (.bipush 32, 2) := by decide +kernel
theorem dL_rest_81 : decode cL_rest 81 = .ok (.iload 7, 2) := by decide +kernel
theorem dL_rest_83 : decode cL_rest 83 = .ok (.iadd, 1) := by decide +kernel
theorem dL_rest_84 : decode cL_rest 84 = .ok (.laload, 1) := by decide +kernel
theorem dL_rest_85 : decode cL_rest 85 = .ok (.lconst 0, 1) := by decide +kernel
theorem dL_rest_86 : decode cL_rest 86 = .ok (.lcmp, 1) := by decide +kernel
theorem dL_rest_87 : decode cL_rest 87 = .ok (.ifCond .lt 7, 3) := by decide +kernel
theorem dL_rest_90 : decode cL_rest 90 = .ok (.iconst 1, 1) := by decide +kernel
theorem dL_rest_91 : decode cL_rest 91 = .ok (.goto 4, 3) := by decide +kernel
theorem dL_rest_94 : decode cL_rest 94 = .ok (.iconst 0, 1) := by decide +kernel
theorem dL_rest_95 : decode cL_rest 95 = .ok (.istore 8, 2) := by decide +kernel
theorem dL_rest_97 : decode cL_rest 97 = .ok (.iload 8, 2) := by decide +kernel
theorem dL_rest_99 : decode cL_rest 99 = .ok (.ifCond .eq 22, 3) := by decide +kernel
theorem dL_rest_102 : decode cL_rest 102 = .ok (.aload 4, 2) := by decide +kernel
theorem dL_rest_104 : decode cL_rest 104 = .ok (.bipush 32, 2) := by decide +kernel
theorem dL_rest_106 : decode cL_rest 106 = .ok (.iload 7, 2) := by decide +kernel
theorem dL_rest_108 : decode cL_rest 108 = .ok (.iadd, 1) := by decide +kernel
theorem dL_rest_109 : decode cL_rest 109 = .ok (.laload, 1) := by decide +kernel
theorem dL_rest_110 : decode cL_rest 110 = .ok (.aload_n 0, 1) := by decide +kernel
theorem dL_rest_111 : decode cL_rest 111 = .ok (.iload 7, 2) := by decide +kernel
theorem dL_rest_113 : decode cL_rest 113 = .ok (.iload_n 3, 1) := by decide +kernel
theorem dL_rest_114 : decode cL_rest 114 = .ok (.invokestatic 13, 3) := by decide +kernel
theorem dL_rest_117 : decode cL_rest 117 = .ok (.ladd, 1) := by decide +kernel
theorem dL_rest_118 : decode cL_rest 118 = .ok (.goto 6, 3) := by decide +kernel
theorem dL_rest_121 : decode cL_rest 121 = .ok (.ldc2_w 11, 3) := by decide +kernel
theorem dL_rest_124 : decode cL_rest 124 = .ok (.lstore 9, 2) := by decide +kernel
theorem dL_rest_126 : decode cL_rest 126 = .ok (.aload 4, 2) := by decide +kernel
theorem dL_rest_128 : decode cL_rest 128 = .ok (.bipush 32, 2) := by decide +kernel
theorem dL_rest_130 : decode cL_rest 130 = .ok (.iload 5, 2) := by decide +kernel
theorem dL_rest_132 : decode cL_rest 132 = .ok (.iadd, 1) := by decide +kernel
theorem dL_rest_133 : decode cL_rest 133 = .ok (.iload 8, 2) := by decide +kernel
theorem dL_rest_135 : decode cL_rest 135 = .ok (.ifCond .eq 35, 3) := by decide +kernel
theorem dL_rest_138 : decode cL_rest 138 = .ok (.aload 4, 2) := by decide +kernel
theorem dL_rest_140 : decode cL_rest 140 = .ok (.bipush 32, 2) := by decide +kernel
theorem dL_rest_142 : decode cL_rest 142 = .ok (.iload 5, 2) := by decide +kernel
theorem dL_rest_144 : decode cL_rest 144 = .ok (.iadd, 1) := by decide +kernel
theorem dL_rest_145 : decode cL_rest 145 = .ok (.laload, 1) := by decide +kernel
theorem dL_rest_146 : decode cL_rest 146 = .ok (.lconst 0, 1) := by decide +kernel
theorem dL_rest_147 : decode cL_rest 147 = .ok (.lcmp, 1) := by decide +kernel
theorem dL_rest_148 : decode cL_rest 148 = .ok (.ifCond .lt 17, 3) := by decide +kernel
theorem dL_rest_151 : decode cL_rest 151 = .ok (.lload 9, 2) := by decide +kernel
theorem dL_rest_153 : decode cL_rest 153 = .ok (.aload 4, 2) := by decide +kernel
theorem dL_rest_155 : decode cL_rest 155 = .ok (.bipush 32, 2) := by decide +kernel
theorem dL_rest_157 : decode cL_rest 157 = .ok (.iload 5, 2) := by decide +kernel
theorem dL_rest_159 : decode cL_rest 159 = .ok (.iadd, 1) := by decide +kernel
theorem dL_rest_160 : decode cL_rest 160 = .ok (.laload, 1) := by decide +kernel
theorem dL_rest_161 : decode cL_rest 161 = .ok (.lcmp, 1) := by decide +kernel
theorem dL_rest_162 : decode cL_rest 162 = .ok (.ifCond .ge 8, 3) := by decide +kernel
theorem dL_rest_165 : decode cL_rest 165 = .ok (.lload 9, 2) := by decide +kernel
theorem dL_rest_167 : decode cL_rest 167 = .ok (.goto 11, 3) := by decide +kernel
theorem dL_rest_170 : decode cL_rest 170 = .ok (.aload 4, 2) := by decide +kernel
theorem dL_rest_172 : decode cL_rest 172 = .ok (.bipush 32, 2) := by decide +kernel
theorem dL_rest_174 : decode cL_rest 174 = .ok (.iload 5, 2) := by decide +kernel
theorem dL_rest_176 : decode cL_rest 176 = .ok (.iadd, 1) := by decide +kernel
theorem dL_rest_177 : decode cL_rest 177 = .ok (.laload, 1) := by decide +kernel
theorem dL_rest_178 : decode cL_rest 178 = .ok (.lastore, 1) := by decide +kernel
theorem dL_rest_179 : decode cL_rest 179 = .ok (.iinc 6 1, 3) := by decide +kernel
theorem dL_rest_182 : decode cL_rest 182 = .ok (.goto (-149), 3) := by decide +kernel
theorem dL_rest_185 : decode cL_rest 185 = .ok (.iinc 5 (-1), 3) := by decide +kernel
theorem dL_rest_188 : decode cL_rest 188 = .ok (.goto (-184), 3) := by decide +kernel
theorem dL_rest_191 : decode cL_rest 191 = .ok (.aload 4, 2) := by decide +kernel
theorem dL_rest_193 : decode cL_rest 193 = .ok (.bipush 32, 2) := by decide +kernel
theorem dL_rest_195 : decode cL_rest 195 = .ok (.iload_n 2, 1) := by decide +kernel
theorem dL_rest_196 : decode cL_rest 196 = .ok (.iadd, 1) := by decide +kernel
theorem dL_rest_197 : decode cL_rest 197 = .ok (.laload, 1) := by decide +kernel
theorem dL_rest_198 : decode cL_rest 198 = .ok (.lreturn, 1) := by decide +kernel
theorem dL_cost_0 : decode cL_cost 0 = .ok (.lconst 0, 1) := by decide +kernel
theorem dL_cost_1 : decode cL_cost 1 = .ok (.lstore 4, 2) := by decide +kernel
theorem dL_cost_3 : decode cL_cost 3 = .ok (.iconst 0, 1) := by decide +kernel
theorem dL_cost_4 : decode cL_cost 4 = .ok (.istore 6, 2) := by decide +kernel
theorem dL_cost_6 : decode cL_cost 6 = .ok (.iconst 0, 1) := by decide +kernel
theorem dL_cost_7 : decode cL_cost 7 = .ok (.istore 7, 2) := by decide +kernel
theorem dL_cost_9 : decode cL_cost 9 = .ok (.iload 7, 2) := by decide +kernel
theorem dL_cost_11 : decode cL_cost 11 = .ok (.iconst 5, 1) := by decide +kernel
theorem dL_cost_12 : decode cL_cost 12 = .ok (.if_icmp .ge 47, 3) := by decide +kernel
theorem dL_cost_15 : decode cL_cost 15 = .ok (.aload_n 1, 1) := by decide +kernel
theorem dL_cost_16 : decode cL_cost 16 = .ok (.iload_n 2, 1) := by decide +kernel
theorem dL_cost_17 : decode cL_cost 17 = .ok (.iconst 1, 1) := by decide +kernel
theorem dL_cost_18 : decode cL_cost 18 = .ok (.iadd, 1) := by decide +kernel
theorem dL_cost_19 : decode cL_cost 19 = .ok (.iload 7, 2) := by decide +kernel
theorem dL_cost_21 : decode cL_cost 21 = .ok (.iadd, 1) := by decide +kernel
theorem dL_cost_22 : decode cL_cost 22 = .ok (.iaload, 1) := by decide +kernel
theorem dL_cost_23 : decode cL_cost 23 = .ok (.ifCond .lt 36, 3) := by decide +kernel
theorem dL_cost_26 : decode cL_cost 26 = .ok (.iload 6, 2) := by decide +kernel
theorem dL_cost_28 : decode cL_cost 28 = .ok (.iconst 1, 1) := by decide +kernel
theorem dL_cost_29 : decode cL_cost 29 = .ok (.aload_n 1, 1) := by decide +kernel
theorem dL_cost_30 : decode cL_cost 30 = .ok (.iload_n 2, 1) := by decide +kernel
theorem dL_cost_31 : decode cL_cost 31 = .ok (.iconst 1, 1) := by decide +kernel
theorem dL_cost_32 : decode cL_cost 32 = .ok (.iadd, 1) := by decide +kernel
theorem dL_cost_33 : decode cL_cost 33 = .ok (.iload 7, 2) := by decide +kernel
theorem dL_cost_35 : decode cL_cost 35 = .ok (.iadd, 1) := by decide +kernel
theorem dL_cost_36 : decode cL_cost 36 = .ok (.iaload, 1) := by decide +kernel
theorem dL_cost_37 : decode cL_cost 37 = .ok (.ishl, 1) := by decide +kernel
theorem dL_cost_38 : decode cL_cost 38 = .ok (.ior, 1) := by decide +kernel
theorem dL_cost_39 : decode cL_cost 39 = .ok (.istore 6, 2) := by decide +kernel
theorem dL_cost_41 : decode cL_cost 41 = .ok (.lload 4, 2) := by decide +kernel
theorem dL_cost_43 : decode cL_cost 43 = .ok (.aload_n 0, 1) := by decide +kernel
theorem dL_cost_44 : decode cL_cost 44 = .ok (.iload 6, 2) := by decide +kernel
theorem dL_cost_46 : decode cL_cost 46 = .ok (.iload_n 3, 1) := by decide +kernel
theorem dL_cost_47 : decode cL_cost 47 = .ok (.invokestatic 13, 3) := by decide +kernel
theorem dL_cost_50 : decode cL_cost 50 = .ok (.ladd, 1) := by decide +kernel
theorem dL_cost_51 : decode cL_cost 51 = .ok (.lstore 4, 2) := by decide +kernel
theorem dL_cost_53 : decode cL_cost 53 = .ok (.iinc 7 1, 3) := by decide +kernel
theorem dL_cost_56 : decode cL_cost 56 = .ok (.goto (-47), 3) := by decide +kernel
theorem dL_cost_59 : decode cL_cost 59 = .ok (.lload 4, 2) := by decide +kernel
theorem dL_cost_61 : decode cL_cost 61 = .ok (.lreturn, 1) := by decide +kernel
theorem dL_drifted_0 : decode cL_drifted 0 = .ok (.iconst 0, 1) := by decide +kernel
theorem dL_drifted_1 : decode cL_drifted 1 = .ok (.istore_n 3, 1) := by decide +kernel
theorem dL_drifted_2 : decode cL_drifted 2 = .ok (.iload_n 3, 1) := by decide +kernel
theorem dL_drifted_3 : decode cL_drifted 3 = .ok (.iconst 5, 1) := by decide +kernel
theorem dL_drifted_4 : decode cL_drifted 4 = .ok (.if_icmp .ge 69, 3) := by decide +kernel
theorem dL_drifted_7 : decode cL_drifted 7 = .ok (.aload_n 0, 1) := by decide +kernel
theorem dL_drifted_8 : decode cL_drifted 8 = .ok (.iconst 5, 1) := by decide +kernel
theorem dL_drifted_9 : decode cL_drifted 9 = .ok (.iload_n 3, 1) := by decide +kernel
theorem dL_drifted_10 : decode cL_drifted 10 = .ok (.iadd, 1) := by decide +kernel
theorem dL_drifted_11 : decode cL_drifted 11 = .ok (.iaload, 1) := by decide +kernel
theorem dL_drifted_12 : decode cL_drifted 12 = .ok (.istore 4, 2) := by decide +kernel
theorem dL_drifted_14 : decode cL_drifted 14 = .ok (.aload_n 1, 1) := by decide +kernel
theorem dL_drifted_15 : decode cL_drifted 15 = .ok (.iload_n 2, 1) := by decide +kernel
theorem dL_drifted_16 : decode cL_drifted 16 = .ok (.bipush 6, 2) := by decide +kernel
theorem dL_drifted_18 : decode cL_drifted 18 = .ok (.iadd, 1) := by decide +kernel
theorem dL_drifted_19 : decode cL_drifted 19 = .ok (.iload_n 3, 1) := by decide +kernel
theorem dL_drifted_20 : decode cL_drifted 20 = .ok (.iadd, 1) := by decide +kernel
theorem dL_drifted_21 : decode cL_drifted 21 = .ok (.iaload, 1) := by decide +kernel
theorem dL_drifted_22 : decode cL_drifted 22 = .ok (.istore 5, 2) := by decide +kernel
theorem dL_drifted_24 : decode cL_drifted 24 = .ok (.aload_n 1, 1) := by decide +kernel
theorem dL_drifted_25 : decode cL_drifted 25 = .ok (.iload_n 2, 1) := by decide +kernel
theorem dL_drifted_26 : decode cL_drifted 26 = .ok (.iaload, 1) := by decide +kernel
theorem dL_drifted_27 : decode cL_drifted 27 = .ok (.iload_n 3, 1) := by decide +kernel
theorem dL_drifted_28 : decode cL_drifted 28 = .ok (.ishr, 1) := by decide +kernel
theorem dL_drifted_29 : decode cL_drifted 29 = .ok (.iconst 1, 1) := by decide +kernel
theorem dL_drifted_30 : decode cL_drifted 30 = .ok (.iand, 1) := by decide +kernel
theorem dL_drifted_31 : decode cL_drifted 31 = .ok (.iconst 1, 1) := by decide +kernel
theorem dL_drifted_32 : decode cL_drifted 32 = .ok (.if_icmp .ne 35, 3) := by decide +kernel
theorem dL_drifted_35 : decode cL_drifted 35 = .ok (.iload 4, 2) := by decide +kernel
theorem dL_drifted_37 : decode cL_drifted 37 = .ok (.bipush 100, 2) := by decide +kernel
theorem dL_drifted_39 : decode cL_drifted 39 = .ok (.imul, 1) := by decide +kernel
theorem dL_drifted_40 : decode cL_drifted 40 = .ok (.iload 5, 2) := by decide +kernel
theorem dL_drifted_42 : decode cL_drifted 42 = .ok (.aload_n 0, 1) := by decide +kernel
theorem dL_drifted_43 : decode cL_drifted 43 = .ok (.bipush 35, 2) := by decide +kernel
theorem dL_drifted_45 : decode cL_drifted 45 = .ok (.iaload, 1) := by decide +kernel
theorem dL_drifted_46 : decode cL_drifted 46 = .ok (.imul, 1) := by decide +kernel
theorem dL_drifted_47 : decode cL_drifted 47 = .ok (.if_icmp .gt 18, 3) := by decide +kernel
theorem dL_drifted_50 : decode cL_drifted 50 = .ok (.iload 5, 2) := by decide +kernel
theorem dL_drifted_52 : decode cL_drifted 52 = .ok (.bipush 100, 2) := by decide +kernel
theorem dL_drifted_54 : decode cL_drifted 54 = .ok (.imul, 1) := by decide +kernel
theorem dL_drifted_55 : decode cL_drifted 55 = .ok (.iload 4, 2) := by decide +kernel
theorem dL_drifted_57 : decode cL_drifted 57 = .ok (.aload_n 0, 1) := by decide +kernel
theorem dL_drifted_58 : decode cL_drifted 58 = .ok (.bipush 35, 2) := by decide +kernel
theorem dL_drifted_60 : decode cL_drifted 60 = .ok (.iaload, 1) := by decide +kernel
theorem dL_drifted_61 : decode cL_drifted 61 = .ok (.imul, 1) := by decide +kernel
theorem dL_drifted_62 : decode cL_drifted 62 = .ok (.if_icmp .le 5, 3) := by decide +kernel
theorem dL_drifted_65 : decode cL_drifted 65 = .ok (.iconst 1, 1) := by decide +kernel
theorem dL_drifted_66 : decode cL_drifted 66 = .ok (.ireturn, 1) := by decide +kernel
theorem dL_drifted_67 : decode cL_drifted 67 = .ok (.iinc 3 1, 3) := by decide +kernel
theorem dL_drifted_70 : decode cL_drifted 70 = .ok (.goto (-68), 3) := by decide +kernel
theorem dL_drifted_73 : decode cL_drifted 73 = .ok (.iconst 0, 1) := by decide +kernel
theorem dL_drifted_74 : decode cL_drifted 74 = .ok (.ireturn, 1) := by decide +kernel
theorem dL_out_0 : decode cL_out 0 = .ok (.aload_n 1, 1) := by decide +kernel
theorem dL_out_1 : decode cL_out 1 = .ok (.iconst 0, 1) := by decide +kernel
theorem dL_out_2 : decode cL_out 2 = .ok (.dup2, 1) := by decide +kernel
theorem dL_out_3 : decode cL_out 3 = .ok (.iaload, 1) := by decide +kernel
theorem dL_out_4 : decode cL_out 4 = .ok (.iconst 1, 1) := by decide +kernel
theorem dL_out_5 : decode cL_out 5 = .ok (.isub, 1) := by decide +kernel
theorem dL_out_6 : decode cL_out 6 = .ok (.iastore, 1) := by decide +kernel
theorem dL_out_7 : decode cL_out 7 = .ok (.bipush 14, 2) := by decide +kernel
theorem dL_out_9 : decode cL_out 9 = .ok (.iload_n 2, 1) := by decide +kernel
theorem dL_out_10 : decode cL_out 10 = .ok (.imul, 1) := by decide +kernel
theorem dL_out_11 : decode cL_out 11 = .ok (.istore_n 3, 1) := by decide +kernel
theorem dL_out_12 : decode cL_out 12 = .ok (.iload_n 3, 1) := by decide +kernel
theorem dL_out_13 : decode cL_out 13 = .ok (.bipush 14, 2) := by decide +kernel
theorem dL_out_15 : decode cL_out 15 = .ok (.aload_n 1, 1) := by decide +kernel
theorem dL_out_16 : decode cL_out 16 = .ok (.iconst 0, 1) := by decide +kernel
theorem dL_out_17 : decode cL_out 17 = .ok (.iaload, 1) := by decide +kernel
theorem dL_out_18 : decode cL_out 18 = .ok (.imul, 1) := by decide +kernel
theorem dL_out_19 : decode cL_out 19 = .ok (.if_icmp .ge 18, 3) := by decide +kernel
theorem dL_out_22 : decode cL_out 22 = .ok (.aload_n 0, 1) := by decide +kernel
theorem dL_out_23 : decode cL_out 23 = .ok (.iload_n 3, 1) := by decide +kernel
theorem dL_out_24 : decode cL_out 24 = .ok (.aload_n 0, 1) := by decide +kernel
theorem dL_out_25 : decode cL_out 25 = .ok (.iload_n 3, 1) := by decide +kernel
theorem dL_out_26 : decode cL_out 26 = .ok (.bipush 14, 2) := by decide +kernel
theorem dL_out_28 : decode cL_out 28 = .ok (.iadd, 1) := by decide +kernel
theorem dL_out_29 : decode cL_out 29 = .ok (.iaload, 1) := by decide +kernel
theorem dL_out_30 : decode cL_out 30 = .ok (.iastore, 1) := by decide +kernel
theorem dL_out_31 : decode cL_out 31 = .ok (.iinc 3 1, 3) := by decide +kernel
theorem dL_out_34 : decode cL_out 34 = .ok (.goto (-22), 3) := by decide +kernel
theorem dL_out_37 : decode cL_out 37 = .ok (.return_, 1) := by decide +kernel
theorem dL_place_0 : decode cL_place 0 = .ok (.iconst 0, 1) := by decide +kernel
theorem dL_place_1 : decode cL_place 1 = .ok (.istore_n 3, 1) := by decide +kernel
theorem dL_place_2 : decode cL_place 2 = .ok (.iload_n 3, 1) := by decide +kernel
theorem dL_place_3 : decode cL_place 3 = .ok (.aload_n 1, 1) := by decide +kernel
theorem dL_place_4 : decode cL_place 4 = .ok (.iconst 0, 1) := by decide +kernel
theorem dL_place_5 : decode cL_place 5 = .ok (.iaload, 1) := by decide +kernel
theorem dL_place_6 : decode cL_place 6 = .ok (.if_icmp .ge 21, 3) := by decide +kernel
theorem dL_place_9 : decode cL_place 9 = .ok (.aload_n 0, 1) := by decide +kernel
theorem dL_place_10 : decode cL_place 10 = .ok (.bipush 14, 2) := by decide +kernel
theorem dL_place_12 : decode cL_place 12 = .ok (.iload_n 3, 1) := by decide +kernel
theorem dL_place_13 : decode cL_place 13 = .ok (.imul, 1) := by decide +kernel
theorem dL_place_14 : decode cL_place 14 = .ok (.iaload, 1) := by decide +kernel
theorem dL_place_15 : decode cL_place 15 = .ok (.iload_n 2, 1) := by decide +kernel
theorem dL_place_16 : decode cL_place 16 = .ok (.if_icmp .ne 5, 3) := by decide +kernel
theorem dL_place_19 : decode cL_place 19 = .ok (.iload_n 3, 1) := by decide +kernel
theorem dL_place_20 : decode cL_place 20 = .ok (.ireturn, 1) := by decide +kernel
theorem dL_place_21 : decode cL_place 21 = .ok (.iinc 3 1, 3) := by decide +kernel
theorem dL_place_24 : decode cL_place 24 = .ok (.goto (-22), 3) := by decide +kernel
theorem dL_place_27 : decode cL_place 27 = .ok (.iconst (-1), 1) := by decide +kernel
theorem dL_place_28 : decode cL_place 28 = .ok (.ireturn, 1) := by decide +kernel
theorem dL_thrown_0 : decode cL_thrown 0 = .ok (.iconst 0, 1) := by decide +kernel
theorem dL_thrown_1 : decode cL_thrown 1 = .ok (.istore_n 3, 1) := by decide +kernel
theorem dL_thrown_2 : decode cL_thrown 2 = .ok (.aload_n 2, 1) := by decide +kernel
theorem dL_thrown_3 : decode cL_thrown 3 = .ok (.iconst 0, 1) := by decide +kernel
theorem dL_thrown_4 : decode cL_thrown 4 = .ok (.iaload, 1) := by decide +kernel
theorem dL_thrown_5 : decode cL_thrown 5 = .ok (.iconst 1, 1) := by decide +kernel
theorem dL_thrown_6 : decode cL_thrown 6 = .ok (.isub, 1) := by decide +kernel
theorem dL_thrown_7 : decode cL_thrown 7 = .ok (.istore 4, 2) := by decide +kernel
theorem dL_thrown_9 : decode cL_thrown 9 = .ok (.iload 4, 2) := by decide +kernel
theorem dL_thrown_11 : decode cL_thrown 11 = .ok (.ifCond .lt 45, 3) := by decide +kernel
theorem dL_thrown_14 : decode cL_thrown 14 = .ok (.aload_n 1, 1) := by decide +kernel
theorem dL_thrown_15 : decode cL_thrown 15 = .ok (.bipush 14, 2) := by decide +kernel
theorem dL_thrown_17 : decode cL_thrown 17 = .ok (.iload 4, 2) := by decide +kernel
theorem dL_thrown_19 : decode cL_thrown 19 = .ok (.imul, 1) := by decide +kernel
theorem dL_thrown_20 : decode cL_thrown 20 = .ok (.bipush 12, 2) := by decide +kernel
theorem dL_thrown_22 : decode cL_thrown 22 = .ok (.iadd, 1) := by decide +kernel
theorem dL_thrown_23 : decode cL_thrown 23 = .ok (.iaload, 1) := by decide +kernel
theorem dL_thrown_24 : decode cL_thrown 24 = .ok (.ifCond .ne 26, 3) := by decide +kernel
theorem dL_thrown_27 : decode cL_thrown 27 = .ok (.aload_n 0, 1) := by decide +kernel
theorem dL_thrown_28 : decode cL_thrown 28 = .ok (.aload_n 1, 1) := by decide +kernel
theorem dL_thrown_29 : decode cL_thrown 29 = .ok (.bipush 14, 2) := by decide +kernel
theorem dL_thrown_31 : decode cL_thrown 31 = .ok (.iload 4, 2) := by decide +kernel
theorem dL_thrown_33 : decode cL_thrown 33 = .ok (.imul, 1) := by decide +kernel
theorem dL_thrown_34 : decode cL_thrown 34 = .ok (.invokestatic 27, 3) := by decide +kernel
theorem dL_thrown_37 : decode cL_thrown 37 = .ok (.ifCond .eq 13, 3) := by decide +kernel
theorem dL_thrown_40 : decode cL_thrown 40 = .ok (.aload_n 1, 1) := by decide +kernel
theorem dL_thrown_41 : decode cL_thrown 41 = .ok (.aload_n 2, 1) := by decide +kernel
theorem dL_thrown_42 : decode cL_thrown 42 = .ok (.iload 4, 2) := by decide +kernel
theorem dL_thrown_44 : decode cL_thrown 44 = .ok (.invokestatic 31, 3) := by decide +kernel
theorem dL_thrown_47 : decode cL_thrown 47 = .ok (.iinc 3 1, 3) := by decide +kernel
theorem dL_thrown_50 : decode cL_thrown 50 = .ok (.iinc 4 (-1), 3) := by decide +kernel
theorem dL_thrown_53 : decode cL_thrown 53 = .ok (.goto (-44), 3) := by decide +kernel
theorem dL_thrown_56 : decode cL_thrown 56 = .ok (.aload_n 2, 1) := by decide +kernel
theorem dL_thrown_57 : decode cL_thrown 57 = .ok (.iconst 3, 1) := by decide +kernel
theorem dL_thrown_58 : decode cL_thrown 58 = .ok (.dup2, 1) := by decide +kernel
theorem dL_thrown_59 : decode cL_thrown 59 = .ok (.iaload, 1) := by decide +kernel
theorem dL_thrown_60 : decode cL_thrown 60 = .ok (.iload_n 3, 1) := by decide +kernel
theorem dL_thrown_61 : decode cL_thrown 61 = .ok (.iadd, 1) := by decide +kernel
theorem dL_thrown_62 : decode cL_thrown 62 = .ok (.iastore, 1) := by decide +kernel
theorem dL_thrown_63 : decode cL_thrown 63 = .ok (.iload_n 3, 1) := by decide +kernel
theorem dL_thrown_64 : decode cL_thrown 64 = .ok (.ireturn, 1) := by decide +kernel
theorem dL_tables_0 : decode cL_tables 0 = .ok (.iconst 0, 1) := by decide +kernel
theorem dL_tables_1 : decode cL_tables 1 = .ok (.istore_n 1, 1) := by decide +kernel
theorem dL_tables_2 : decode cL_tables 2 = .ok (.iconst 0, 1) := by decide +kernel
theorem dL_tables_3 : decode cL_tables 3 = .ok (.istore_n 2, 1) := by decide +kernel
theorem dL_tables_4 : decode cL_tables 4 = .ok (.iload_n 2, 1) := by decide +kernel
theorem dL_tables_5 : decode cL_tables 5 = .ok (.iconst 5, 1) := by decide +kernel
theorem dL_tables_6 : decode cL_tables 6 = .ok (.if_icmp .ge 17, 3) := by decide +kernel
theorem dL_tables_9 : decode cL_tables 9 = .ok (.iload_n 1, 1) := by decide +kernel
theorem dL_tables_10 : decode cL_tables 10 = .ok (.iload_n 0, 1) := by decide +kernel
theorem dL_tables_11 : decode cL_tables 11 = .ok (.iload_n 2, 1) := by decide +kernel
theorem dL_tables_12 : decode cL_tables 12 = .ok (.ishr, 1) := by decide +kernel
theorem dL_tables_13 : decode cL_tables 13 = .ok (.iconst 1, 1) := by decide +kernel
theorem dL_tables_14 : decode cL_tables 14 = .ok (.iand, 1) := by decide +kernel
theorem dL_tables_15 : decode cL_tables 15 = .ok (.iadd, 1) := by decide +kernel
theorem dL_tables_16 : decode cL_tables 16 = .ok (.istore_n 1, 1) := by decide +kernel
theorem dL_tables_17 : decode cL_tables 17 = .ok (.iinc 2 1, 3) := by decide +kernel
theorem dL_tables_20 : decode cL_tables 20 = .ok (.goto (-16), 3) := by decide +kernel
theorem dL_tables_23 : decode cL_tables 23 = .ok (.iload_n 1, 1) := by decide +kernel
theorem dL_tables_24 : decode cL_tables 24 = .ok (.ireturn, 1) := by decide +kernel
theorem dL_run_0 : decode cL_run 0 = .ok (.aload_n 1, 1) := by decide +kernel
theorem dL_run_1 : decode cL_run 1 = .ok (.aload_n 2, 1) := by decide +kernel
theorem dL_run_2 : decode cL_run 2 = .ok (.iload 5, 2) := by decide +kernel
theorem dL_run_4 : decode cL_run 4 = .ok (.invokestatic 35, 3) := by decide +kernel
theorem dL_run_7 : decode cL_run 7 = .ok (.istore 6, 2) := by decide +kernel
theorem dL_run_9 : decode cL_run 9 = .ok (.bipush 14, 2) := by decide +kernel
theorem dL_run_11 : decode cL_run 11 = .ok (.newarray .int, 2) := by decide +kernel
theorem dL_run_13 : decode cL_run 13 = .ok (.astore 7, 2) := by decide +kernel
theorem dL_run_15 : decode cL_run 15 = .ok (.lconst 0, 1) := by decide +kernel
theorem dL_run_16 : decode cL_run 16 = .ok (.lstore 8, 2) := by decide +kernel
theorem dL_run_18 : decode cL_run 18 = .ok (.iload 6, 2) := by decide +kernel
theorem dL_run_20 : decode cL_run 20 = .ok (.ifCond .lt 60, 3) := by decide +kernel
theorem dL_run_23 : decode cL_run 23 = .ok (.iconst 0, 1) := by decide +kernel
theorem dL_run_24 : decode cL_run 24 = .ok (.istore 10, 2) := by decide +kernel
theorem dL_run_26 : decode cL_run 26 = .ok (.iload 10, 2) := by decide +kernel
theorem dL_run_28 : decode cL_run 28 = .ok (.bipush 14, 2) := by decide +kernel
theorem dL_run_30 : decode cL_run 30 = .ok (.if_icmp .ge 24, 3) := by decide +kernel
theorem dL_run_33 : decode cL_run 33 = .ok (.aload 7, 2) := by decide +kernel
theorem dL_run_35 : decode cL_run 35 = .ok (.iload 10, 2) := by decide +kernel
theorem dL_run_37 : decode cL_run 37 = .ok (.aload_n 1, 1) := by decide +kernel
theorem dL_run_38 : decode cL_run 38 = .ok (.bipush 14, 2) := by decide +kernel
theorem dL_run_40 : decode cL_run 40 = .ok (.iload 6, 2) := by decide +kernel
theorem dL_run_42 : decode cL_run 42 = .ok (.imul, 1) := by decide +kernel
theorem dL_run_43 : decode cL_run 43 = .ok (.iload 10, 2) := by decide +kernel
theorem dL_run_45 : decode cL_run 45 = .ok (.iadd, 1) := by decide +kernel
theorem dL_run_46 : decode cL_run 46 = .ok (.iaload, 1) := by decide +kernel
theorem dL_run_47 : decode cL_run 47 = .ok (.iastore, 1) := by decide +kernel
theorem dL_run_48 : decode cL_run 48 = .ok (.iinc 10 1, 3) := by decide +kernel
theorem dL_run_51 : decode cL_run 51 = .ok (.goto (-25), 3) := by decide +kernel
theorem dL_run_54 : decode cL_run 54 = .ok (.aload 7, 2) := by decide +kernel
theorem dL_run_56 : decode cL_run 56 = .ok (.bipush 11, 2) := by decide +kernel
theorem dL_run_58 : decode cL_run 58 = .ok (.dup2, 1) := by decide +kernel
theorem dL_run_59 : decode cL_run 59 = .ok (.iaload, 1) := by decide +kernel
theorem dL_run_60 : decode cL_run 60 = .ok (.iconst 1, 1) := by decide +kernel
theorem dL_run_61 : decode cL_run 61 = .ok (.iadd, 1) := by decide +kernel
theorem dL_run_62 : decode cL_run 62 = .ok (.iastore, 1) := by decide +kernel
theorem dL_run_63 : decode cL_run 63 = .ok (.aload_n 1, 1) := by decide +kernel
theorem dL_run_64 : decode cL_run 64 = .ok (.aload_n 2, 1) := by decide +kernel
theorem dL_run_65 : decode cL_run 65 = .ok (.iload 6, 2) := by decide +kernel
theorem dL_run_67 : decode cL_run 67 = .ok (.invokestatic 31, 3) := by decide +kernel
theorem dL_run_70 : decode cL_run 70 = .ok (.aload_n 2, 1) := by decide +kernel
theorem dL_run_71 : decode cL_run 71 = .ok (.iconst 1, 1) := by decide +kernel
theorem dL_run_72 : decode cL_run 72 = .ok (.dup2, 1) := by decide +kernel
theorem dL_run_73 : decode cL_run 73 = .ok (.iaload, 1) := by decide +kernel
theorem dL_run_74 : decode cL_run 74 = .ok (.iconst 1, 1) := by decide +kernel
theorem dL_run_75 : decode cL_run 75 = .ok (.iadd, 1) := by decide +kernel
theorem dL_run_76 : decode cL_run 76 = .ok (.iastore, 1) := by decide +kernel
theorem dL_run_77 : decode cL_run 77 = .ok (.goto 136, 3) := by decide +kernel
theorem dL_run_80 : decode cL_run 80 = .ok (.aload_n 0, 1) := by decide +kernel
theorem dL_run_81 : decode cL_run 81 = .ok (.iload 5, 2) := by decide +kernel
theorem dL_run_83 : decode cL_run 83 = .ok (.iconst 5, 1) := by decide +kernel
theorem dL_run_84 : decode cL_run 84 = .ok (.aload 4, 2) := by decide +kernel
theorem dL_run_86 : decode cL_run 86 = .ok (.aload 7, 2) := by decide +kernel
theorem dL_run_88 : decode cL_run 88 = .ok (.invokestatic 39, 3) := by decide +kernel
theorem dL_run_91 : decode cL_run 91 = .ok (.iconst 4, 1) := by decide +kernel
theorem dL_run_92 : decode cL_run 92 = .ok (.istore 10, 2) := by decide +kernel
theorem dL_run_94 : decode cL_run 94 = .ok (.iload 10, 2) := by decide +kernel
theorem dL_run_96 : decode cL_run 96 = .ok (.ifCond .lt 35, 3) := by decide +kernel
theorem dL_run_99 : decode cL_run 99 = .ok (.aload 7, 2) := by decide +kernel
theorem dL_run_101 : decode cL_run 101 = .ok (.iconst 1, 1) := by decide +kernel
theorem dL_run_102 : decode cL_run 102 = .ok (.iload 10, 2) := by decide +kernel
theorem dL_run_104 : decode cL_run 104 = .ok (.iadd, 1) := by decide +kernel
theorem dL_run_105 : decode cL_run 105 = .ok (.aload 7, 2) := by decide +kernel
theorem dL_run_107 : decode cL_run 107 = .ok (.iload 10, 2) := by decide +kernel
theorem dL_run_109 : decode cL_run 109 = .ok (.iaload, 1) := by decide +kernel
theorem dL_run_110 : decode cL_run 110 = .ok (.iastore, 1) := by decide +kernel
theorem dL_run_111 : decode cL_run 111 = .ok (.aload 7, 2) := by decide +kernel
theorem dL_run_113 : decode cL_run 113 = .ok (.bipush 6, 2) := by decide +kernel
theorem dL_run_115 : decode cL_run 115 = .ok (.iload 10, 2) := by decide +kernel
theorem dL_run_117 : decode cL_run 117 = .ok (.iadd, 1) := by decide +kernel
theorem dL_run_118 : decode cL_run 118 = .ok (.aload_n 0, 1) := by decide +kernel
theorem dL_run_119 : decode cL_run 119 = .ok (.iconst 5, 1) := by decide +kernel
theorem dL_run_120 : decode cL_run 120 = .ok (.iload 10, 2) := by decide +kernel
theorem dL_run_122 : decode cL_run 122 = .ok (.iadd, 1) := by decide +kernel
theorem dL_run_123 : decode cL_run 123 = .ok (.iaload, 1) := by decide +kernel
theorem dL_run_124 : decode cL_run 124 = .ok (.iastore, 1) := by decide +kernel
theorem dL_run_125 : decode cL_run 125 = .ok (.iinc 10 (-1), 3) := by decide +kernel
theorem dL_run_128 : decode cL_run 128 = .ok (.goto (-34), 3) := by decide +kernel
theorem dL_run_131 : decode cL_run 131 = .ok (.aload 7, 2) := by decide +kernel
theorem dL_run_133 : decode cL_run 133 = .ok (.iconst 0, 1) := by decide +kernel
theorem dL_run_134 : decode cL_run 134 = .ok (.iload 5, 2) := by decide +kernel
theorem dL_run_136 : decode cL_run 136 = .ok (.iastore, 1) := by decide +kernel
theorem dL_run_137 : decode cL_run 137 = .ok (.aload 7, 2) := by decide +kernel
theorem dL_run_139 : decode cL_run 139 = .ok (.bipush 11, 2) := by decide +kernel
theorem dL_run_141 : decode cL_run 141 = .ok (.iconst 1, 1) := by decide +kernel
theorem dL_run_142 : decode cL_run 142 = .ok (.iastore, 1) := by decide +kernel
theorem dL_run_143 : decode cL_run 143 = .ok (.ldc2_w 43, 3) := by decide +kernel
theorem dL_run_146 : decode cL_run 146 = .ok (.iload 5, 2) := by decide +kernel
theorem dL_run_148 : decode cL_run 148 = .ok (.invokestatic 45, 3) := by decide +kernel
theorem dL_run_151 : decode cL_run 151 = .ok (.i2l, 1) := by decide +kernel
theorem dL_run_152 : decode cL_run 152 = .ok (.lmul, 1) := by decide +kernel
theorem dL_run_153 : decode cL_run 153 = .ok (.lstore 8, 2) := by decide +kernel
theorem dL_run_155 : decode cL_run 155 = .ok (.aload_n 2, 1) := by decide +kernel
theorem dL_run_156 : decode cL_run 156 = .ok (.iconst 2, 1) := by decide +kernel
theorem dL_run_157 : decode cL_run 157 = .ok (.dup2, 1) := by decide +kernel
theorem dL_run_158 : decode cL_run 158 = .ok (.iaload, 1) := by decide +kernel
theorem dL_run_159 : decode cL_run 159 = .ok (.iconst 1, 1) := by decide +kernel
theorem dL_run_160 : decode cL_run 160 = .ok (.iadd, 1) := by decide +kernel
theorem dL_run_161 : decode cL_run 161 = .ok (.iastore, 1) := by decide +kernel
theorem dL_run_162 : decode cL_run 162 = .ok (.iconst 0, 1) := by decide +kernel
theorem dL_run_163 : decode cL_run 163 = .ok (.istore 10, 2) := by decide +kernel
theorem dL_run_165 : decode cL_run 165 = .ok (.iload 10, 2) := by decide +kernel
theorem dL_run_167 : decode cL_run 167 = .ok (.aload_n 2, 1) := by decide +kernel
theorem dL_run_168 : decode cL_run 168 = .ok (.iconst 0, 1) := by decide +kernel
theorem dL_run_169 : decode cL_run 169 = .ok (.iaload, 1) := by decide +kernel
theorem dL_run_170 : decode cL_run 170 = .ok (.if_icmp .ge 43, 3) := by decide +kernel
theorem dL_run_173 : decode cL_run 173 = .ok (.aload_n 2, 1) := by decide +kernel
theorem dL_run_174 : decode cL_run 174 = .ok (.iconst 0, 1) := by decide +kernel
theorem dL_run_175 : decode cL_run 175 = .ok (.iaload, 1) := by decide +kernel
theorem dL_run_176 : decode cL_run 176 = .ok (.iconst 4, 1) := by decide +kernel
theorem dL_run_177 : decode cL_run 177 = .ok (.if_icmp .ne 36, 3) := by decide +kernel
theorem dL_run_180 : decode cL_run 180 = .ok (.aload_n 1, 1) := by decide +kernel
theorem dL_run_181 : decode cL_run 181 = .ok (.bipush 14, 2) := by decide +kernel
theorem dL_run_183 : decode cL_run 183 = .ok (.iload 10, 2) := by decide +kernel
theorem dL_run_185 : decode cL_run 185 = .ok (.imul, 1) := by decide +kernel
theorem dL_run_186 : decode cL_run 186 = .ok (.bipush 12, 2) := by decide +kernel
theorem dL_run_188 : decode cL_run 188 = .ok (.iadd, 1) := by decide +kernel
theorem dL_run_189 : decode cL_run 189 = .ok (.iaload, 1) := by decide +kernel
theorem dL_run_190 : decode cL_run 190 = .ok (.ifCond .ne 17, 3) := by decide +kernel
theorem dL_run_193 : decode cL_run 193 = .ok (.aload_n 1, 1) := by decide +kernel
theorem dL_run_194 : decode cL_run 194 = .ok (.aload_n 2, 1) := by decide +kernel
theorem dL_run_195 : decode cL_run 195 = .ok (.iload 10, 2) := by decide +kernel
theorem dL_run_197 : decode cL_run 197 = .ok (.invokestatic 31, 3) := by decide +kernel
theorem dL_run_200 : decode cL_run 200 = .ok (.aload_n 2, 1) := by decide +kernel
theorem dL_run_201 : decode cL_run 201 = .ok (.iconst 4, 1) := by decide +kernel
theorem dL_run_202 : decode cL_run 202 = .ok (.dup2, 1) := by decide +kernel
theorem dL_run_203 : decode cL_run 203 = .ok (.iaload, 1) := by decide +kernel
theorem dL_run_204 : decode cL_run 204 = .ok (.iconst 1, 1) := by decide +kernel
theorem dL_run_205 : decode cL_run 205 = .ok (.iadd, 1) := by decide +kernel
theorem dL_run_206 : decode cL_run 206 = .ok (.iastore, 1) := by decide +kernel
theorem dL_run_207 : decode cL_run 207 = .ok (.iinc 10 1, 3) := by decide +kernel
theorem dL_run_210 : decode cL_run 210 = .ok (.goto (-45), 3) := by decide +kernel
theorem dL_run_213 : decode cL_run 213 = .ok (.aload_n 0, 1) := by decide +kernel
theorem dL_run_214 : decode cL_run 214 = .ok (.aload 7, 2) := by decide +kernel
theorem dL_run_216 : decode cL_run 216 = .ok (.iconst 0, 1) := by decide +kernel
theorem dL_run_217 : decode cL_run 217 = .ok (.iconst 0, 1) := by decide +kernel
theorem dL_run_218 : decode cL_run 218 = .ok (.invokestatic 49, 3) := by decide +kernel
theorem dL_run_221 : decode cL_run 221 = .ok (.lstore 10, 2) := by decide +kernel
theorem dL_run_223 : decode cL_run 223 = .ok (.aload_n 2, 1) := by decide +kernel
theorem dL_run_224 : decode cL_run 224 = .ok (.iconst 0, 1) := by decide +kernel
theorem dL_run_225 : decode cL_run 225 = .ok (.iaload, 1) := by decide +kernel
theorem dL_run_226 : decode cL_run 226 = .ok (.iconst 4, 1) := by decide +kernel
theorem dL_run_227 : decode cL_run 227 = .ok (.if_icmp .ge 45, 3) := by decide +kernel
theorem dL_run_230 : decode cL_run 230 = .ok (.iconst 0, 1) := by decide +kernel
theorem dL_run_231 : decode cL_run 231 = .ok (.istore 12, 2) := by decide +kernel
theorem dL_run_233 : decode cL_run 233 = .ok (.iload 12, 2) := by decide +kernel
theorem dL_run_235 : decode cL_run 235 = .ok (.bipush 14, 2) := by decide +kernel
theorem dL_run_237 : decode cL_run 237 = .ok (.if_icmp .ge 25, 3) := by decide +kernel
theorem dL_run_240 : decode cL_run 240 = .ok (.aload_n 1, 1) := by decide +kernel
theorem dL_run_241 : decode cL_run 241 = .ok (.bipush 14, 2) := by decide +kernel
theorem dL_run_243 : decode cL_run 243 = .ok (.aload_n 2, 1) := by decide +kernel
theorem dL_run_244 : decode cL_run 244 = .ok (.iconst 0, 1) := by decide +kernel
theorem dL_run_245 : decode cL_run 245 = .ok (.iaload, 1) := by decide +kernel
theorem dL_run_246 : decode cL_run 246 = .ok (.imul, 1) := by decide +kernel
theorem dL_run_247 : decode cL_run 247 = .ok (.iload 12, 2) := by decide +kernel
theorem dL_run_249 : decode cL_run 249 = .ok (.iadd, 1) := by decide +kernel
theorem dL_run_250 : decode cL_run 250 = .ok (.aload 7, 2) := by decide +kernel
theorem dL_run_252 : decode cL_run 252 = .ok (.iload 12, 2) := by decide +kernel
theorem dL_run_254 : decode cL_run 254 = .ok (.iaload, 1) := by decide +kernel
theorem dL_run_255 : decode cL_run 255 = .ok (.iastore, 1) := by decide +kernel
theorem dL_run_256 : decode cL_run 256 = .ok (.iinc 12 1, 3) := by decide +kernel
theorem dL_run_259 : decode cL_run 259 = .ok (.goto (-26), 3) := by decide +kernel
theorem dL_run_262 : decode cL_run 262 = .ok (.aload_n 2, 1) := by decide +kernel
theorem dL_run_263 : decode cL_run 263 = .ok (.iconst 0, 1) := by decide +kernel
theorem dL_run_264 : decode cL_run 264 = .ok (.dup2, 1) := by decide +kernel
theorem dL_run_265 : decode cL_run 265 = .ok (.iaload, 1) := by decide +kernel
theorem dL_run_266 : decode cL_run 266 = .ok (.iconst 1, 1) := by decide +kernel
theorem dL_run_267 : decode cL_run 267 = .ok (.iadd, 1) := by decide +kernel
theorem dL_run_268 : decode cL_run 268 = .ok (.iastore, 1) := by decide +kernel
theorem dL_run_269 : decode cL_run 269 = .ok (.goto 11, 3) := by decide +kernel
theorem dL_run_272 : decode cL_run 272 = .ok (.aload_n 2, 1) := by decide +kernel
theorem dL_run_273 : decode cL_run 273 = .ok (.bipush 7, 2) := by decide +kernel
theorem dL_run_275 : decode cL_run 275 = .ok (.dup2, 1) := by decide +kernel
theorem dL_run_276 : decode cL_run 276 = .ok (.iaload, 1) := by decide +kernel
theorem dL_run_277 : decode cL_run 277 = .ok (.iconst 1, 1) := by decide +kernel
theorem dL_run_278 : decode cL_run 278 = .ok (.iadd, 1) := by decide +kernel
theorem dL_run_279 : decode cL_run 279 = .ok (.iastore, 1) := by decide +kernel
theorem dL_run_280 : decode cL_run 280 = .ok (.aload_n 3, 1) := by decide +kernel
theorem dL_run_281 : decode cL_run 281 = .ok (.iconst 0, 1) := by decide +kernel
theorem dL_run_282 : decode cL_run 282 = .ok (.dup2, 1) := by decide +kernel
theorem dL_run_283 : decode cL_run 283 = .ok (.laload, 1) := by decide +kernel
theorem dL_run_284 : decode cL_run 284 = .ok (.lload 10, 2) := by decide +kernel
theorem dL_run_286 : decode cL_run 286 = .ok (.ladd, 1) := by decide +kernel
theorem dL_run_287 : decode cL_run 287 = .ok (.lastore, 1) := by decide +kernel
theorem dL_run_288 : decode cL_run 288 = .ok (.aload_n 3, 1) := by decide +kernel
theorem dL_run_289 : decode cL_run 289 = .ok (.iconst 1, 1) := by decide +kernel
theorem dL_run_290 : decode cL_run 290 = .ok (.dup2, 1) := by decide +kernel
theorem dL_run_291 : decode cL_run 291 = .ok (.laload, 1) := by decide +kernel
theorem dL_run_292 : decode cL_run 292 = .ok (.lload 8, 2) := by decide +kernel
theorem dL_run_294 : decode cL_run 294 = .ok (.ladd, 1) := by decide +kernel
theorem dL_run_295 : decode cL_run 295 = .ok (.lastore, 1) := by decide +kernel
theorem dL_run_296 : decode cL_run 296 = .ok (.iconst 0, 1) := by decide +kernel
theorem dL_run_297 : decode cL_run 297 = .ok (.istore 12, 2) := by decide +kernel
theorem dL_run_299 : decode cL_run 299 = .ok (.iload 12, 2) := by decide +kernel
theorem dL_run_301 : decode cL_run 301 = .ok (.iconst 5, 1) := by decide +kernel
theorem dL_run_302 : decode cL_run 302 = .ok (.if_icmp .ge 39, 3) := by decide +kernel
theorem dL_run_305 : decode cL_run 305 = .ok (.aload_n 0, 1) := by decide +kernel
theorem dL_run_306 : decode cL_run 306 = .ok (.iconst 5, 1) := by decide +kernel
theorem dL_run_307 : decode cL_run 307 = .ok (.iload 12, 2) := by decide +kernel
theorem dL_run_309 : decode cL_run 309 = .ok (.iadd, 1) := by decide +kernel
theorem dL_run_310 : decode cL_run 310 = .ok (.iload 5, 2) := by decide +kernel
theorem dL_run_312 : decode cL_run 312 = .ok (.iload 12, 2) := by decide +kernel
theorem dL_run_314 : decode cL_run 314 = .ok (.ishr, 1) := by decide +kernel
theorem dL_run_315 : decode cL_run 315 = .ok (.iconst 1, 1) := by decide +kernel
theorem dL_run_316 : decode cL_run 316 = .ok (.iand, 1) := by decide +kernel
theorem dL_run_317 : decode cL_run 317 = .ok (.iconst 1, 1) := by decide +kernel
theorem dL_run_318 : decode cL_run 318 = .ok (.if_icmp .ne 10, 3) := by decide +kernel
theorem dL_run_321 : decode cL_run 321 = .ok (.aload_n 0, 1) := by decide +kernel
theorem dL_run_322 : decode cL_run 322 = .ok (.iload 12, 2) := by decide +kernel
theorem dL_run_324 : decode cL_run 324 = .ok (.iaload, 1) := by decide +kernel
theorem dL_run_325 : decode cL_run 325 = .ok (.goto 9, 3) := by decide +kernel
theorem dL_run_328 : decode cL_run 328 = .ok (.aload_n 0, 1) := by decide +kernel
theorem dL_run_329 : decode cL_run 329 = .ok (.iconst 5, 1) := by decide +kernel
theorem dL_run_330 : decode cL_run 330 = .ok (.iload 12, 2) := by decide +kernel
theorem dL_run_332 : decode cL_run 332 = .ok (.iadd, 1) := by decide +kernel
theorem dL_run_333 : decode cL_run 333 = .ok (.iaload, 1) := by decide +kernel
theorem dL_run_334 : decode cL_run 334 = .ok (.iastore, 1) := by decide +kernel
theorem dL_run_335 : decode cL_run 335 = .ok (.iinc 12 1, 3) := by decide +kernel
theorem dL_run_338 : decode cL_run 338 = .ok (.goto (-39), 3) := by decide +kernel
theorem dL_run_341 : decode cL_run 341 = .ok (.aload_n 0, 1) := by decide +kernel
theorem dL_run_342 : decode cL_run 342 = .ok (.aload_n 1, 1) := by decide +kernel
theorem dL_run_343 : decode cL_run 343 = .ok (.aload_n 2, 1) := by decide +kernel
theorem dL_run_344 : decode cL_run 344 = .ok (.invokestatic 53, 3) := by decide +kernel
theorem dL_run_347 : decode cL_run 347 = .ok (.istore 12, 2) := by decide +kernel
theorem dL_run_349 : decode cL_run 349 = .ok (.lload 10, 2) := by decide +kernel
theorem dL_run_351 : decode cL_run 351 = .ok (.lload 8, 2) := by decide +kernel
theorem dL_run_353 : decode cL_run 353 = .ok (.ladd, 1) := by decide +kernel
theorem dL_run_354 : decode cL_run 354 = .ok (.iload 12, 2) := by decide +kernel
theorem dL_run_356 : decode cL_run 356 = .ok (.ifCond .ge 7, 3) := by decide +kernel
theorem dL_run_359 : decode cL_run 359 = .ok (.lconst 1, 1) := by decide +kernel
theorem dL_run_360 : decode cL_run 360 = .ok (.goto 4, 3) := by decide +kernel
theorem dL_run_363 : decode cL_run 363 = .ok (.lconst 0, 1) := by decide +kernel
theorem dL_run_364 : decode cL_run 364 = .ok (.ladd, 1) := by decide +kernel
theorem dL_run_365 : decode cL_run 365 = .ok (.lreturn, 1) := by decide +kernel
theorem dL_cut_0 : decode cL_cut 0 = .ok (.lload_n 0, 1) := by decide +kernel
theorem dL_cut_1 : decode cL_cut 1 = .ok (.ldc2_w 57, 3) := by decide +kernel
theorem dL_cut_4 : decode cL_cut 4 = .ok (.lcmp, 1) := by decide +kernel
theorem dL_cut_5 : decode cL_cut 5 = .ok (.ifCond .le 9, 3) := by decide +kernel
theorem dL_cut_8 : decode cL_cut 8 = .ok (.ldc2_w 57, 3) := by decide +kernel
theorem dL_cut_11 : decode cL_cut 11 = .ok (.goto 4, 3) := by decide +kernel
theorem dL_cut_14 : decode cL_cut 14 = .ok (.lload_n 0, 1) := by decide +kernel
theorem dL_cut_15 : decode cL_cut 15 = .ok (.l2i, 1) := by decide +kernel
theorem dL_cut_16 : decode cL_cut 16 = .ok (.ireturn, 1) := by decide +kernel
theorem dL_arePlans_0 : decode cL_arePlans 0 = .ok (.iconst 0, 1) := by decide +kernel
theorem dL_arePlans_1 : decode cL_arePlans 1 = .ok (.istore 5, 2) := by decide +kernel
theorem dL_arePlans_3 : decode cL_arePlans 3 = .ok (.lconst 0, 1) := by decide +kernel
theorem dL_arePlans_4 : decode cL_arePlans 4 = .ok (.lstore 6, 2) := by decide +kernel
theorem dL_arePlans_6 : decode cL_arePlans 6 = .ok (.lconst 0, 1) := by decide +kernel
theorem dL_arePlans_7 : decode cL_arePlans 7 = .ok (.lstore 8, 2) := by decide +kernel
theorem dL_arePlans_9 : decode cL_arePlans 9 = .ok (.iconst 1, 1) := by decide +kernel
theorem dL_arePlans_10 : decode cL_arePlans 10 = .ok (.istore 10, 2) := by decide +kernel
theorem dL_arePlans_12 : decode cL_arePlans 12 = .ok (.iconst 0, 1) := by decide +kernel
theorem dL_arePlans_13 : decode cL_arePlans 13 = .ok (.istore 11, 2) := by decide +kernel
theorem dL_arePlans_15 : decode cL_arePlans 15 = .ok (.iload 11, 2) := by decide +kernel
theorem dL_arePlans_17 : decode cL_arePlans 17 = .ok (.aload_n 3, 1) := by decide +kernel
theorem dL_arePlans_18 : decode cL_arePlans 18 = .ok (.iconst 0, 1) := by decide +kernel
theorem dL_arePlans_19 : decode cL_arePlans 19 = .ok (.iaload, 1) := by decide +kernel
theorem dL_arePlans_20 : decode cL_arePlans 20 = .ok (.if_icmp .ge 290, 3) := by decide +kernel
theorem dL_arePlans_23 : decode cL_arePlans 23 = .ok (.iload 10, 2) := by decide +kernel
theorem dL_arePlans_25 : decode cL_arePlans 25 = .ok (.ifCond .eq 285, 3) := by decide +kernel
theorem dL_arePlans_28 : decode cL_arePlans 28 = .ok (.bipush 14, 2) := by decide +kernel
theorem dL_arePlans_30 : decode cL_arePlans 30 = .ok (.iload 11, 2) := by decide +kernel
theorem dL_arePlans_32 : decode cL_arePlans 32 = .ok (.imul, 1) := by decide +kernel
theorem dL_arePlans_33 : decode cL_arePlans 33 = .ok (.istore 12, 2) := by decide +kernel
theorem dL_arePlans_35 : decode cL_arePlans 35 = .ok (.aload_n 1, 1) := by decide +kernel
theorem dL_arePlans_36 : decode cL_arePlans 36 = .ok (.aload_n 2, 1) := by decide +kernel
theorem dL_arePlans_37 : decode cL_arePlans 37 = .ok (.iload 12, 2) := by decide +kernel
theorem dL_arePlans_39 : decode cL_arePlans 39 = .ok (.iconst 0, 1) := by decide +kernel
theorem dL_arePlans_40 : decode cL_arePlans 40 = .ok (.invokestatic 49, 3) := by decide +kernel
theorem dL_arePlans_43 : decode cL_arePlans 43 = .ok (.lstore 13, 2) := by decide +kernel
theorem dL_arePlans_45 : decode cL_arePlans 45 = .ok (.aload_n 1, 1) := by decide +kernel
theorem dL_arePlans_46 : decode cL_arePlans 46 = .ok (.aload_n 2, 1) := by decide +kernel
theorem dL_arePlans_47 : decode cL_arePlans 47 = .ok (.iload 12, 2) := by decide +kernel
theorem dL_arePlans_49 : decode cL_arePlans 49 = .ok (.iaload, 1) := by decide +kernel
theorem dL_arePlans_50 : decode cL_arePlans 50 = .ok (.iconst 0, 1) := by decide +kernel
theorem dL_arePlans_51 : decode cL_arePlans 51 = .ok (.aload 4, 2) := by decide +kernel
theorem dL_arePlans_53 : decode cL_arePlans 53 = .ok (.invokestatic 19, 3) := by decide +kernel
theorem dL_arePlans_56 : decode cL_arePlans 56 = .ok (.lstore 15, 2) := by decide +kernel
theorem dL_arePlans_58 : decode cL_arePlans 58 = .ok (.lload 6, 2) := by decide +kernel
theorem dL_arePlans_60 : decode cL_arePlans 60 = .ok (.lload 15, 2) := by decide +kernel
theorem dL_arePlans_62 : decode cL_arePlans 62 = .ok (.ladd, 1) := by decide +kernel
theorem dL_arePlans_63 : decode cL_arePlans 63 = .ok (.lstore 6, 2) := by decide +kernel
theorem dL_arePlans_65 : decode cL_arePlans 65 = .ok (.lload 8, 2) := by decide +kernel
theorem dL_arePlans_67 : decode cL_arePlans 67 = .ok (.lload 13, 2) := by decide +kernel
theorem dL_arePlans_69 : decode cL_arePlans 69 = .ok (.ladd, 1) := by decide +kernel
theorem dL_arePlans_70 : decode cL_arePlans 70 = .ok (.lstore 8, 2) := by decide +kernel
theorem dL_arePlans_72 : decode cL_arePlans 72 = .ok (.iload 5, 2) := by decide +kernel
theorem dL_arePlans_74 : decode cL_arePlans 74 = .ok (.aload_n 2, 1) := by decide +kernel
theorem dL_arePlans_75 : decode cL_arePlans 75 = .ok (.iload 12, 2) := by decide +kernel
theorem dL_arePlans_77 : decode cL_arePlans 77 = .ok (.bipush 12, 2) := by decide +kernel
theorem dL_arePlans_79 : decode cL_arePlans 79 = .ok (.iadd, 1) := by decide +kernel
theorem dL_arePlans_80 : decode cL_arePlans 80 = .ok (.iaload, 1) := by decide +kernel
theorem dL_arePlans_81 : decode cL_arePlans 81 = .ok (.iadd, 1) := by decide +kernel
theorem dL_arePlans_82 : decode cL_arePlans 82 = .ok (.istore 5, 2) := by decide +kernel
theorem dL_arePlans_84 : decode cL_arePlans 84 = .ok (.iconst 0, 1) := by decide +kernel
theorem dL_arePlans_85 : decode cL_arePlans 85 = .ok (.istore 17, 2) := by decide +kernel
theorem dL_arePlans_87 : decode cL_arePlans 87 = .ok (.iload 17, 2) := by decide +kernel
theorem dL_arePlans_89 : decode cL_arePlans 89 = .ok (.iconst 5, 1) := by decide +kernel
theorem dL_arePlans_90 : decode cL_arePlans 90 = .ok (.if_icmp .ge 43, 3) := by decide +kernel
theorem dL_arePlans_93 : decode cL_arePlans 93 = .ok (.iload 10, 2) := by decide +kernel
theorem dL_arePlans_95 : decode cL_arePlans 95 = .ok (.ifCond .eq 29, 3) := by decide +kernel
theorem dL_arePlans_98 : decode cL_arePlans 98 = .ok (.aload_n 0, 1) := by decide +kernel
theorem dL_arePlans_99 : decode cL_arePlans 99 = .ok (.aload_n 2, 1) := by decide +kernel
theorem dL_arePlans_100 : decode cL_arePlans 100 = .ok (.iload 12, 2) := by decide +kernel
theorem dL_arePlans_102 : decode cL_arePlans 102 = .ok (.iaload, 1) := by decide +kernel
theorem dL_arePlans_103 : decode cL_arePlans 103 = .ok (.iload 17, 2) := by decide +kernel
theorem dL_arePlans_105 : decode cL_arePlans 105 = .ok (.invokevirtual 59, 3) := by decide +kernel
theorem dL_arePlans_108 : decode cL_arePlans 108 = .ok (.aload_n 2, 1) := by decide +kernel
theorem dL_arePlans_109 : decode cL_arePlans 109 = .ok (.iload 12, 2) := by decide +kernel
theorem dL_arePlans_111 : decode cL_arePlans 111 = .ok (.iconst 1, 1) := by decide +kernel
theorem dL_arePlans_112 : decode cL_arePlans 112 = .ok (.iadd, 1) := by decide +kernel
theorem dL_arePlans_113 : decode cL_arePlans 113 = .ok (.iload 17, 2) := by decide +kernel
theorem dL_arePlans_115 : decode cL_arePlans 115 = .ok (.iadd, 1) := by decide +kernel
theorem dL_arePlans_116 : decode cL_arePlans 116 = .ok (.iaload, 1) := by decide +kernel
theorem dL_arePlans_117 : decode cL_arePlans 117 = .ok (.if_icmp .ne 7, 3) := by decide +kernel
theorem dL_arePlans_120 : decode cL_arePlans 120 = .ok (.iconst 1, 1) := by decide +kernel
theorem dL_arePlans_121 : decode cL_arePlans 121 = .ok (.goto 4, 3) := by decide +kernel
theorem dL_arePlans_124 : decode cL_arePlans 124 = .ok (.iconst 0, 1) := by decide +kernel
theorem dL_arePlans_125 : decode cL_arePlans 125 = .ok (.istore 10, 2) := by decide +kernel
theorem dL_arePlans_127 : decode cL_arePlans 127 = .ok (.iinc 17 1, 3) := by decide +kernel
theorem dL_arePlans_130 : decode cL_arePlans 130 = .ok (.goto (-43), 3) := by decide +kernel
theorem dL_arePlans_133 : decode cL_arePlans 133 = .ok (.iload 10, 2) := by decide +kernel
theorem dL_arePlans_135 : decode cL_arePlans 135 = .ok (.ifCond .eq 166, 3) := by decide +kernel
theorem dL_arePlans_138 : decode cL_arePlans 138 = .ok (.aload_n 0, 1) := by decide +kernel
theorem dL_arePlans_139 : decode cL_arePlans 139 = .ok (.aload_n 2, 1) := by decide +kernel
theorem dL_arePlans_140 : decode cL_arePlans 140 = .ok (.iload 12, 2) := by decide +kernel
theorem dL_arePlans_142 : decode cL_arePlans 142 = .ok (.iaload, 1) := by decide +kernel
theorem dL_arePlans_143 : decode cL_arePlans 143 = .ok (.iconst 5, 1) := by decide +kernel
theorem dL_arePlans_144 : decode cL_arePlans 144 = .ok (.invokevirtual 59, 3) := by decide +kernel
theorem dL_arePlans_147 : decode cL_arePlans 147 = .ok (.lload 13, 2) := by decide +kernel
theorem dL_arePlans_149 : decode cL_arePlans 149 = .ok (.invokestatic 65, 3) := by decide +kernel
theorem dL_arePlans_152 : decode cL_arePlans 152 = .ok (.if_icmp .ne 149, 3) := by decide +kernel
theorem dL_arePlans_155 : decode cL_arePlans 155 = .ok (.aload_n 0, 1) := by decide +kernel
theorem dL_arePlans_156 : decode cL_arePlans 156 = .ok (.aload_n 2, 1) := by decide +kernel
theorem dL_arePlans_157 : decode cL_arePlans 157 = .ok (.iload 12, 2) := by decide +kernel
theorem dL_arePlans_159 : decode cL_arePlans 159 = .ok (.iaload, 1) := by decide +kernel
theorem dL_arePlans_160 : decode cL_arePlans 160 = .ok (.bipush 6, 2) := by decide +kernel
theorem dL_arePlans_162 : decode cL_arePlans 162 = .ok (.invokevirtual 59, 3) := by decide +kernel
theorem dL_arePlans_165 : decode cL_arePlans 165 = .ok (.aload_n 1, 1) := by decide +kernel
theorem dL_arePlans_166 : decode cL_arePlans 166 = .ok (.aload_n 2, 1) := by decide +kernel
theorem dL_arePlans_167 : decode cL_arePlans 167 = .ok (.iload 12, 2) := by decide +kernel
theorem dL_arePlans_169 : decode cL_arePlans 169 = .ok (.iconst 5, 1) := by decide +kernel
theorem dL_arePlans_170 : decode cL_arePlans 170 = .ok (.invokestatic 49, 3) := by decide +kernel
theorem dL_arePlans_173 : decode cL_arePlans 173 = .ok (.invokestatic 65, 3) := by decide +kernel
theorem dL_arePlans_176 : decode cL_arePlans 176 = .ok (.if_icmp .ne 125, 3) := by decide +kernel
theorem dL_arePlans_179 : decode cL_arePlans 179 = .ok (.aload_n 0, 1) := by decide +kernel
theorem dL_arePlans_180 : decode cL_arePlans 180 = .ok (.aload_n 2, 1) := by decide +kernel
theorem dL_arePlans_181 : decode cL_arePlans 181 = .ok (.iload 12, 2) := by decide +kernel
theorem dL_arePlans_183 : decode cL_arePlans 183 = .ok (.iaload, 1) := by decide +kernel
theorem dL_arePlans_184 : decode cL_arePlans 184 = .ok (.bipush 7, 2) := by decide +kernel
theorem dL_arePlans_186 : decode cL_arePlans 186 = .ok (.invokevirtual 59, 3) := by decide +kernel
theorem dL_arePlans_189 : decode cL_arePlans 189 = .ok (.aload_n 2, 1) := by decide +kernel
theorem dL_arePlans_190 : decode cL_arePlans 190 = .ok (.iload 12, 2) := by decide +kernel
theorem dL_arePlans_192 : decode cL_arePlans 192 = .ok (.bipush 11, 2) := by decide +kernel
theorem dL_arePlans_194 : decode cL_arePlans 194 = .ok (.iadd, 1) := by decide +kernel
theorem dL_arePlans_195 : decode cL_arePlans 195 = .ok (.iaload, 1) := by decide +kernel
theorem dL_arePlans_196 : decode cL_arePlans 196 = .ok (.if_icmp .ne 105, 3) := by decide +kernel
theorem dL_arePlans_199 : decode cL_arePlans 199 = .ok (.aload_n 0, 1) := by decide +kernel
theorem dL_arePlans_200 : decode cL_arePlans 200 = .ok (.aload_n 2, 1) := by decide +kernel
theorem dL_arePlans_201 : decode cL_arePlans 201 = .ok (.iload 12, 2) := by decide +kernel
theorem dL_arePlans_203 : decode cL_arePlans 203 = .ok (.iaload, 1) := by decide +kernel
theorem dL_arePlans_204 : decode cL_arePlans 204 = .ok (.bipush 8, 2) := by decide +kernel
theorem dL_arePlans_206 : decode cL_arePlans 206 = .ok (.invokevirtual 59, 3) := by decide +kernel
theorem dL_arePlans_209 : decode cL_arePlans 209 = .ok (.aload_n 2, 1) := by decide +kernel
theorem dL_arePlans_210 : decode cL_arePlans 210 = .ok (.iload 12, 2) := by decide +kernel
theorem dL_arePlans_212 : decode cL_arePlans 212 = .ok (.bipush 12, 2) := by decide +kernel
theorem dL_arePlans_214 : decode cL_arePlans 214 = .ok (.iadd, 1) := by decide +kernel
theorem dL_arePlans_215 : decode cL_arePlans 215 = .ok (.iaload, 1) := by decide +kernel
theorem dL_arePlans_216 : decode cL_arePlans 216 = .ok (.if_icmp .ne 85, 3) := by decide +kernel
theorem dL_arePlans_219 : decode cL_arePlans 219 = .ok (.aload_n 0, 1) := by decide +kernel
theorem dL_arePlans_220 : decode cL_arePlans 220 = .ok (.aload_n 2, 1) := by decide +kernel
theorem dL_arePlans_221 : decode cL_arePlans 221 = .ok (.iload 12, 2) := by decide +kernel
theorem dL_arePlans_223 : decode cL_arePlans 223 = .ok (.iaload, 1) := by decide +kernel
theorem dL_arePlans_224 : decode cL_arePlans 224 = .ok (.bipush 9, 2) := by decide +kernel
theorem dL_arePlans_226 : decode cL_arePlans 226 = .ok (.invokevirtual 59, 3) := by decide +kernel
