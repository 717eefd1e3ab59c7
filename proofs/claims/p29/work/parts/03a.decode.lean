theorem dX0_init_0 : decode cX0_init 0 = .ok (.aload_n 0, 1) := by decide +kernel
theorem dX0_init_1 : decode cX0_init 1 = .ok (.invokespecial 1, 3) := by decide +kernel
theorem dX0_init_4 : decode cX0_init 4 = .ok (.aload_n 0, 1) := by decide +kernel
theorem dX0_init_5 : decode cX0_init 5 = .ok (.iload_n 1, 1) := by decide +kernel
theorem dX0_init_6 : decode cX0_init 6 = .ok (.putfield 7, 3) := by decide +kernel
theorem dX0_init_9 : decode cX0_init 9 = .ok (.aload_n 0, 1) := by decide +kernel
theorem dX0_init_10 : decode cX0_init 10 = .ok (.iload_n 2, 1) := by decide +kernel
theorem dX0_init_11 : decode cX0_init 11 = .ok (.putfield 13, 3) := by decide +kernel
theorem dX0_init_14 : decode cX0_init 14 = .ok (.aload_n 0, 1) := by decide +kernel
theorem dX0_init_15 : decode cX0_init 15 = .ok (.aload_n 3, 1) := by decide +kernel
theorem dX0_init_16 : decode cX0_init 16 = .ok (.putfield 16, 3) := by decide +kernel
theorem dX0_init_19 : decode cX0_init 19 = .ok (.aload_n 0, 1) := by decide +kernel
theorem dX0_init_20 : decode cX0_init 20 = .ok (.lload 4, 2) := by decide +kernel
theorem dX0_init_22 : decode cX0_init 22 = .ok (.putfield 20, 3) := by decide +kernel
theorem dX0_init_25 : decode cX0_init 25 = .ok (.aload_n 0, 1) := by decide +kernel
theorem dX0_init_26 : decode cX0_init 26 = .ok (.iload 6, 2) := by decide +kernel
theorem dX0_init_28 : decode cX0_init 28 = .ok (.putfield 24, 3) := by decide +kernel
theorem dX0_init_31 : decode cX0_init 31 = .ok (.return_, 1) := by decide +kernel
theorem dX1_init_0 : decode cX1_init 0 = .ok (.aload_n 0, 1) := by decide +kernel
theorem dX1_init_1 : decode cX1_init 1 = .ok (.invokespecial 3, 3) := by decide +kernel
theorem dX1_init_4 : decode cX1_init 4 = .ok (.aload_n 0, 1) := by decide +kernel
theorem dX1_init_5 : decode cX1_init 5 = .ok (.bipush 60, 2) := by decide +kernel
theorem dX1_init_7 : decode cX1_init 7 = .ok (.newarray .char, 2) := by decide +kernel
theorem dX1_init_9 : decode cX1_init 9 = .ok (.putfield 9, 3) := by decide +kernel
theorem dX1_init_12 : decode cX1_init 12 = .ok (.aload_n 0, 1) := by decide +kernel
theorem dX1_init_13 : decode cX1_init 13 = .ok (.iconst 0, 1) := by decide +kernel
theorem dX1_init_14 : decode cX1_init 14 = .ok (.putfield 15, 3) := by decide +kernel
theorem dX1_init_17 : decode cX1_init 17 = .ok (.return_, 1) := by decide +kernel
theorem dX3_init_0 : decode cX3_init 0 = .ok (.aload_n 0, 1) := by decide +kernel
theorem dX3_init_1 : decode cX3_init 1 = .ok (.invokespecial 3, 3) := by decide +kernel
theorem dX3_init_4 : decode cX3_init 4 = .ok (.aload_n 0, 1) := by decide +kernel
theorem dX3_init_5 : decode cX3_init 5 = .ok (.bipush 32, 2) := by decide +kernel
theorem dX3_init_7 : decode cX3_init 7 = .ok (.newarray .long, 2) := by decide +kernel
theorem dX3_init_9 : decode cX3_init 9 = .ok (.putfield 9, 3) := by decide +kernel
theorem dX3_init_12 : decode cX3_init 12 = .ok (.aload_n 0, 1) := by decide +kernel
theorem dX3_init_13 : decode cX3_init 13 = .ok (.bipush 32, 2) := by decide +kernel
theorem dX3_init_15 : decode cX3_init 15 = .ok (.newarray .long, 2) := by decide +kernel
theorem dX3_init_17 : decode cX3_init 17 = .ok (.putfield 15, 3) := by decide +kernel
theorem dX3_init_20 : decode cX3_init 20 = .ok (.aload_n 0, 1) := by decide +kernel
theorem dX3_init_21 : decode cX3_init 21 = .ok (.bipush 32, 2) := by decide +kernel
theorem dX3_init_23 : decode cX3_init 23 = .ok (.newarray .int, 2) := by decide +kernel
theorem dX3_init_25 : decode cX3_init 25 = .ok (.putfield 18, 3) := by decide +kernel
theorem dX3_init_28 : decode cX3_init 28 = .ok (.aload_n 0, 1) := by decide +kernel
theorem dX3_init_29 : decode cX3_init 29 = .ok (.getfield 9, 3) := by decide +kernel
theorem dX3_init_32 : decode cX3_init 32 = .ok (.iconst 0, 1) := by decide +kernel
theorem dX3_init_33 : decode cX3_init 33 = .ok (.lconst 1, 1) := by decide +kernel
theorem dX3_init_34 : decode cX3_init 34 = .ok (.lastore, 1) := by decide +kernel
theorem dX3_init_35 : decode cX3_init 35 = .ok (.return_, 1) := by decide +kernel
theorem dX3_reckon_0 : decode cX3_reckon 0 = .ok (.iconst 0, 1) := by decide +kernel
theorem dX3_reckon_1 : decode cX3_reckon 1 = .ok (.istore_n 3, 1) := by decide +kernel
theorem dX3_reckon_2 : decode cX3_reckon 2 = .ok (.iload_n 3, 1) := by decide +kernel
theorem dX3_reckon_3 : decode cX3_reckon 3 = .ok (.iconst 5, 1) := by decide +kernel
theorem dX3_reckon_4 : decode cX3_reckon 4 = .ok (.if_icmp .ge 96, 3) := by decide +kernel
theorem dX3_reckon_7 : decode cX3_reckon 7 = .ok (.iconst 0, 1) := by decide +kernel
theorem dX3_reckon_8 : decode cX3_reckon 8 = .ok (.istore 4, 2) := by decide +kernel
theorem dX3_reckon_10 : decode cX3_reckon 10 = .ok (.iload 4, 2) := by decide +kernel
theorem dX3_reckon_12 : decode cX3_reckon 12 = .ok (.iload_n 3, 1) := by decide +kernel
theorem dX3_reckon_13 : decode cX3_reckon 13 = .ok (.invokestatic 22, 3) := by decide +kernel
theorem dX3_reckon_16 : decode cX3_reckon 16 = .ok (.if_icmp .ge 78, 3) := by decide +kernel
theorem dX3_reckon_19 : decode cX3_reckon 19 = .ok (.aload_n 0, 1) := by decide +kernel
theorem dX3_reckon_20 : decode cX3_reckon 20 = .ok (.getfield 9, 3) := by decide +kernel
theorem dX3_reckon_23 : decode cX3_reckon 23 = .ok (.iload 4, 2) := by decide +kernel
theorem dX3_reckon_25 : decode cX3_reckon 25 = .ok (.laload, 1) := by decide +kernel
theorem dX3_reckon_26 : decode cX3_reckon 26 = .ok (.aload_n 1, 1) := by decide +kernel
theorem dX3_reckon_27 : decode cX3_reckon 27 = .ok (.iload_n 3, 1) := by decide +kernel
theorem dX3_reckon_28 : decode cX3_reckon 28 = .ok (.iaload, 1) := by decide +kernel
theorem dX3_reckon_29 : decode cX3_reckon 29 = .ok (.i2l, 1) := by decide +kernel
theorem dX3_reckon_30 : decode cX3_reckon 30 = .ok (.lmul, 1) := by decide +kernel
theorem dX3_reckon_31 : decode cX3_reckon 31 = .ok (.lstore 5, 2) := by decide +kernel
theorem dX3_reckon_33 : decode cX3_reckon 33 = .ok (.iconst 0, 1) := by decide +kernel
theorem dX3_reckon_34 : decode cX3_reckon 34 = .ok (.istore 7, 2) := by decide +kernel
theorem dX3_reckon_36 : decode cX3_reckon 36 = .ok (.iload 7, 2) := by decide +kernel
theorem dX3_reckon_38 : decode cX3_reckon 38 = .ok (.iload_n 3, 1) := by decide +kernel
theorem dX3_reckon_39 : decode cX3_reckon 39 = .ok (.if_icmp .ge 35, 3) := by decide +kernel
theorem dX3_reckon_42 : decode cX3_reckon 42 = .ok (.iload 4, 2) := by decide +kernel
theorem dX3_reckon_44 : decode cX3_reckon 44 = .ok (.iload 7, 2) := by decide +kernel
theorem dX3_reckon_46 : decode cX3_reckon 46 = .ok (.invokestatic 26, 3) := by decide +kernel
theorem dX3_reckon_49 : decode cX3_reckon 49 = .ok (.ifCond .eq 19, 3) := by decide +kernel
theorem dX3_reckon_52 : decode cX3_reckon 52 = .ok (.lload 5, 2) := by decide +kernel
theorem dX3_reckon_54 : decode cX3_reckon 54 = .ok (.aload_n 2, 1) := by decide +kernel
theorem dX3_reckon_55 : decode cX3_reckon 55 = .ok (.iload 7, 2) := by decide +kernel
theorem dX3_reckon_57 : decode cX3_reckon 57 = .ok (.aaload, 1) := by decide +kernel
theorem dX3_reckon_58 : decode cX3_reckon 58 = .ok (.iload_n 3, 1) := by decide +kernel
theorem dX3_reckon_59 : decode cX3_reckon 59 = .ok (.iaload, 1) := by decide +kernel
theorem dX3_reckon_60 : decode cX3_reckon 60 = .ok (.i2l, 1) := by decide +kernel
theorem dX3_reckon_61 : decode cX3_reckon 61 = .ok (.lmul, 1) := by decide +kernel
theorem dX3_reckon_62 : decode cX3_reckon 62 = .ok (.ldc2_w 30, 3) := by decide +kernel
theorem dX3_reckon_65 : decode cX3_reckon 65 = .ok (.ldiv, 1) := by decide +kernel
theorem dX3_reckon_66 : decode cX3_reckon 66 = .ok (.lstore 5, 2) := by decide +kernel
theorem dX3_reckon_68 : decode cX3_reckon 68 = .ok (.iinc 7 1, 3) := by decide +kernel
theorem dX3_reckon_71 : decode cX3_reckon 71 = .ok (.goto (-35), 3) := by decide +kernel
theorem dX3_reckon_74 : decode cX3_reckon 74 = .ok (.aload_n 0, 1) := by decide +kernel
theorem dX3_reckon_75 : decode cX3_reckon 75 = .ok (.getfield 9, 3) := by decide +kernel
theorem dX3_reckon_78 : decode cX3_reckon 78 = .ok (.iload 4, 2) := by decide +kernel
theorem dX3_reckon_80 : decode cX3_reckon 80 = .ok (.iload_n 3, 1) := by decide +kernel
theorem dX3_reckon_81 : decode cX3_reckon 81 = .ok (.invokestatic 22, 3) := by decide +kernel
theorem dX3_reckon_84 : decode cX3_reckon 84 = .ok (.iadd, 1) := by decide +kernel
theorem dX3_reckon_85 : decode cX3_reckon 85 = .ok (.lload 5, 2) := by decide +kernel
theorem dX3_reckon_87 : decode cX3_reckon 87 = .ok (.lastore, 1) := by decide +kernel
theorem dX3_reckon_88 : decode cX3_reckon 88 = .ok (.iinc 4 1, 3) := by decide +kernel
theorem dX3_reckon_91 : decode cX3_reckon 91 = .ok (.goto (-81), 3) := by decide +kernel
theorem dX3_reckon_94 : decode cX3_reckon 94 = .ok (.iinc 3 1, 3) := by decide +kernel
theorem dX3_reckon_97 : decode cX3_reckon 97 = .ok (.goto (-95), 3) := by decide +kernel
theorem dX3_reckon_100 : decode cX3_reckon 100 = .ok (.iconst 1, 1) := by decide +kernel
theorem dX3_reckon_101 : decode cX3_reckon 101 = .ok (.istore_n 3, 1) := by decide +kernel
theorem dX3_reckon_102 : decode cX3_reckon 102 = .ok (.iload_n 3, 1) := by decide +kernel
theorem dX3_reckon_103 : decode cX3_reckon 103 = .ok (.bipush 32, 2) := by decide +kernel
theorem dX3_reckon_105 : decode cX3_reckon 105 = .ok (.if_icmp .ge 14, 3) := by decide +kernel
theorem dX3_reckon_108 : decode cX3_reckon 108 = .ok (.aload_n 0, 1) := by decide +kernel
theorem dX3_reckon_109 : decode cX3_reckon 109 = .ok (.iload_n 3, 1) := by decide +kernel
theorem dX3_reckon_110 : decode cX3_reckon 110 = .ok (.invokevirtual 32, 3) := by decide +kernel
theorem dX3_reckon_113 : decode cX3_reckon 113 = .ok (.iinc 3 1, 3) := by decide +kernel
theorem dX3_reckon_116 : decode cX3_reckon 116 = .ok (.goto (-14), 3) := by decide +kernel
theorem dX3_reckon_119 : decode cX3_reckon 119 = .ok (.return_, 1) := by decide +kernel
theorem dX3_planSet_0 : decode cX3_planSet 0 = .ok (.ldc2_w 38, 3) := by decide +kernel
theorem dX3_planSet_3 : decode cX3_planSet 3 = .ok (.lstore_n 2, 1) := by decide +kernel
theorem dX3_planSet_4 : decode cX3_planSet 4 = .ok (.iconst 0, 1) := by decide +kernel
theorem dX3_planSet_5 : decode cX3_planSet 5 = .ok (.istore 4, 2) := by decide +kernel
theorem dX3_planSet_7 : decode cX3_planSet 7 = .ok (.iconst 0, 1) := by decide +kernel
theorem dX3_planSet_8 : decode cX3_planSet 8 = .ok (.istore 5, 2) := by decide +kernel
theorem dX3_planSet_10 : decode cX3_planSet 10 = .ok (.iload 5, 2) := by decide +kernel
theorem dX3_planSet_12 : decode cX3_planSet 12 = .ok (.iconst 5, 1) := by decide +kernel
theorem dX3_planSet_13 : decode cX3_planSet 13 = .ok (.if_icmp .ge 90, 3) := by decide +kernel
theorem dX3_planSet_16 : decode cX3_planSet 16 = .ok (.iload_n 1, 1) := by decide +kernel
theorem dX3_planSet_17 : decode cX3_planSet 17 = .ok (.iload 5, 2) := by decide +kernel
theorem dX3_planSet_19 : decode cX3_planSet 19 = .ok (.invokestatic 22, 3) := by decide +kernel
theorem dX3_planSet_22 : decode cX3_planSet 22 = .ok (.isub, 1) := by decide +kernel
theorem dX3_planSet_23 : decode cX3_planSet 23 = .ok (.istore 6, 2) := by decide +kernel
theorem dX3_planSet_25 : decode cX3_planSet 25 = .ok (.iload_n 1, 1) := by decide +kernel
theorem dX3_planSet_26 : decode cX3_planSet 26 = .ok (.iload 5, 2) := by decide +kernel
theorem dX3_planSet_28 : decode cX3_planSet 28 = .ok (.invokestatic 26, 3) := by decide +kernel
theorem dX3_planSet_31 : decode cX3_planSet 31 = .ok (.ifCond .eq 66, 3) := by decide +kernel
theorem dX3_planSet_34 : decode cX3_planSet 34 = .ok (.iload 6, 2) := by decide +kernel
theorem dX3_planSet_36 : decode cX3_planSet 36 = .ok (.ifCond .lt 61, 3) := by decide +kernel
theorem dX3_planSet_39 : decode cX3_planSet 39 = .ok (.iload 6, 2) := by decide +kernel
theorem dX3_planSet_41 : decode cX3_planSet 41 = .ok (.bipush 32, 2) := by decide +kernel
theorem dX3_planSet_43 : decode cX3_planSet 43 = .ok (.if_icmp .ge 54, 3) := by decide +kernel
theorem dX3_planSet_46 : decode cX3_planSet 46 = .ok (.aload_n 0, 1) := by decide +kernel
theorem dX3_planSet_47 : decode cX3_planSet 47 = .ok (.getfield 18, 3) := by decide +kernel
theorem dX3_planSet_50 : decode cX3_planSet 50 = .ok (.iload 6, 2) := by decide +kernel
theorem dX3_planSet_52 : decode cX3_planSet 52 = .ok (.iaload, 1) := by decide +kernel
theorem dX3_planSet_53 : decode cX3_planSet 53 = .ok (.iload 5, 2) := by decide +kernel
theorem dX3_planSet_55 : decode cX3_planSet 55 = .ok (.invokestatic 40, 3) := by decide +kernel
theorem dX3_planSet_58 : decode cX3_planSet 58 = .ok (.istore 7, 2) := by decide +kernel
theorem dX3_planSet_60 : decode cX3_planSet 60 = .ok (.aload_n 0, 1) := by decide +kernel
theorem dX3_planSet_61 : decode cX3_planSet 61 = .ok (.getfield 15, 3) := by decide +kernel
theorem dX3_planSet_64 : decode cX3_planSet 64 = .ok (.iload 6, 2) := by decide +kernel
theorem dX3_planSet_66 : decode cX3_planSet 66 = .ok (.laload, 1) := by decide +kernel
theorem dX3_planSet_67 : decode cX3_planSet 67 = .ok (.lstore 8, 2) := by decide +kernel
theorem dX3_planSet_69 : decode cX3_planSet 69 = .ok (.lload 8, 2) := by decide +kernel
theorem dX3_planSet_71 : decode cX3_planSet 71 = .ok (.lload_n 2, 1) := by decide +kernel
theorem dX3_planSet_72 : decode cX3_planSet 72 = .ok (.lcmp, 1) := by decide +kernel
theorem dX3_planSet_73 : decode cX3_planSet 73 = .ok (.ifCond .lt 17, 3) := by decide +kernel
theorem dX3_planSet_76 : decode cX3_planSet 76 = .ok (.lload 8, 2) := by decide +kernel
theorem dX3_planSet_78 : decode cX3_planSet 78 = .ok (.lload_n 2, 1) := by decide +kernel
theorem dX3_planSet_79 : decode cX3_planSet 79 = .ok (.lcmp, 1) := by decide +kernel
theorem dX3_planSet_80 : decode cX3_planSet 80 = .ok (.ifCond .ne 17, 3) := by decide +kernel
theorem dX3_planSet_83 : decode cX3_planSet 83 = .ok (.iload 7, 2) := by decide +kernel
theorem dX3_planSet_85 : decode cX3_planSet 85 = .ok (.iload 4, 2) := by decide +kernel
theorem dX3_planSet_87 : decode cX3_planSet 87 = .ok (.if_icmp .ge 10, 3) := by decide +kernel
theorem dX3_planSet_90 : decode cX3_planSet 90 = .ok (.lload 8, 2) := by decide +kernel
theorem dX3_planSet_92 : decode cX3_planSet 92 = .ok (.lstore_n 2, 1) := by decide +kernel
theorem dX3_planSet_93 : decode cX3_planSet 93 = .ok (.iload 7, 2) := by decide +kernel
theorem dX3_planSet_95 : decode cX3_planSet 95 = .ok (.istore 4, 2) := by decide +kernel
theorem dX3_planSet_97 : decode cX3_planSet 97 = .ok (.iinc 5 1, 3) := by decide +kernel
theorem dX3_planSet_100 : decode cX3_planSet 100 = .ok (.goto (-90), 3) := by decide +kernel
theorem dX3_planSet_103 : decode cX3_planSet 103 = .ok (.iload_n 1, 1) := by decide +kernel
theorem dX3_planSet_104 : decode cX3_planSet 104 = .ok (.invokestatic 44, 3) := by decide +kernel
theorem dX3_planSet_107 : decode cX3_planSet 107 = .ok (.ifCond .eq 29, 3) := by decide +kernel
theorem dX3_planSet_110 : decode cX3_planSet 110 = .ok (.aload_n 0, 1) := by decide +kernel
theorem dX3_planSet_111 : decode cX3_planSet 111 = .ok (.getfield 15, 3) := by decide +kernel
theorem dX3_planSet_114 : decode cX3_planSet 114 = .ok (.iload_n 1, 1) := by decide +kernel
theorem dX3_planSet_115 : decode cX3_planSet 115 = .ok (.lload_n 2, 1) := by decide +kernel
theorem dX3_planSet_116 : decode cX3_planSet 116 = .ok (.aload_n 0, 1) := by decide +kernel
theorem dX3_planSet_117 : decode cX3_planSet 117 = .ok (.getfield 9, 3) := by decide +kernel
theorem dX3_planSet_120 : decode cX3_planSet 120 = .ok (.iload_n 1, 1) := by decide +kernel
theorem dX3_planSet_121 : decode cX3_planSet 121 = .ok (.laload, 1) := by decide +kernel
theorem dX3_planSet_122 : decode cX3_planSet 122 = .ok (.lconst 1, 1) := by decide +kernel
theorem dX3_planSet_123 : decode cX3_planSet 123 = .ok (.invokestatic 48, 3) := by decide +kernel
theorem dX3_planSet_126 : decode cX3_planSet 126 = .ok (.ladd, 1) := by decide +kernel
theorem dX3_planSet_127 : decode cX3_planSet 127 = .ok (.lastore, 1) := by decide +kernel
theorem dX3_planSet_128 : decode cX3_planSet 128 = .ok (.aload_n 0, 1) := by decide +kernel
theorem dX3_planSet_129 : decode cX3_planSet 129 = .ok (.getfield 18, 3) := by decide +kernel
theorem dX3_planSet_132 : decode cX3_planSet 132 = .ok (.iload_n 1, 1) := by decide +kernel
theorem dX3_planSet_133 : decode cX3_planSet 133 = .ok (.iload 4, 2) := by decide +kernel
theorem dX3_planSet_135 : decode cX3_planSet 135 = .ok (.iastore, 1) := by decide +kernel
theorem dX3_planSet_136 : decode cX3_planSet 136 = .ok (.return_, 1) := by decide +kernel
theorem dX3_sizeOf_0 : decode cX3_sizeOf 0 = .ok (.iload_n 1, 1) := by decide +kernel
theorem dX3_sizeOf_1 : decode cX3_sizeOf 1 = .ok (.invokestatic 44, 3) := by decide +kernel
theorem dX3_sizeOf_4 : decode cX3_sizeOf 4 = .ok (.ifCond .eq 16, 3) := by decide +kernel
theorem dX3_sizeOf_7 : decode cX3_sizeOf 7 = .ok (.aload_n 0, 1) := by decide +kernel
theorem dX3_sizeOf_8 : decode cX3_sizeOf 8 = .ok (.getfield 9, 3) := by decide +kernel
theorem dX3_sizeOf_11 : decode cX3_sizeOf 11 = .ok (.iload_n 1, 1) := by decide +kernel
theorem dX3_sizeOf_12 : decode cX3_sizeOf 12 = .ok (.laload, 1) := by decide +kernel
theorem dX3_sizeOf_13 : decode cX3_sizeOf 13 = .ok (.lconst 1, 1) := by decide +kernel
theorem dX3_sizeOf_14 : decode cX3_sizeOf 14 = .ok (.invokestatic 48, 3) := by decide +kernel
theorem dX3_sizeOf_17 : decode cX3_sizeOf 17 = .ok (.goto 4, 3) := by decide +kernel
theorem dX3_sizeOf_20 : decode cX3_sizeOf 20 = .ok (.lconst 0, 1) := by decide +kernel
theorem dX3_sizeOf_21 : decode cX3_sizeOf 21 = .ok (.lreturn, 1) := by decide +kernel
theorem dX3_leastBySets_0 : decode cX3_leastBySets 0 = .ok (.iload_n 1, 1) := by decide +kernel
theorem dX3_leastBySets_1 : decode cX3_leastBySets 1 = .ok (.invokestatic 44, 3) := by decide +kernel
theorem dX3_leastBySets_4 : decode cX3_leastBySets 4 = .ok (.ifCond .eq 12, 3) := by decide +kernel
theorem dX3_leastBySets_7 : decode cX3_leastBySets 7 = .ok (.aload_n 0, 1) := by decide +kernel
theorem dX3_leastBySets_8 : decode cX3_leastBySets 8 = .ok (.getfield 15, 3) := by decide +kernel
theorem dX3_leastBySets_11 : decode cX3_leastBySets 11 = .ok (.iload_n 1, 1) := by decide +kernel
theorem dX3_leastBySets_12 : decode cX3_leastBySets 12 = .ok (.laload, 1) := by decide +kernel
theorem dX3_leastBySets_13 : decode cX3_leastBySets 13 = .ok (.goto 4, 3) := by decide +kernel
theorem dX3_leastBySets_16 : decode cX3_leastBySets 16 = .ok (.lconst 0, 1) := by decide +kernel
theorem dX3_leastBySets_17 : decode cX3_leastBySets 17 = .ok (.lreturn, 1) := by decide +kernel
theorem dX3_bestOrder_0 : decode cX3_bestOrder 0 = .ok (.iload_n 1, 1) := by decide +kernel
theorem dX3_bestOrder_1 : decode cX3_bestOrder 1 = .ok (.invokestatic 44, 3) := by decide +kernel
theorem dX3_bestOrder_4 : decode cX3_bestOrder 4 = .ok (.ifCond .eq 12, 3) := by decide +kernel
theorem dX3_bestOrder_7 : decode cX3_bestOrder 7 = .ok (.aload_n 0, 1) := by decide +kernel
theorem dX3_bestOrder_8 : decode cX3_bestOrder 8 = .ok (.getfield 18, 3) := by decide +kernel
theorem dX3_bestOrder_11 : decode cX3_bestOrder 11 = .ok (.iload_n 1, 1) := by decide +kernel
theorem dX3_bestOrder_12 : decode cX3_bestOrder 12 = .ok (.iaload, 1) := by decide +kernel
theorem dX3_bestOrder_13 : decode cX3_bestOrder 13 = .ok (.goto 4, 3) := by decide +kernel
theorem dX3_bestOrder_16 : decode cX3_bestOrder 16 = .ok (.iconst 0, 1) := by decide +kernel
theorem dX3_bestOrder_17 : decode cX3_bestOrder 17 = .ok (.ireturn, 1) := by decide +kernel
theorem dX3_leastByOrders_0 : decode cX3_leastByOrders 0 = .ok (.aload_n 0, 1) := by decide +kernel
theorem dX3_leastByOrders_1 : decode cX3_leastByOrders 1 = .ok (.iload_n 1, 1) := by decide +kernel
theorem dX3_leastByOrders_2 : decode cX3_leastByOrders 2 = .ok (.iconst 0, 1) := by decide +kernel
theorem dX3_leastByOrders_3 : decode cX3_leastByOrders 3 = .ok (.iconst 0, 1) := by decide +kernel
theorem dX3_leastByOrders_4 : decode cX3_leastByOrders 4 = .ok (.invokestatic 54, 3) := by decide +kernel
theorem dX3_leastByOrders_7 : decode cX3_leastByOrders 7 = .ok (.lreturn, 1) := by decide +kernel
theorem dX3_leastOnward_0 : decode cX3_leastOnward 0 = .ok (.iload_n 2, 1) := by decide +kernel
theorem dX3_leastOnward_1 : decode cX3_leastOnward 1 = .ok (.iload_n 1, 1) := by decide +kernel
theorem dX3_leastOnward_2 : decode cX3_leastOnward 2 = .ok (.if_icmp .eq 8, 3) := by decide +kernel
theorem dX3_leastOnward_5 : decode cX3_leastOnward 5 = .ok (.iload_n 3, 1) := by decide +kernel
theorem dX3_leastOnward_6 : decode cX3_leastOnward 6 = .ok (.iconst 5, 1) := by decide +kernel
theorem dX3_leastOnward_7 : decode cX3_leastOnward 7 = .ok (.if_icmp .lt 5, 3) := by decide +kernel
theorem dX3_leastOnward_10 : decode cX3_leastOnward 10 = .ok (.lconst 0, 1) := by decide +kernel
theorem dX3_leastOnward_11 : decode cX3_leastOnward 11 = .ok (.lreturn, 1) := by decide +kernel
theorem dX3_leastOnward_12 : decode cX3_leastOnward 12 = .ok (.ldc2_w 38, 3) := by decide +kernel
theorem dX3_leastOnward_15 : decode cX3_leastOnward 15 = .ok (.lstore 4, 2) := by decide +kernel
theorem dX3_leastOnward_17 : decode cX3_leastOnward 17 = .ok (.iconst 0, 1) := by decide +kernel
theorem dX3_leastOnward_18 : decode cX3_leastOnward 18 = .ok (.istore 6, 2) := by decide +kernel
theorem dX3_leastOnward_20 : decode cX3_leastOnward 20 = .ok (.iload 6, 2) := by decide +kernel
theorem dX3_leastOnward_22 : decode cX3_leastOnward 22 = .ok (.iconst 5, 1) := by decide +kernel
theorem dX3_leastOnward_23 : decode cX3_leastOnward 23 = .ok (.if_icmp .ge 64, 3) := by decide +kernel
theorem dX3_leastOnward_26 : decode cX3_leastOnward 26 = .ok (.iload_n 1, 1) := by decide +kernel
theorem dX3_leastOnward_27 : decode cX3_leastOnward 27 = .ok (.iload 6, 2) := by decide +kernel
theorem dX3_leastOnward_29 : decode cX3_leastOnward 29 = .ok (.invokestatic 26, 3) := by decide +kernel
theorem dX3_leastOnward_32 : decode cX3_leastOnward 32 = .ok (.ifCond .eq 49, 3) := by decide +kernel
theorem dX3_leastOnward_35 : decode cX3_leastOnward 35 = .ok (.iload_n 2, 1) := by decide +kernel
theorem dX3_leastOnward_36 : decode cX3_leastOnward 36 = .ok (.iload 6, 2) := by decide +kernel
theorem dX3_leastOnward_38 : decode cX3_leastOnward 38 = .ok (.invokestatic 26, 3) := by decide +kernel
theorem dX3_leastOnward_41 : decode cX3_leastOnward 41 = .ok (.ifCond .ne 40, 3) := by decide +kernel
theorem dX3_leastOnward_44 : decode cX3_leastOnward 44 = .ok (.iload_n 2, 1) := by decide +kernel
theorem dX3_leastOnward_45 : decode cX3_leastOnward 45 = .ok (.iload 6, 2) := by decide +kernel
theorem dX3_leastOnward_47 : decode cX3_leastOnward 47 = .ok (.invokestatic 22, 3) := by decide +kernel
theorem dX3_leastOnward_50 : decode cX3_leastOnward 50 = .ok (.ior, 1) := by decide +kernel
theorem dX3_leastOnward_51 : decode cX3_leastOnward 51 = .ok (.istore 7, 2) := by decide +kernel
theorem dX3_leastOnward_53 : decode cX3_leastOnward 53 = .ok (.aload_n 0, 1) := by decide +kernel
theorem dX3_leastOnward_54 : decode cX3_leastOnward 54 = .ok (.iload 7, 2) := by decide +kernel
theorem dX3_leastOnward_56 : decode cX3_leastOnward 56 = .ok (.invokevirtual 58, 3) := by decide +kernel
theorem dX3_leastOnward_59 : decode cX3_leastOnward 59 = .ok (.aload_n 0, 1) := by decide +kernel
theorem dX3_leastOnward_60 : decode cX3_leastOnward 60 = .ok (.iload_n 1, 1) := by decide +kernel
theorem dX3_leastOnward_61 : decode cX3_leastOnward 61 = .ok (.iload 7, 2) := by decide +kernel
theorem dX3_leastOnward_63 : decode cX3_leastOnward 63 = .ok (.iload_n 3, 1) := by decide +kernel
theorem dX3_leastOnward_64 : decode cX3_leastOnward 64 = .ok (.iconst 1, 1) := by decide +kernel
theorem dX3_leastOnward_65 : decode cX3_leastOnward 65 = .ok (.iadd, 1) := by decide +kernel
theorem dX3_leastOnward_66 : decode cX3_leastOnward 66 = .ok (.invokestatic 54, 3) := by decide +kernel
theorem dX3_leastOnward_69 : decode cX3_leastOnward 69 = .ok (.ladd, 1) := by decide +kernel
theorem dX3_leastOnward_70 : decode cX3_leastOnward 70 = .ok (.lstore 8, 2) := by decide +kernel
theorem dX3_leastOnward_72 : decode cX3_leastOnward 72 = .ok (.lload 4, 2) := by decide +kernel
theorem dX3_leastOnward_74 : decode cX3_leastOnward 74 = .ok (.lload 8, 2) := by decide +kernel
theorem dX3_leastOnward_76 : decode cX3_leastOnward 76 = .ok (.invokestatic 62, 3) := by decide +kernel
theorem dX3_leastOnward_79 : decode cX3_leastOnward 79 = .ok (.lstore 4, 2) := by decide +kernel
theorem dX3_leastOnward_81 : decode cX3_leastOnward 81 = .ok (.iinc 6 1, 3) := by decide +kernel
theorem dX3_leastOnward_84 : decode cX3_leastOnward 84 = .ok (.goto (-64), 3) := by decide +kernel
theorem dX3_leastOnward_87 : decode cX3_leastOnward 87 = .ok (.lload 4, 2) := by decide +kernel
theorem dX3_leastOnward_89 : decode cX3_leastOnward 89 = .ok (.lreturn, 1) := by decide +kernel
theorem dX3_costOf_0 : decode cX3_costOf 0 = .ok (.iload_n 1, 1) := by decide +kernel
theorem dX3_costOf_1 : decode cX3_costOf 1 = .ok (.invokestatic 65, 3) := by decide +kernel
theorem dX3_costOf_4 : decode cX3_costOf 4 = .ok (.istore_n 3, 1) := by decide +kernel
theorem dX3_costOf_5 : decode cX3_costOf 5 = .ok (.lconst 0, 1) := by decide +kernel
theorem dX3_costOf_6 : decode cX3_costOf 6 = .ok (.lstore 4, 2) := by decide +kernel
theorem dX3_costOf_8 : decode cX3_costOf 8 = .ok (.iconst 0, 1) := by decide +kernel
theorem dX3_costOf_9 : decode cX3_costOf 9 = .ok (.istore 6, 2) := by decide +kernel
theorem dX3_costOf_11 : decode cX3_costOf 11 = .ok (.iconst 0, 1) := by decide +kernel
theorem dX3_costOf_12 : decode cX3_costOf 12 = .ok (.istore 7, 2) := by decide +kernel
theorem dX3_costOf_14 : decode cX3_costOf 14 = .ok (.iload 7, 2) := by decide +kernel
theorem dX3_costOf_16 : decode cX3_costOf 16 = .ok (.iload_n 3, 1) := by decide +kernel
theorem dX3_costOf_17 : decode cX3_costOf 17 = .ok (.if_icmp .ge 35, 3) := by decide +kernel
theorem dX3_costOf_20 : decode cX3_costOf 20 = .ok (.iload 6, 2) := by decide +kernel
theorem dX3_costOf_22 : decode cX3_costOf 22 = .ok (.iload_n 2, 1) := by decide +kernel
theorem dX3_costOf_23 : decode cX3_costOf 23 = .ok (.iload_n 3, 1) := by decide +kernel
theorem dX3_costOf_24 : decode cX3_costOf 24 = .ok (.iload 7, 2) := by decide +kernel
theorem dX3_costOf_26 : decode cX3_costOf 26 = .ok (.invokestatic 70, 3) := by decide +kernel
theorem dX3_costOf_29 : decode cX3_costOf 29 = .ok (.invokestatic 22, 3) := by decide +kernel
theorem dX3_costOf_32 : decode cX3_costOf 32 = .ok (.ior, 1) := by decide +kernel
theorem dX3_costOf_33 : decode cX3_costOf 33 = .ok (.istore 6, 2) := by decide +kernel
theorem dX3_costOf_35 : decode cX3_costOf 35 = .ok (.lload 4, 2) := by decide +kernel
theorem dX3_costOf_37 : decode cX3_costOf 37 = .ok (.aload_n 0, 1) := by decide +kernel
theorem dX3_costOf_38 : decode cX3_costOf 38 = .ok (.iload 6, 2) := by decide +kernel
theorem dX3_costOf_40 : decode cX3_costOf 40 = .ok (.invokevirtual 58, 3) := by decide +kernel
theorem dX3_costOf_43 : decode cX3_costOf 43 = .ok (.ladd, 1) := by decide +kernel
theorem dX3_costOf_44 : decode cX3_costOf 44 = .ok (.lstore 4, 2) := by decide +kernel
theorem dX3_costOf_46 : decode cX3_costOf 46 = .ok (.iinc 7 1, 3) := by decide +kernel
theorem dX3_costOf_49 : decode cX3_costOf 49 = .ok (.goto (-35), 3) := by decide +kernel
theorem dX3_costOf_52 : decode cX3_costOf 52 = .ok (.lload 4, 2) := by decide +kernel
theorem dX3_costOf_54 : decode cX3_costOf 54 = .ok (.lreturn, 1) := by decide +kernel
theorem dX3_excessOf_0 : decode cX3_excessOf 0 = .ok (.aload_n 0, 1) := by decide +kernel
theorem dX3_excessOf_1 : decode cX3_excessOf 1 = .ok (.iload_n 1, 1) := by decide +kernel
theorem dX3_excessOf_2 : decode cX3_excessOf 2 = .ok (.iload_n 2, 1) := by decide +kernel
theorem dX3_excessOf_3 : decode cX3_excessOf 3 = .ok (.invokevirtual 74, 3) := by decide +kernel
theorem dX3_excessOf_6 : decode cX3_excessOf 6 = .ok (.aload_n 0, 1) := by decide +kernel
theorem dX3_excessOf_7 : decode cX3_excessOf 7 = .ok (.iload_n 1, 1) := by decide +kernel
theorem dX3_excessOf_8 : decode cX3_excessOf 8 = .ok (.invokevirtual 78, 3) := by decide +kernel
theorem dX3_excessOf_11 : decode cX3_excessOf 11 = .ok (.lsub, 1) := by decide +kernel
theorem dX3_excessOf_12 : decode cX3_excessOf 12 = .ok (.lreturn, 1) := by decide +kernel
theorem dX4_init_0 : decode cX4_init 0 = .ok (.aload_n 0, 1) := by decide +kernel
theorem dX4_init_1 : decode cX4_init 1 = .ok (.invokespecial 3, 3) := by decide +kernel
theorem dX4_init_4 : decode cX4_init 4 = .ok (.aload_n 0, 1) := by decide +kernel
theorem dX4_init_5 : decode cX4_init 5 = .ok (.iconst 5, 1) := by decide +kernel
theorem dX4_init_6 : decode cX4_init 6 = .ok (.newarray .int, 2) := by decide +kernel
theorem dX4_init_8 : decode cX4_init 8 = .ok (.putfield 9, 3) := by decide +kernel
theorem dX4_init_11 : decode cX4_init 11 = .ok (.aload_n 0, 1) := by decide +kernel
theorem dX4_init_12 : decode cX4_init 12 = .ok (.iconst 5, 1) := by decide +kernel
theorem dX4_init_13 : decode cX4_init 13 = .ok (.newarray .int, 2) := by decide +kernel
theorem dX4_init_15 : decode cX4_init 15 = .ok (.putfield 15, 3) := by decide +kernel
theorem dX4_init_18 : decode cX4_init 18 = .ok (.aload_n 0, 1) := by decide +kernel
theorem dX4_init_19 : decode cX4_init 19 = .ok (.iconst 5, 1) := by decide +kernel
theorem dX4_init_20 : decode cX4_init 20 = .ok (.iconst 5, 1) := by decide +kernel
theorem dX4_init_21 : decode cX4_init 21 = .ok (.multianewarray 18 2, 4) := by decide +kernel
theorem dX4_init_25 : decode cX4_init 25 = .ok (.putfield 20, 3) := by decide +kernel
theorem dX4_init_28 : decode cX4_init 28 = .ok (.aload_n 0, 1) := by decide +kernel
theorem dX4_init_29 : decode cX4_init 29 = .ok (.new 23, 3) := by decide +kernel
theorem dX4_init_32 : decode cX4_init 32 = .ok (.dup, 1) := by decide +kernel
theorem dX4_init_33 : decode cX4_init 33 = .ok (.invokespecial 25, 3) := by decide +kernel
theorem dX4_init_36 : decode cX4_init 36 = .ok (.putfield 26, 3) := by decide +kernel
theorem dX4_init_39 : decode cX4_init 39 = .ok (.iconst 0, 1) := by decide +kernel
theorem dX4_init_40 : decode cX4_init 40 = .ok (.istore_n 1, 1) := by decide +kernel
theorem dX4_init_41 : decode cX4_init 41 = .ok (.iload_n 1, 1) := by decide +kernel
theorem dX4_init_42 : decode cX4_init 42 = .ok (.iconst 5, 1) := by decide +kernel
theorem dX4_init_43 : decode cX4_init 43 = .ok (.if_icmp .ge 48, 3) := by decide +kernel
theorem dX4_init_46 : decode cX4_init 46 = .ok (.aload_n 0, 1) := by decide +kernel
theorem dX4_init_47 : decode cX4_init 47 = .ok (.getfield 9, 3) := by decide +kernel
theorem dX4_init_50 : decode cX4_init 50 = .ok (.iload_n 1, 1) := by decide +kernel
theorem dX4_init_51 : decode cX4_init 51 = .ok (.bipush 10, 2) := by decide +kernel
theorem dX4_init_53 : decode cX4_init 53 = .ok (.iastore, 1) := by decide +kernel
theorem dX4_init_54 : decode cX4_init 54 = .ok (.aload_n 0, 1) := by decide +kernel
theorem dX4_init_55 : decode cX4_init 55 = .ok (.getfield 15, 3) := by decide +kernel
theorem dX4_init_58 : decode cX4_init 58 = .ok (.iload_n 1, 1) := by decide +kernel
theorem dX4_init_59 : decode cX4_init 59 = .ok (.bipush 10, 2) := by decide +kernel
theorem dX4_init_61 : decode cX4_init 61 = .ok (.iastore, 1) := by decide +kernel
theorem dX4_init_62 : decode cX4_init 62 = .ok (.iconst 0, 1) := by decide +kernel
theorem dX4_init_63 : decode cX4_init 63 = .ok (.istore_n 2, 1) := by decide +kernel
theorem dX4_init_64 : decode cX4_init 64 = .ok (.iload_n 2, 1) := by decide +kernel
theorem dX4_init_65 : decode cX4_init 65 = .ok (.iconst 5, 1) := by decide +kernel
theorem dX4_init_66 : decode cX4_init 66 = .ok (.if_icmp .ge 19, 3) := by decide +kernel
theorem dX4_init_69 : decode cX4_init 69 = .ok (.aload_n 0, 1) := by decide +kernel
theorem dX4_init_70 : decode cX4_init 70 = .ok (.getfield 20, 3) := by decide +kernel
theorem dX4_init_73 : decode cX4_init 73 = .ok (.iload_n 1, 1) := by decide +kernel
theorem dX4_init_74 : decode cX4_init 74 = .ok (.aaload, 1) := by decide +kernel
theorem dX4_init_75 : decode cX4_init 75 = .ok (.iload_n 2, 1) := by decide +kernel
theorem dX4_init_76 : decode cX4_init 76 = .ok (.bipush 100, 2) := by decide +kernel
theorem dX4_init_78 : decode cX4_init 78 = .ok (.iastore, 1) := by decide +kernel
theorem dX4_init_79 : decode cX4_init 79 = .ok (.iinc 2 1, 3) := by decide +kernel
theorem dX4_init_82 : decode cX4_init 82 = .ok (.goto (-18), 3) := by decide +kernel
theorem dX4_init_85 : decode cX4_init 85 = .ok (.iinc 1 1, 3) := by decide +kernel
theorem dX4_init_88 : decode cX4_init 88 = .ok (.goto (-47), 3) := by decide +kernel
theorem dX4_init_91 : decode cX4_init 91 = .ok (.aload_n 0, 1) := by decide +kernel
theorem dX4_init_92 : decode cX4_init 92 = .ok (.sipush 200, 3) := by decide +kernel
theorem dX4_init_95 : decode cX4_init 95 = .ok (.putfield 30, 3) := by decide +kernel
theorem dX4_init_98 : decode cX4_init 98 = .ok (.return_, 1) := by decide +kernel
theorem dX4_init__0 : decode cX4_init_ 0 = .ok (.aload_n 0, 1) := by decide +kernel
theorem dX4_init__1 : decode cX4_init_ 1 = .ok (.invokespecial 3, 3) := by decide +kernel
theorem dX4_init__4 : decode cX4_init_ 4 = .ok (.aload_n 0, 1) := by decide +kernel
theorem dX4_init__5 : decode cX4_init_ 5 = .ok (.iconst 5, 1) := by decide +kernel
theorem dX4_init__6 : decode cX4_init_ 6 = .ok (.newarray .int, 2) := by decide +kernel
theorem dX4_init__8 : decode cX4_init_ 8 = .ok (.putfield 9, 3) := by decide +kernel
theorem dX4_init__11 : decode cX4_init_ 11 = .ok (.aload_n 0, 1) := by decide +kernel
theorem dX4_init__12 : decode cX4_init_ 12 = .ok (.iconst 5, 1) := by decide +kernel
theorem dX4_init__13 : decode cX4_init_ 13 = .ok (.newarray .int, 2) := by decide +kernel
theorem dX4_init__15 : decode cX4_init_ 15 = .ok (.putfield 15, 3) := by decide +kernel
theorem dX4_init__18 : decode cX4_init_ 18 = .ok (.aload_n 0, 1) := by decide +kernel
theorem dX4_init__19 : decode cX4_init_ 19 = .ok (.iconst 5, 1) := by decide +kernel
theorem dX4_init__20 : decode cX4_init_ 20 = .ok (.iconst 5, 1) := by decide +kernel
theorem dX4_init__21 : decode cX4_init_ 21 = .ok (.multianewarray 18 2, 4) := by decide +kernel
theorem dX4_init__25 : decode cX4_init_ 25 = .ok (.putfield 20, 3) := by decide +kernel
theorem dX4_init__28 : decode cX4_init_ 28 = .ok (.aload_n 0, 1) := by decide +kernel
theorem dX4_init__29 : decode cX4_init_ 29 = .ok (.new 23, 3) := by decide +kernel
theorem dX4_init__32 : decode cX4_init_ 32 = .ok (.dup, 1) := by decide +kernel
theorem dX4_init__33 : decode cX4_init_ 33 = .ok (.invokespecial 25, 3) := by decide +kernel
theorem dX4_init__36 : decode cX4_init_ 36 = .ok (.putfield 26, 3) := by decide +kernel
theorem dX4_init__39 : decode cX4_init_ 39 = .ok (.iconst 0, 1) := by decide +kernel
theorem dX4_init__40 : decode cX4_init_ 40 = .ok (.istore_n 2, 1) := by decide +kernel
theorem dX4_init__41 : decode cX4_init_ 41 = .ok (.iload_n 2, 1) := by decide +kernel
theorem dX4_init__42 : decode cX4_init_ 42 = .ok (.iconst 5, 1) := by decide +kernel
theorem dX4_init__43 : decode cX4_init_ 43 = .ok (.if_icmp .ge 62, 3) := by decide +kernel
theorem dX4_init__46 : decode cX4_init_ 46 = .ok (.aload_n 0, 1) := by decide +kernel
theorem dX4_init__47 : decode cX4_init_ 47 = .ok (.getfield 9, 3) := by decide +kernel
theorem dX4_init__50 : decode cX4_init_ 50 = .ok (.iload_n 2, 1) := by decide +kernel
theorem dX4_init__51 : decode cX4_init_ 51 = .ok (.aload_n 1, 1) := by decide +kernel
theorem dX4_init__52 : decode cX4_init_ 52 = .ok (.getfield 9, 3) := by decide +kernel
theorem dX4_init__55 : decode cX4_init_ 55 = .ok (.iload_n 2, 1) := by decide +kernel
theorem dX4_init__56 : decode cX4_init_ 56 = .ok (.iaload, 1) := by decide +kernel
theorem dX4_init__57 : decode cX4_init_ 57 = .ok (.iastore, 1) := by decide +kernel
theorem dX4_init__58 : decode cX4_init_ 58 = .ok (.aload_n 0, 1) := by decide +kernel
theorem dX4_init__59 : decode cX4_init_ 59 = .ok (.getfield 15, 3) := by decide +kernel
theorem dX4_init__62 : decode cX4_init_ 62 = .ok (.iload_n 2, 1) := by decide +kernel
theorem dX4_init__63 : decode cX4_init_ 63 = .ok (.aload_n 1, 1) := by decide +kernel
theorem dX4_init__64 : decode cX4_init_ 64 = .ok (.getfield 15, 3) := by decide +kernel
theorem dX4_init__67 : decode cX4_init_ 67 = .ok (.iload_n 2, 1) := by decide +kernel
theorem dX4_init__68 : decode cX4_init_ 68 = .ok (.iaload, 1) := by decide +kernel
theorem dX4_init__69 : decode cX4_init_ 69 = .ok (.iastore, 1) := by decide +kernel
theorem dX4_init__70 : decode cX4_init_ 70 = .ok (.iconst 0, 1) := by decide +kernel
theorem dX4_init__71 : decode cX4_init_ 71 = .ok (.istore_n 3, 1) := by decide +kernel
theorem dX4_init__72 : decode cX4_init_ 72 = .ok (.iload_n 3, 1) := by decide +kernel
theorem dX4_init__73 : decode cX4_init_ 73 = .ok (.iconst 5, 1) := by decide +kernel
theorem dX4_init__74 : decode cX4_init_ 74 = .ok (.if_icmp .ge 25, 3) := by decide +kernel
theorem dX4_init__77 : decode cX4_init_ 77 = .ok (.aload_n 0, 1) := by decide +kernel
theorem dX4_init__78 : decode cX4_init_ 78 = .ok (.getfield 20, 3) := by decide +kernel
theorem dX4_init__81 : decode cX4_init_ 81 = .ok (.iload_n 2, 1) := by decide +kernel
theorem dX4_init__82 : decode cX4_init_ 82 = .ok (.aaload, 1) := by decide +kernel
theorem dX4_init__83 : decode cX4_init_ 83 = .ok (.iload_n 3, 1) := by decide +kernel
theorem dX4_init__84 : decode cX4_init_ 84 = .ok (.aload_n 1, 1) := by decide +kernel
theorem dX4_init__85 : decode cX4_init_ 85 = .ok (.getfield 20, 3) := by decide +kernel
theorem dX4_init__88 : decode cX4_init_ 88 = .ok (.iload_n 2, 1) := by decide +kernel
theorem dX4_init__89 : decode cX4_init_ 89 = .ok (.aaload, 1) := by decide +kernel
theorem dX4_init__90 : decode cX4_init_ 90 = .ok (.iload_n 3, 1) := by decide +kernel
theorem dX4_init__91 : decode cX4_init_ 91 = .ok (.iaload, 1) := by decide +kernel
theorem dX4_init__92 : decode cX4_init_ 92 = .ok (.iastore, 1) := by decide +kernel
theorem dX4_init__93 : decode cX4_init_ 93 = .ok (.iinc 3 1, 3) := by decide +kernel
theorem dX4_init__96 : decode cX4_init_ 96 = .ok (.goto (-24), 3) := by decide +kernel
theorem dX4_init__99 : decode cX4_init_ 99 = .ok (.iinc 2 1, 3) := by decide +kernel
theorem dX4_init__102 : decode cX4_init_ 102 = .ok (.goto (-61), 3) := by decide +kernel
theorem dX4_init__105 : decode cX4_init_ 105 = .ok (.iconst 0, 1) := by decide +kernel
theorem dX4_init__106 : decode cX4_init_ 106 = .ok (.istore_n 2, 1) := by decide +kernel
theorem dX4_init__107 : decode cX4_init_ 107 = .ok (.iload_n 2, 1) := by decide +kernel
theorem dX4_init__108 : decode cX4_init_ 108 = .ok (.aload_n 1, 1) := by decide +kernel
theorem dX4_init__109 : decode cX4_init_ 109 = .ok (.getfield 26, 3) := by decide +kernel
theorem dX4_init__112 : decode cX4_init_ 112 = .ok (.invokevirtual 34, 3) := by decide +kernel
theorem dX4_init__115 : decode cX4_init_ 115 = .ok (.if_icmp .ge 28, 3) := by decide +kernel
theorem dX4_init__118 : decode cX4_init_ 118 = .ok (.aload_n 0, 1) := by decide +kernel
theorem dX4_init__119 : decode cX4_init_ 119 = .ok (.getfield 26, 3) := by decide +kernel
theorem dX4_init__122 : decode cX4_init_ 122 = .ok (.aload_n 1, 1) := by decide +kernel
theorem dX4_init__123 : decode cX4_init_ 123 = .ok (.getfield 26, 3) := by decide +kernel
theorem dX4_init__126 : decode cX4_init_ 126 = .ok (.iload_n 2, 1) := by decide +kernel
theorem dX4_init__127 : decode cX4_init_ 127 = .ok (.invokevirtual 38, 3) := by decide +kernel
theorem dX4_init__130 : decode cX4_init_ 130 = .ok (.checkcast 42, 3) := by decide +kernel
theorem dX4_init__133 : decode cX4_init_ 133 = .ok (.invokevirtual 44, 3) := by decide +kernel
theorem dX4_init__136 : decode cX4_init_ 136 = .ok (.pop, 1) := by decide +kernel
theorem dX4_init__137 : decode cX4_init_ 137 = .ok (.iinc 2 1, 3) := by decide +kernel
theorem dX4_init__140 : decode cX4_init_ 140 = .ok (.goto (-33), 3) := by decide +kernel
theorem dX4_init__143 : decode cX4_init_ 143 = .ok (.aload_n 0, 1) := by decide +kernel
theorem dX4_init__144 : decode cX4_init_ 144 = .ok (.aload_n 1, 1) := by decide +kernel
theorem dX4_init__145 : decode cX4_init_ 145 = .ok (.getfield 30, 3) := by decide +kernel
theorem dX4_init__148 : decode cX4_init_ 148 = .ok (.putfield 30, 3) := by decide +kernel
theorem dX4_init__151 : decode cX4_init_ 151 = .ok (.aload_n 0, 1) := by decide +kernel
theorem dX4_init__152 : decode cX4_init_ 152 = .ok (.aload_n 1, 1) := by decide +kernel
theorem dX4_init__153 : decode cX4_init_ 153 = .ok (.getfield 48, 3) := by decide +kernel
theorem dX4_init__156 : decode cX4_init_ 156 = .ok (.putfield 48, 3) := by decide +kernel
theorem dX4_init__159 : decode cX4_init_ 159 = .ok (.aload_n 0, 1) := by decide +kernel
theorem dX4_init__160 : decode cX4_init_ 160 = .ok (.aload_n 1, 1) := by decide +kernel
theorem dX4_init__161 : decode cX4_init_ 161 = .ok (.getfield 52, 3) := by decide +kernel
theorem dX4_init__164 : decode cX4_init_ 164 = .ok (.putfield 52, 3) := by decide +kernel
theorem dX4_init__167 : decode cX4_init_ 167 = .ok (.aload_n 0, 1) := by decide +kernel
theorem dX4_init__168 : decode cX4_init_ 168 = .ok (.aload_n 1, 1) := by decide +kernel
theorem dX4_init__169 : decode cX4_init_ 169 = .ok (.getfield 55, 3) := by decide +kernel
theorem dX4_init__172 : decode cX4_init_ 172 = .ok (.putfield 55, 3) := by decide +kernel
theorem dX4_init__175 : decode cX4_init_ 175 = .ok (.aload_n 0, 1) := by decide +kernel
theorem dX4_init__176 : decode cX4_init_ 176 = .ok (.aload_n 1, 1) := by decide +kernel
theorem dX4_init__177 : decode cX4_init_ 177 = .ok (.getfield 58, 3) := by decide +kernel
theorem dX4_init__180 : decode cX4_init_ 180 = .ok (.putfield 58, 3) := by decide +kernel
theorem dX4_init__183 : decode cX4_init_ 183 = .ok (.aload_n 0, 1) := by decide +kernel
theorem dX4_init__184 : decode cX4_init_ 184 = .ok (.aload_n 1, 1) := by decide +kernel
theorem dX4_init__185 : decode cX4_init_ 185 = .ok (.getfield 61, 3) := by decide +kernel
theorem dX4_init__188 : decode cX4_init_ 188 = .ok (.putfield 61, 3) := by decide +kernel
theorem dX4_init__191 : decode cX4_init_ 191 = .ok (.aload_n 0, 1) := by decide +kernel
theorem dX4_init__192 : decode cX4_init_ 192 = .ok (.aload_n 1, 1) := by decide +kernel
theorem dX4_init__193 : decode cX4_init_ 193 = .ok (.getfield 64, 3) := by decide +kernel
theorem dX4_init__196 : decode cX4_init_ 196 = .ok (.putfield 64, 3) := by decide +kernel
theorem dX4_init__199 : decode cX4_init_ 199 = .ok (.aload_n 0, 1) := by decide +kernel
theorem dX4_init__200 : decode cX4_init_ 200 = .ok (.aload_n 1, 1) := by decide +kernel
theorem dX4_init__201 : decode cX4_init_ 201 = .ok (.getfield 67, 3) := by decide +kernel
theorem dX4_init__204 : decode cX4_init_ 204 = .ok (.putfield 67, 3) := by decide +kernel
theorem dX4_init__207 : decode cX4_init_ 207 = .ok (.aload_n 0, 1) := by decide +kernel
theorem dX4_init__208 : decode cX4_init_ 208 = .ok (.aload_n 1, 1) := by decide +kernel
theorem dX4_init__209 : decode cX4_init_ 209 = .ok (.getfield 70, 3) := by decide +kernel
theorem dX4_init__212 : decode cX4_init_ 212 = .ok (.putfield 70, 3) := by decide +kernel
theorem dX4_init__215 : decode cX4_init_ 215 = .ok (.aload_n 0, 1) := by decide +kernel
theorem dX4_init__216 : decode cX4_init_ 216 = .ok (.aload_n 1, 1) := by decide +kernel
theorem dX4_init__217 : decode cX4_init_ 217 = .ok (.getfield 73, 3) := by decide +kernel
theorem dX4_init__220 : decode cX4_init_ 220 = .ok (.putfield 73, 3) := by decide +kernel
theorem dX4_init__223 : decode cX4_init_ 223 = .ok (.return_, 1) := by decide +kernel
theorem dX4_placeOf_0 : decode cX4_placeOf 0 = .ok (.iconst 0, 1) := by decide +kernel
theorem dX4_placeOf_1 : decode cX4_placeOf 1 = .ok (.istore_n 2, 1) := by decide +kernel
theorem dX4_placeOf_2 : decode cX4_placeOf 2 = .ok (.iload_n 2, 1) := by decide +kernel
theorem dX4_placeOf_3 : decode cX4_placeOf 3 = .ok (.aload_n 0, 1) := by decide +kernel
theorem dX4_placeOf_4 : decode cX4_placeOf 4 = .ok (.getfield 26, 3) := by decide +kernel
theorem dX4_placeOf_7 : decode cX4_placeOf 7 = .ok (.invokevirtual 34, 3) := by decide +kernel
theorem dX4_placeOf_10 : decode cX4_placeOf 10 = .ok (.if_icmp .ge 29, 3) := by decide +kernel
theorem dX4_placeOf_13 : decode cX4_placeOf 13 = .ok (.aload_n 0, 1) := by decide +kernel
theorem dX4_placeOf_14 : decode cX4_placeOf 14 = .ok (.getfield 26, 3) := by decide +kernel
theorem dX4_placeOf_17 : decode cX4_placeOf 17 = .ok (.iload_n 2, 1) := by decide +kernel
theorem dX4_placeOf_18 : decode cX4_placeOf 18 = .ok (.invokevirtual 38, 3) := by decide +kernel
theorem dX4_placeOf_21 : decode cX4_placeOf 21 = .ok (.checkcast 42, 3) := by decide +kernel
theorem dX4_placeOf_24 : decode cX4_placeOf 24 = .ok (.getfield 76, 3) := by decide +kernel
theorem dX4_placeOf_27 : decode cX4_placeOf 27 = .ok (.iload_n 1, 1) := by decide +kernel
theorem dX4_placeOf_28 : decode cX4_placeOf 28 = .ok (.if_icmp .ne 5, 3) := by decide +kernel
theorem dX4_placeOf_31 : decode cX4_placeOf 31 = .ok (.iload_n 2, 1) := by decide +kernel
theorem dX4_placeOf_32 : decode cX4_placeOf 32 = .ok (.ireturn, 1) := by decide +kernel
theorem dX4_placeOf_33 : decode cX4_placeOf 33 = .ok (.iinc 2 1, 3) := by decide +kernel
theorem dX4_placeOf_36 : decode cX4_placeOf 36 = .ok (.goto (-34), 3) := by decide +kernel
theorem dX4_placeOf_39 : decode cX4_placeOf 39 = .ok (.iconst (-1), 1) := by decide +kernel
theorem dX4_placeOf_40 : decode cX4_placeOf 40 = .ok (.ireturn, 1) := by decide +kernel
theorem dX4_keptWith_0 : decode cX4_keptWith 0 = .ok (.iconst 0, 1) := by decide +kernel
theorem dX4_keptWith_1 : decode cX4_keptWith 1 = .ok (.istore_n 2, 1) := by decide +kernel
theorem dX4_keptWith_2 : decode cX4_keptWith 2 = .ok (.iconst 0, 1) := by decide +kernel
theorem dX4_keptWith_3 : decode cX4_keptWith 3 = .ok (.istore_n 3, 1) := by decide +kernel
theorem dX4_keptWith_4 : decode cX4_keptWith 4 = .ok (.iload_n 3, 1) := by decide +kernel
theorem dX4_keptWith_5 : decode cX4_keptWith 5 = .ok (.aload_n 0, 1) := by decide +kernel
theorem dX4_keptWith_6 : decode cX4_keptWith 6 = .ok (.getfield 26, 3) := by decide +kernel
theorem dX4_keptWith_9 : decode cX4_keptWith 9 = .ok (.invokevirtual 34, 3) := by decide +kernel
theorem dX4_keptWith_12 : decode cX4_keptWith 12 = .ok (.if_icmp .ge 33, 3) := by decide +kernel
theorem dX4_keptWith_15 : decode cX4_keptWith 15 = .ok (.aload_n 0, 1) := by decide +kernel
theorem dX4_keptWith_16 : decode cX4_keptWith 16 = .ok (.getfield 26, 3) := by decide +kernel
theorem dX4_keptWith_19 : decode cX4_keptWith 19 = .ok (.iload_n 3, 1) := by decide +kernel
theorem dX4_keptWith_20 : decode cX4_keptWith 20 = .ok (.invokevirtual 38, 3) := by decide +kernel
theorem dX4_keptWith_23 : decode cX4_keptWith 23 = .ok (.checkcast 42, 3) := by decide +kernel
theorem dX4_keptWith_26 : decode cX4_keptWith 26 = .ok (.getfield 76, 3) := by decide +kernel
theorem dX4_keptWith_29 : decode cX4_keptWith 29 = .ok (.iload_n 1, 1) := by decide +kernel
theorem dX4_keptWith_30 : decode cX4_keptWith 30 = .ok (.invokestatic 79, 3) := by decide +kernel
theorem dX4_keptWith_33 : decode cX4_keptWith 33 = .ok (.ifCond .eq 6, 3) := by decide +kernel
theorem dX4_keptWith_36 : decode cX4_keptWith 36 = .ok (.iinc 2 1, 3) := by decide +kernel
theorem dX4_keptWith_39 : decode cX4_keptWith 39 = .ok (.iinc 3 1, 3) := by decide +kernel
theorem dX4_keptWith_42 : decode cX4_keptWith 42 = .ok (.goto (-38), 3) := by decide +kernel
theorem dX4_keptWith_45 : decode cX4_keptWith 45 = .ok (.iload_n 2, 1) := by decide +kernel
theorem dX4_keptWith_46 : decode cX4_keptWith 46 = .ok (.ireturn, 1) := by decide +kernel
theorem dX4_countPinned_0 : decode cX4_countPinned 0 = .ok (.iconst 0, 1) := by decide +kernel
theorem dX4_countPinned_1 : decode cX4_countPinned 1 = .ok (.istore_n 1, 1) := by decide +kernel
theorem dX4_countPinned_2 : decode cX4_countPinned 2 = .ok (.iconst 0, 1) := by decide +kernel
theorem dX4_countPinned_3 : decode cX4_countPinned 3 = .ok (.istore_n 2, 1) := by decide +kernel
theorem dX4_countPinned_4 : decode cX4_countPinned 4 = .ok (.iload_n 2, 1) := by decide +kernel
theorem dX4_countPinned_5 : decode cX4_countPinned 5 = .ok (.aload_n 0, 1) := by decide +kernel
theorem dX4_countPinned_6 : decode cX4_countPinned 6 = .ok (.getfield 26, 3) := by decide +kernel
theorem dX4_countPinned_9 : decode cX4_countPinned 9 = .ok (.invokevirtual 34, 3) := by decide +kernel
theorem dX4_countPinned_12 : decode cX4_countPinned 12 = .ok (.if_icmp .ge 29, 3) := by decide +kernel
theorem dX4_countPinned_15 : decode cX4_countPinned 15 = .ok (.aload_n 0, 1) := by decide +kernel
theorem dX4_countPinned_16 : decode cX4_countPinned 16 = .ok (.getfield 26, 3) := by decide +kernel
theorem dX4_countPinned_19 : decode cX4_countPinned 19 = .ok (.iload_n 2, 1) := by decide +kernel
theorem dX4_countPinned_20 : decode cX4_countPinned 20 = .ok (.invokevirtual 38, 3) := by decide +kernel
theorem dX4_countPinned_23 : decode cX4_countPinned 23 = .ok (.checkcast 42, 3) := by decide +kernel
theorem dX4_countPinned_26 : decode cX4_countPinned 26 = .ok (.getfield 83, 3) := by decide +kernel
theorem dX4_countPinned_29 : decode cX4_countPinned 29 = .ok (.ifCond .eq 6, 3) := by decide +kernel
theorem dX4_countPinned_32 : decode cX4_countPinned 32 = .ok (.iinc 1 1, 3) := by decide +kernel
theorem dX4_countPinned_35 : decode cX4_countPinned 35 = .ok (.iinc 2 1, 3) := by decide +kernel
theorem dX4_countPinned_38 : decode cX4_countPinned 38 = .ok (.goto (-34), 3) := by decide +kernel
theorem dX4_countPinned_41 : decode cX4_countPinned 41 = .ok (.iload_n 1, 1) := by decide +kernel
theorem dX4_countPinned_42 : decode cX4_countPinned 42 = .ok (.ireturn, 1) := by decide +kernel
theorem dX4_setPinned_0 : decode cX4_setPinned 0 = .ok (.iload_n 1, 1) := by decide +kernel
theorem dX4_setPinned_1 : decode cX4_setPinned 1 = .ok (.ifCond .lt 59, 3) := by decide +kernel
theorem dX4_setPinned_4 : decode cX4_setPinned 4 = .ok (.iload_n 1, 1) := by decide +kernel
theorem dX4_setPinned_5 : decode cX4_setPinned 5 = .ok (.aload_n 0, 1) := by decide +kernel
theorem dX4_setPinned_6 : decode cX4_setPinned 6 = .ok (.getfield 26, 3) := by decide +kernel
theorem dX4_setPinned_9 : decode cX4_setPinned 9 = .ok (.invokevirtual 34, 3) := by decide +kernel
theorem dX4_setPinned_12 : decode cX4_setPinned 12 = .ok (.if_icmp .ge 48, 3) := by decide +kernel
theorem dX4_setPinned_15 : decode cX4_setPinned 15 = .ok (.aload_n 0, 1) := by decide +kernel
theorem dX4_setPinned_16 : decode cX4_setPinned 16 = .ok (.getfield 26, 3) := by decide +kernel
theorem dX4_setPinned_19 : decode cX4_setPinned 19 = .ok (.iload_n 1, 1) := by decide +kernel
theorem dX4_setPinned_20 : decode cX4_setPinned 20 = .ok (.invokevirtual 38, 3) := by decide +kernel
theorem dX4_setPinned_23 : decode cX4_setPinned 23 = .ok (.checkcast 42, 3) := by decide +kernel
theorem dX4_setPinned_26 : decode cX4_setPinned 26 = .ok (.astore_n 3, 1) := by decide +kernel
theorem dX4_setPinned_27 : decode cX4_setPinned 27 = .ok (.aload_n 0, 1) := by decide +kernel
theorem dX4_setPinned_28 : decode cX4_setPinned 28 = .ok (.getfield 26, 3) := by decide +kernel
theorem dX4_setPinned_31 : decode cX4_setPinned 31 = .ok (.iload_n 1, 1) := by decide +kernel
theorem dX4_setPinned_32 : decode cX4_setPinned 32 = .ok (.new 42, 3) := by decide +kernel
theorem dX4_setPinned_35 : decode cX4_setPinned 35 = .ok (.dup, 1) := by decide +kernel
theorem dX4_setPinned_36 : decode cX4_setPinned 36 = .ok (.aload_n 3, 1) := by decide +kernel
theorem dX4_setPinned_37 : decode cX4_setPinned 37 = .ok (.getfield 76, 3) := by decide +kernel
theorem dX4_setPinned_40 : decode cX4_setPinned 40 = .ok (.aload_n 3, 1) := by decide +kernel
theorem dX4_setPinned_41 : decode cX4_setPinned 41 = .ok (.getfield 87, 3) := by decide +kernel
theorem dX4_setPinned_44 : decode cX4_setPinned 44 = .ok (.aload_n 3, 1) := by decide +kernel
theorem dX4_setPinned_45 : decode cX4_setPinned 45 = .ok (.getfield 90, 3) := by decide +kernel
theorem dX4_setPinned_48 : decode cX4_setPinned 48 = .ok (.aload_n 3, 1) := by decide +kernel
theorem dX4_setPinned_49 : decode cX4_setPinned 49 = .ok (.getfield 91, 3) := by decide +kernel
theorem dX4_setPinned_52 : decode cX4_setPinned 52 = .ok (.iload_n 2, 1) := by decide +kernel
theorem dX4_setPinned_53 : decode cX4_setPinned 53 = .ok (.invokespecial 94, 3) := by decide +kernel
theorem dX4_setPinned_56 : decode cX4_setPinned 56 = .ok (.invokevirtual 97, 3) := by decide +kernel
theorem dX4_setPinned_59 : decode cX4_setPinned 59 = .ok (.pop, 1) := by decide +kernel
theorem dX4_setPinned_60 : decode cX4_setPinned 60 = .ok (.return_, 1) := by decide +kernel
theorem dX4_useAgain_0 : decode cX4_useAgain 0 = .ok (.iload_n 1, 1) := by decide +kernel
theorem dX4_useAgain_1 : decode cX4_useAgain 1 = .ok (.ifCond .lt 73, 3) := by decide +kernel
theorem dX4_useAgain_4 : decode cX4_useAgain 4 = .ok (.iload_n 1, 1) := by decide +kernel
theorem dX4_useAgain_5 : decode cX4_useAgain 5 = .ok (.aload_n 0, 1) := by decide +kernel
theorem dX4_useAgain_6 : decode cX4_useAgain 6 = .ok (.getfield 26, 3) := by decide +kernel
theorem dX4_useAgain_9 : decode cX4_useAgain 9 = .ok (.invokevirtual 34, 3) := by decide +kernel
theorem dX4_useAgain_12 : decode cX4_useAgain 12 = .ok (.if_icmp .ge 62, 3) := by decide +kernel
theorem dX4_useAgain_15 : decode cX4_useAgain 15 = .ok (.aload_n 0, 1) := by decide +kernel
theorem dX4_useAgain_16 : decode cX4_useAgain 16 = .ok (.getfield 26, 3) := by decide +kernel
theorem dX4_useAgain_19 : decode cX4_useAgain 19 = .ok (.iload_n 1, 1) := by decide +kernel
theorem dX4_useAgain_20 : decode cX4_useAgain 20 = .ok (.invokevirtual 101, 3) := by decide +kernel
theorem dX4_useAgain_23 : decode cX4_useAgain 23 = .ok (.checkcast 42, 3) := by decide +kernel
theorem dX4_useAgain_26 : decode cX4_useAgain 26 = .ok (.astore_n 2, 1) := by decide +kernel
theorem dX4_useAgain_27 : decode cX4_useAgain 27 = .ok (.aload_n 0, 1) := by decide +kernel
theorem dX4_useAgain_28 : decode cX4_useAgain 28 = .ok (.getfield 26, 3) := by decide +kernel
theorem dX4_useAgain_31 : decode cX4_useAgain 31 = .ok (.new 42, 3) := by decide +kernel
theorem dX4_useAgain_34 : decode cX4_useAgain 34 = .ok (.dup, 1) := by decide +kernel
theorem dX4_useAgain_35 : decode cX4_useAgain 35 = .ok (.aload_n 2, 1) := by decide +kernel
theorem dX4_useAgain_36 : decode cX4_useAgain 36 = .ok (.getfield 76, 3) := by decide +kernel
theorem dX4_useAgain_39 : decode cX4_useAgain 39 = .ok (.aload_n 2, 1) := by decide +kernel
theorem dX4_useAgain_40 : decode cX4_useAgain 40 = .ok (.getfield 87, 3) := by decide +kernel
theorem dX4_useAgain_43 : decode cX4_useAgain 43 = .ok (.aload_n 2, 1) := by decide +kernel
theorem dX4_useAgain_44 : decode cX4_useAgain 44 = .ok (.getfield 90, 3) := by decide +kernel
theorem dX4_useAgain_47 : decode cX4_useAgain 47 = .ok (.aload_n 2, 1) := by decide +kernel
theorem dX4_useAgain_48 : decode cX4_useAgain 48 = .ok (.getfield 91, 3) := by decide +kernel
theorem dX4_useAgain_51 : decode cX4_useAgain 51 = .ok (.lconst 1, 1) := by decide +kernel
theorem dX4_useAgain_52 : decode cX4_useAgain 52 = .ok (.ladd, 1) := by decide +kernel
theorem dX4_useAgain_53 : decode cX4_useAgain 53 = .ok (.aload_n 2, 1) := by decide +kernel
theorem dX4_useAgain_54 : decode cX4_useAgain 54 = .ok (.getfield 83, 3) := by decide +kernel
theorem dX4_useAgain_57 : decode cX4_useAgain 57 = .ok (.invokespecial 94, 3) := by decide +kernel
theorem dX4_useAgain_60 : decode cX4_useAgain 60 = .ok (.invokevirtual 44, 3) := by decide +kernel
theorem dX4_useAgain_63 : decode cX4_useAgain 63 = .ok (.pop, 1) := by decide +kernel
theorem dX4_useAgain_64 : decode cX4_useAgain 64 = .ok (.aload_n 0, 1) := by decide +kernel
theorem dX4_useAgain_65 : decode cX4_useAgain 65 = .ok (.dup, 1) := by decide +kernel
theorem dX4_useAgain_66 : decode cX4_useAgain 66 = .ok (.getfield 48, 3) := by decide +kernel
theorem dX4_useAgain_69 : decode cX4_useAgain 69 = .ok (.lconst 1, 1) := by decide +kernel
theorem dX4_useAgain_70 : decode cX4_useAgain 70 = .ok (.ladd, 1) := by decide +kernel
theorem dX4_useAgain_71 : decode cX4_useAgain 71 = .ok (.putfield 48, 3) := by decide +kernel
theorem dX4_useAgain_74 : decode cX4_useAgain 74 = .ok (.return_, 1) := by decide +kernel
theorem dX4_keepNew_0 : decode cX4_keepNew 0 = .ok (.aload_n 0, 1) := by decide +kernel
theorem dX4_keepNew_1 : decode cX4_keepNew 1 = .ok (.dup, 1) := by decide +kernel
theorem dX4_keepNew_2 : decode cX4_keepNew 2 = .ok (.getfield 52, 3) := by decide +kernel
theorem dX4_keepNew_5 : decode cX4_keepNew 5 = .ok (.lconst 1, 1) := by decide +kernel
theorem dX4_keepNew_6 : decode cX4_keepNew 6 = .ok (.ladd, 1) := by decide +kernel
theorem dX4_keepNew_7 : decode cX4_keepNew 7 = .ok (.putfield 52, 3) := by decide +kernel
theorem dX4_keepNew_10 : decode cX4_keepNew 10 = .ok (.aload_n 0, 1) := by decide +kernel
theorem dX4_keepNew_11 : decode cX4_keepNew 11 = .ok (.dup, 1) := by decide +kernel
theorem dX4_keepNew_12 : decode cX4_keepNew 12 = .ok (.getfield 58, 3) := by decide +kernel
theorem dX4_keepNew_15 : decode cX4_keepNew 15 = .ok (.lload_n 3, 1) := by decide +kernel
theorem dX4_keepNew_16 : decode cX4_keepNew 16 = .ok (.ladd, 1) := by decide +kernel
theorem dX4_keepNew_17 : decode cX4_keepNew 17 = .ok (.putfield 58, 3) := by decide +kernel
theorem dX4_keepNew_20 : decode cX4_keepNew 20 = .ok (.aload_n 0, 1) := by decide +kernel
theorem dX4_keepNew_21 : decode cX4_keepNew 21 = .ok (.getfield 26, 3) := by decide +kernel
theorem dX4_keepNew_24 : decode cX4_keepNew 24 = .ok (.invokevirtual 34, 3) := by decide +kernel
theorem dX4_keepNew_27 : decode cX4_keepNew 27 = .ok (.iconst 4, 1) := by decide +kernel
theorem dX4_keepNew_28 : decode cX4_keepNew 28 = .ok (.if_icmp .lt 23, 3) := by decide +kernel
theorem dX4_keepNew_31 : decode cX4_keepNew 31 = .ok (.aload_n 0, 1) := by decide +kernel
theorem dX4_keepNew_32 : decode cX4_keepNew 32 = .ok (.invokevirtual 104, 3) := by decide +kernel
theorem dX4_keepNew_35 : decode cX4_keepNew 35 = .ok (.ifCond .ne 16, 3) := by decide +kernel
theorem dX4_keepNew_38 : decode cX4_keepNew 38 = .ok (.aload_n 0, 1) := by decide +kernel
theorem dX4_keepNew_39 : decode cX4_keepNew 39 = .ok (.dup, 1) := by decide +kernel
theorem dX4_keepNew_40 : decode cX4_keepNew 40 = .ok (.getfield 73, 3) := by decide +kernel
theorem dX4_keepNew_43 : decode cX4_keepNew 43 = .ok (.lconst 1, 1) := by decide +kernel
theorem dX4_keepNew_44 : decode cX4_keepNew 44 = .ok (.ladd, 1) := by decide +kernel
theorem dX4_keepNew_45 : decode cX4_keepNew 45 = .ok (.putfield 73, 3) := by decide +kernel
theorem dX4_keepNew_48 : decode cX4_keepNew 48 = .ok (.goto 32, 3) := by decide +kernel
theorem dX4_keepNew_51 : decode cX4_keepNew 51 = .ok (.aload_n 0, 1) := by decide +kernel
theorem dX4_keepNew_52 : decode cX4_keepNew 52 = .ok (.getfield 26, 3) := by decide +kernel
theorem dX4_keepNew_55 : decode cX4_keepNew 55 = .ok (.new 42, 3) := by decide +kernel
theorem dX4_keepNew_58 : decode cX4_keepNew 58 = .ok (.dup, 1) := by decide +kernel
theorem dX4_keepNew_59 : decode cX4_keepNew 59 = .ok (.iload_n 1, 1) := by decide +kernel
theorem dX4_keepNew_60 : decode cX4_keepNew 60 = .ok (.iload_n 2, 1) := by decide +kernel
theorem dX4_keepNew_61 : decode cX4_keepNew 61 = .ok (.aload_n 0, 1) := by decide +kernel
theorem dX4_keepNew_62 : decode cX4_keepNew 62 = .ok (.getfield 15, 3) := by decide +kernel
theorem dX4_keepNew_65 : decode cX4_keepNew 65 = .ok (.invokevirtual 108, 3) := by decide +kernel
theorem dX4_keepNew_68 : decode cX4_keepNew 68 = .ok (.checkcast 109, 3) := by decide +kernel
theorem dX4_keepNew_71 : decode cX4_keepNew 71 = .ok (.lconst 1, 1) := by decide +kernel
theorem dX4_keepNew_72 : decode cX4_keepNew 72 = .ok (.iconst 0, 1) := by decide +kernel
theorem dX4_keepNew_73 : decode cX4_keepNew 73 = .ok (.invokespecial 94, 3) := by decide +kernel
theorem dX4_keepNew_76 : decode cX4_keepNew 76 = .ok (.invokevirtual 44, 3) := by decide +kernel
theorem dX4_keepNew_79 : decode cX4_keepNew 79 = .ok (.pop, 1) := by decide +kernel
theorem dX4_keepNew_80 : decode cX4_keepNew 80 = .ok (.return_, 1) := by decide +kernel
theorem dX4_pushOneOut_0 : decode cX4_pushOneOut 0 = .ok (.iconst 0, 1) := by decide +kernel
theorem dX4_pushOneOut_1 : decode cX4_pushOneOut 1 = .ok (.istore_n 1, 1) := by decide +kernel
theorem dX4_pushOneOut_2 : decode cX4_pushOneOut 2 = .ok (.iload_n 1, 1) := by decide +kernel
theorem dX4_pushOneOut_3 : decode cX4_pushOneOut 3 = .ok (.aload_n 0, 1) := by decide +kernel
theorem dX4_pushOneOut_4 : decode cX4_pushOneOut 4 = .ok (.getfield 26, 3) := by decide +kernel
theorem dX4_pushOneOut_7 : decode cX4_pushOneOut 7 = .ok (.invokevirtual 34, 3) := by decide +kernel
theorem dX4_pushOneOut_10 : decode cX4_pushOneOut 10 = .ok (.if_icmp .ge 47, 3) := by decide +kernel
theorem dX4_pushOneOut_13 : decode cX4_pushOneOut 13 = .ok (.aload_n 0, 1) := by decide +kernel
theorem dX4_pushOneOut_14 : decode cX4_pushOneOut 14 = .ok (.getfield 26, 3) := by decide +kernel
theorem dX4_pushOneOut_17 : decode cX4_pushOneOut 17 = .ok (.iload_n 1, 1) := by decide +kernel
theorem dX4_pushOneOut_18 : decode cX4_pushOneOut 18 = .ok (.invokevirtual 38, 3) := by decide +kernel
theorem dX4_pushOneOut_21 : decode cX4_pushOneOut 21 = .ok (.checkcast 42, 3) := by decide +kernel
theorem dX4_pushOneOut_24 : decode cX4_pushOneOut 24 = .ok (.getfield 83, 3) := by decide +kernel
theorem dX4_pushOneOut_27 : decode cX4_pushOneOut 27 = .ok (.ifCond .ne 24, 3) := by decide +kernel
theorem dX4_pushOneOut_30 : decode cX4_pushOneOut 30 = .ok (.aload_n 0, 1) := by decide +kernel
theorem dX4_pushOneOut_31 : decode cX4_pushOneOut 31 = .ok (.getfield 26, 3) := by decide +kernel
theorem dX4_pushOneOut_34 : decode cX4_pushOneOut 34 = .ok (.iload_n 1, 1) := by decide +kernel
theorem dX4_pushOneOut_35 : decode cX4_pushOneOut 35 = .ok (.invokevirtual 101, 3) := by decide +kernel
theorem dX4_pushOneOut_38 : decode cX4_pushOneOut 38 = .ok (.pop, 1) := by decide +kernel
theorem dX4_pushOneOut_39 : decode cX4_pushOneOut 39 = .ok (.aload_n 0, 1) := by decide +kernel
theorem dX4_pushOneOut_40 : decode cX4_pushOneOut 40 = .ok (.dup, 1) := by decide +kernel
theorem dX4_pushOneOut_41 : decode cX4_pushOneOut 41 = .ok (.getfield 64, 3) := by decide +kernel
theorem dX4_pushOneOut_44 : decode cX4_pushOneOut 44 = .ok (.lconst 1, 1) := by decide +kernel
theorem dX4_pushOneOut_45 : decode cX4_pushOneOut 45 = .ok (.ladd, 1) := by decide +kernel
theorem dX4_pushOneOut_46 : decode cX4_pushOneOut 46 = .ok (.putfield 64, 3) := by decide +kernel
theorem dX4_pushOneOut_49 : decode cX4_pushOneOut 49 = .ok (.iconst 1, 1) := by decide +kernel
theorem dX4_pushOneOut_50 : decode cX4_pushOneOut 50 = .ok (.ireturn, 1) := by decide +kernel
theorem dX4_pushOneOut_51 : decode cX4_pushOneOut 51 = .ok (.iinc 1 1, 3) := by decide +kernel
theorem dX4_pushOneOut_54 : decode cX4_pushOneOut 54 = .ok (.goto (-52), 3) := by decide +kernel
theorem dX4_pushOneOut_57 : decode cX4_pushOneOut 57 = .ok (.iconst 0, 1) := by decide +kernel
theorem dX4_pushOneOut_58 : decode cX4_pushOneOut 58 = .ok (.ireturn, 1) := by decide +kernel
theorem dX4_countTables_0 : decode cX4_countTables 0 = .ok (.iconst 0, 1) := by decide +kernel
theorem dX4_countTables_1 : decode cX4_countTables 1 = .ok (.istore_n 2, 1) := by decide +kernel
theorem dX4_countTables_2 : decode cX4_countTables 2 = .ok (.iload_n 2, 1) := by decide +kernel
theorem dX4_countTables_3 : decode cX4_countTables 3 = .ok (.iconst 5, 1) := by decide +kernel
theorem dX4_countTables_4 : decode cX4_countTables 4 = .ok (.if_icmp .ge 29, 3) := by decide +kernel
theorem dX4_countTables_7 : decode cX4_countTables 7 = .ok (.iload_n 1, 1) := by decide +kernel
theorem dX4_countTables_8 : decode cX4_countTables 8 = .ok (.iload_n 2, 1) := by decide +kernel
theorem dX4_countTables_9 : decode cX4_countTables 9 = .ok (.invokestatic 113, 3) := by decide +kernel
theorem dX4_countTables_12 : decode cX4_countTables 12 = .ok (.ifCond .eq 15, 3) := by decide +kernel
theorem dX4_countTables_15 : decode cX4_countTables 15 = .ok (.aload_n 0, 1) := by decide +kernel
theorem dX4_countTables_16 : decode cX4_countTables 16 = .ok (.getfield 15, 3) := by decide +kernel
theorem dX4_countTables_19 : decode cX4_countTables 19 = .ok (.iload_n 2, 1) := by decide +kernel
theorem dX4_countTables_20 : decode cX4_countTables 20 = .ok (.aload_n 0, 1) := by decide +kernel
theorem dX4_countTables_21 : decode cX4_countTables 21 = .ok (.getfield 9, 3) := by decide +kernel
theorem dX4_countTables_24 : decode cX4_countTables 24 = .ok (.iload_n 2, 1) := by decide +kernel
theorem dX4_countTables_25 : decode cX4_countTables 25 = .ok (.iaload, 1) := by decide +kernel
theorem dX4_countTables_26 : decode cX4_countTables 26 = .ok (.iastore, 1) := by decide +kernel
theorem dX4_countTables_27 : decode cX4_countTables 27 = .ok (.iinc 2 1, 3) := by decide +kernel
theorem dX4_countTables_30 : decode cX4_countTables 30 = .ok (.goto (-28), 3) := by decide +kernel
theorem dX4_countTables_33 : decode cX4_countTables 33 = .ok (.aload_n 0, 1) := by decide +kernel
theorem dX4_countTables_34 : decode cX4_countTables 34 = .ok (.invokevirtual 116, 3) := by decide +kernel
theorem dX4_countTables_37 : decode cX4_countTables 37 = .ok (.ireturn, 1) := by decide +kernel
theorem dX4_throwOutDrifted_0 : decode cX4_throwOutDrifted 0 = .ok (.aload_n 0, 1) := by decide +kernel
theorem dX4_throwOutDrifted_1 : decode cX4_throwOutDrifted 1 = .ok (.getfield 26, 3) := by decide +kernel
theorem dX4_throwOutDrifted_4 : decode cX4_throwOutDrifted 4 = .ok (.invokevirtual 34, 3) := by decide +kernel
theorem dX4_throwOutDrifted_7 : decode cX4_throwOutDrifted 7 = .ok (.istore_n 1, 1) := by decide +kernel
theorem dX4_throwOutDrifted_8 : decode cX4_throwOutDrifted 8 = .ok (.iload_n 1, 1) := by decide +kernel
theorem dX4_throwOutDrifted_9 : decode cX4_throwOutDrifted 9 = .ok (.iconst 1, 1) := by decide +kernel
theorem dX4_throwOutDrifted_10 : decode cX4_throwOutDrifted 10 = .ok (.isub, 1) := by decide +kernel
theorem dX4_throwOutDrifted_11 : decode cX4_throwOutDrifted 11 = .ok (.istore_n 2, 1) := by decide +kernel
theorem dX4_throwOutDrifted_12 : decode cX4_throwOutDrifted 12 = .ok (.iload_n 2, 1) := by decide +kernel
theorem dX4_throwOutDrifted_13 : decode cX4_throwOutDrifted 13 = .ok (.ifCond .lt 46, 3) := by decide +kernel
theorem dX4_throwOutDrifted_16 : decode cX4_throwOutDrifted 16 = .ok (.aload_n 0, 1) := by decide +kernel
theorem dX4_throwOutDrifted_17 : decode cX4_throwOutDrifted 17 = .ok (.getfield 26, 3) := by decide +kernel
theorem dX4_throwOutDrifted_20 : decode cX4_throwOutDrifted 20 = .ok (.iload_n 2, 1) := by decide +kernel
theorem dX4_throwOutDrifted_21 : decode cX4_throwOutDrifted 21 = .ok (.invokevirtual 38, 3) := by decide +kernel
theorem dX4_throwOutDrifted_24 : decode cX4_throwOutDrifted 24 = .ok (.checkcast 42, 3) := by decide +kernel
theorem dX4_throwOutDrifted_27 : decode cX4_throwOutDrifted 27 = .ok (.astore_n 3, 1) := by decide +kernel
theorem dX4_throwOutDrifted_28 : decode cX4_throwOutDrifted 28 = .ok (.aload_n 3, 1) := by decide +kernel
theorem dX4_throwOutDrifted_29 : decode cX4_throwOutDrifted 29 = .ok (.getfield 83, 3) := by decide +kernel
theorem dX4_throwOutDrifted_32 : decode cX4_throwOutDrifted 32 = .ok (.ifCond .ne 21, 3) := by decide +kernel
theorem dX4_throwOutDrifted_35 : decode cX4_throwOutDrifted 35 = .ok (.aload_n 0, 1) := by decide +kernel
theorem dX4_throwOutDrifted_36 : decode cX4_throwOutDrifted 36 = .ok (.aload_n 3, 1) := by decide +kernel
theorem dX4_throwOutDrifted_37 : decode cX4_throwOutDrifted 37 = .ok (.iconst 0, 1) := by decide +kernel
theorem dX4_throwOutDrifted_38 : decode cX4_throwOutDrifted 38 = .ok (.invokevirtual 119, 3) := by decide +kernel
theorem dX4_throwOutDrifted_41 : decode cX4_throwOutDrifted 41 = .ok (.ifCond .eq 12, 3) := by decide +kernel
theorem dX4_throwOutDrifted_44 : decode cX4_throwOutDrifted 44 = .ok (.aload_n 0, 1) := by decide +kernel
theorem dX4_throwOutDrifted_45 : decode cX4_throwOutDrifted 45 = .ok (.getfield 26, 3) := by decide +kernel
theorem dX4_throwOutDrifted_48 : decode cX4_throwOutDrifted 48 = .ok (.iload_n 2, 1) := by decide +kernel
theorem dX4_throwOutDrifted_49 : decode cX4_throwOutDrifted 49 = .ok (.invokevirtual 101, 3) := by decide +kernel
theorem dX4_throwOutDrifted_52 : decode cX4_throwOutDrifted 52 = .ok (.pop, 1) := by decide +kernel
theorem dX4_throwOutDrifted_53 : decode cX4_throwOutDrifted 53 = .ok (.iinc 2 (-1), 3) := by decide +kernel
theorem dX4_throwOutDrifted_56 : decode cX4_throwOutDrifted 56 = .ok (.goto (-44), 3) := by decide +kernel
theorem dX4_throwOutDrifted_59 : decode cX4_throwOutDrifted 59 = .ok (.iload_n 1, 1) := by decide +kernel
theorem dX4_throwOutDrifted_60 : decode cX4_throwOutDrifted 60 = .ok (.aload_n 0, 1) := by decide +kernel
theorem dX4_throwOutDrifted_61 : decode cX4_throwOutDrifted 61 = .ok (.getfield 26, 3) := by decide +kernel
theorem dX4_throwOutDrifted_64 : decode cX4_throwOutDrifted 64 = .ok (.invokevirtual 34, 3) := by decide +kernel
theorem dX4_throwOutDrifted_67 : decode cX4_throwOutDrifted 67 = .ok (.isub, 1) := by decide +kernel
theorem dX4_throwOutDrifted_68 : decode cX4_throwOutDrifted 68 = .ok (.istore_n 2, 1) := by decide +kernel
theorem dX4_throwOutDrifted_69 : decode cX4_throwOutDrifted 69 = .ok (.aload_n 0, 1) := by decide +kernel
theorem dX4_throwOutDrifted_70 : decode cX4_throwOutDrifted 70 = .ok (.dup, 1) := by decide +kernel
theorem dX4_throwOutDrifted_71 : decode cX4_throwOutDrifted 71 = .ok (.getfield 61, 3) := by decide +kernel
theorem dX4_throwOutDrifted_74 : decode cX4_throwOutDrifted 74 = .ok (.iload_n 2, 1) := by decide +kernel
theorem dX4_throwOutDrifted_75 : decode cX4_throwOutDrifted 75 = .ok (.i2l, 1) := by decide +kernel
theorem dX4_throwOutDrifted_76 : decode cX4_throwOutDrifted 76 = .ok (.ladd, 1) := by decide +kernel
theorem dX4_throwOutDrifted_77 : decode cX4_throwOutDrifted 77 = .ok (.putfield 61, 3) := by decide +kernel
theorem dX4_throwOutDrifted_80 : decode cX4_throwOutDrifted 80 = .ok (.iload_n 2, 1) := by decide +kernel
theorem dX4_throwOutDrifted_81 : decode cX4_throwOutDrifted 81 = .ok (.ireturn, 1) := by decide +kernel
theorem dX4_throwOutJoins_0 : decode cX4_throwOutJoins 0 = .ok (.aload_n 0, 1) := by decide +kernel
theorem dX4_throwOutJoins_1 : decode cX4_throwOutJoins 1 = .ok (.getfield 26, 3) := by decide +kernel
theorem dX4_throwOutJoins_4 : decode cX4_throwOutJoins 4 = .ok (.invokevirtual 34, 3) := by decide +kernel
theorem dX4_throwOutJoins_7 : decode cX4_throwOutJoins 7 = .ok (.istore_n 2, 1) := by decide +kernel
theorem dX4_throwOutJoins_8 : decode cX4_throwOutJoins 8 = .ok (.iload_n 2, 1) := by decide +kernel
theorem dX4_throwOutJoins_9 : decode cX4_throwOutJoins 9 = .ok (.iconst 1, 1) := by decide +kernel
theorem dX4_throwOutJoins_10 : decode cX4_throwOutJoins 10 = .ok (.isub, 1) := by decide +kernel
theorem dX4_throwOutJoins_11 : decode cX4_throwOutJoins 11 = .ok (.istore_n 3, 1) := by decide +kernel
theorem dX4_throwOutJoins_12 : decode cX4_throwOutJoins 12 = .ok (.iload_n 3, 1) := by decide +kernel
theorem dX4_throwOutJoins_13 : decode cX4_throwOutJoins 13 = .ok (.ifCond .lt 51, 3) := by decide +kernel
theorem dX4_throwOutJoins_16 : decode cX4_throwOutJoins 16 = .ok (.aload_n 0, 1) := by decide +kernel
theorem dX4_throwOutJoins_17 : decode cX4_throwOutJoins 17 = .ok (.getfield 26, 3) := by decide +kernel
theorem dX4_throwOutJoins_20 : decode cX4_throwOutJoins 20 = .ok (.iload_n 3, 1) := by decide +kernel
theorem dX4_throwOutJoins_21 : decode cX4_throwOutJoins 21 = .ok (.invokevirtual 38, 3) := by decide +kernel
theorem dX4_throwOutJoins_24 : decode cX4_throwOutJoins 24 = .ok (.checkcast 42, 3) := by decide +kernel
theorem dX4_throwOutJoins_27 : decode cX4_throwOutJoins 27 = .ok (.astore 4, 2) := by decide +kernel
theorem dX4_throwOutJoins_29 : decode cX4_throwOutJoins 29 = .ok (.aload 4, 2) := by decide +kernel
theorem dX4_throwOutJoins_31 : decode cX4_throwOutJoins 31 = .ok (.getfield 83, 3) := by decide +kernel
theorem dX4_throwOutJoins_34 : decode cX4_throwOutJoins 34 = .ok (.ifCond .ne 24, 3) := by decide +kernel
theorem dX4_throwOutJoins_37 : decode cX4_throwOutJoins 37 = .ok (.aload 4, 2) := by decide +kernel
theorem dX4_throwOutJoins_39 : decode cX4_throwOutJoins 39 = .ok (.getfield 76, 3) := by decide +kernel
theorem dX4_throwOutJoins_42 : decode cX4_throwOutJoins 42 = .ok (.iload_n 1, 1) := by decide +kernel
theorem dX4_throwOutJoins_43 : decode cX4_throwOutJoins 43 = .ok (.invokestatic 79, 3) := by decide +kernel
theorem dX4_throwOutJoins_46 : decode cX4_throwOutJoins 46 = .ok (.ifCond .eq 12, 3) := by decide +kernel
theorem dX4_throwOutJoins_49 : decode cX4_throwOutJoins 49 = .ok (.aload_n 0, 1) := by decide +kernel
theorem dX4_throwOutJoins_50 : decode cX4_throwOutJoins 50 = .ok (.getfield 26, 3) := by decide +kernel
theorem dX4_throwOutJoins_53 : decode cX4_throwOutJoins 53 = .ok (.iload_n 3, 1) := by decide +kernel
theorem dX4_throwOutJoins_54 : decode cX4_throwOutJoins 54 = .ok (.invokevirtual 101, 3) := by decide +kernel
theorem dX4_throwOutJoins_57 : decode cX4_throwOutJoins 57 = .ok (.pop, 1) := by decide +kernel
theorem dX4_throwOutJoins_58 : decode cX4_throwOutJoins 58 = .ok (.iinc 3 (-1), 3) := by decide +kernel
theorem dX4_throwOutJoins_61 : decode cX4_throwOutJoins 61 = .ok (.goto (-49), 3) := by decide +kernel
theorem dX4_throwOutJoins_64 : decode cX4_throwOutJoins 64 = .ok (.iload_n 2, 1) := by decide +kernel
theorem dX4_throwOutJoins_65 : decode cX4_throwOutJoins 65 = .ok (.aload_n 0, 1) := by decide +kernel
theorem dX4_throwOutJoins_66 : decode cX4_throwOutJoins 66 = .ok (.getfield 26, 3) := by decide +kernel
theorem dX4_throwOutJoins_69 : decode cX4_throwOutJoins 69 = .ok (.invokevirtual 34, 3) := by decide +kernel
theorem dX4_throwOutJoins_72 : decode cX4_throwOutJoins 72 = .ok (.isub, 1) := by decide +kernel
theorem dX4_throwOutJoins_73 : decode cX4_throwOutJoins 73 = .ok (.istore_n 3, 1) := by decide +kernel
theorem dX4_throwOutJoins_74 : decode cX4_throwOutJoins 74 = .ok (.aload_n 0, 1) := by decide +kernel
theorem dX4_throwOutJoins_75 : decode cX4_throwOutJoins 75 = .ok (.dup, 1) := by decide +kernel
theorem dX4_throwOutJoins_76 : decode cX4_throwOutJoins 76 = .ok (.getfield 67, 3) := by decide +kernel
theorem dX4_throwOutJoins_79 : decode cX4_throwOutJoins 79 = .ok (.iload_n 3, 1) := by decide +kernel
theorem dX4_throwOutJoins_80 : decode cX4_throwOutJoins 80 = .ok (.i2l, 1) := by decide +kernel
theorem dX4_throwOutJoins_81 : decode cX4_throwOutJoins 81 = .ok (.ladd, 1) := by decide +kernel
theorem dX4_throwOutJoins_82 : decode cX4_throwOutJoins 82 = .ok (.putfield 67, 3) := by decide +kernel
theorem dX4_throwOutJoins_85 : decode cX4_throwOutJoins 85 = .ok (.iload_n 3, 1) := by decide +kernel
theorem dX4_throwOutJoins_86 : decode cX4_throwOutJoins 86 = .ok (.ireturn, 1) := by decide +kernel
theorem dX4_driftsOnceCounted_0 : decode cX4_driftsOnceCounted 0 = .ok (.iconst 0, 1) := by decide +kernel
theorem dX4_driftsOnceCounted_1 : decode cX4_driftsOnceCounted 1 = .ok (.istore_n 3, 1) := by decide +kernel
theorem dX4_driftsOnceCounted_2 : decode cX4_driftsOnceCounted 2 = .ok (.iload_n 3, 1) := by decide +kernel
theorem dX4_driftsOnceCounted_3 : decode cX4_driftsOnceCounted 3 = .ok (.iconst 5, 1) := by decide +kernel
theorem dX4_driftsOnceCounted_4 : decode cX4_driftsOnceCounted 4 = .ok (.if_icmp .ge 89, 3) := by decide +kernel
theorem dX4_driftsOnceCounted_7 : decode cX4_driftsOnceCounted 7 = .ok (.iload_n 3, 1) := by decide +kernel
theorem dX4_driftsOnceCounted_8 : decode cX4_driftsOnceCounted 8 = .ok (.aload_n 1, 1) := by decide +kernel
theorem dX4_driftsOnceCounted_9 : decode cX4_driftsOnceCounted 9 = .ok (.getfield 90, 3) := by decide +kernel
theorem dX4_driftsOnceCounted_12 : decode cX4_driftsOnceCounted 12 = .ok (.arraylength, 1) := by decide +kernel
theorem dX4_driftsOnceCounted_13 : decode cX4_driftsOnceCounted 13 = .ok (.if_icmp .ge 80, 3) := by decide +kernel
theorem dX4_driftsOnceCounted_16 : decode cX4_driftsOnceCounted 16 = .ok (.iload_n 2, 1) := by decide +kernel
theorem dX4_driftsOnceCounted_17 : decode cX4_driftsOnceCounted 17 = .ok (.iload_n 3, 1) := by decide +kernel
theorem dX4_driftsOnceCounted_18 : decode cX4_driftsOnceCounted 18 = .ok (.invokestatic 113, 3) := by decide +kernel
theorem dX4_driftsOnceCounted_21 : decode cX4_driftsOnceCounted 21 = .ok (.ifCond .eq 12, 3) := by decide +kernel
theorem dX4_driftsOnceCounted_24 : decode cX4_driftsOnceCounted 24 = .ok (.aload_n 0, 1) := by decide +kernel
theorem dX4_driftsOnceCounted_25 : decode cX4_driftsOnceCounted 25 = .ok (.getfield 9, 3) := by decide +kernel
theorem dX4_driftsOnceCounted_28 : decode cX4_driftsOnceCounted 28 = .ok (.iload_n 3, 1) := by decide +kernel
theorem dX4_driftsOnceCounted_29 : decode cX4_driftsOnceCounted 29 = .ok (.iaload, 1) := by decide +kernel
theorem dX4_driftsOnceCounted_30 : decode cX4_driftsOnceCounted 30 = .ok (.goto 9, 3) := by decide +kernel
theorem dX4_driftsOnceCounted_33 : decode cX4_driftsOnceCounted 33 = .ok (.aload_n 0, 1) := by decide +kernel
theorem dX4_driftsOnceCounted_34 : decode cX4_driftsOnceCounted 34 = .ok (.getfield 15, 3) := by decide +kernel
theorem dX4_driftsOnceCounted_37 : decode cX4_driftsOnceCounted 37 = .ok (.iload_n 3, 1) := by decide +kernel
theorem dX4_driftsOnceCounted_38 : decode cX4_driftsOnceCounted 38 = .ok (.iaload, 1) := by decide +kernel
theorem dX4_driftsOnceCounted_39 : decode cX4_driftsOnceCounted 39 = .ok (.istore 4, 2) := by decide +kernel
theorem dX4_driftsOnceCounted_41 : decode cX4_driftsOnceCounted 41 = .ok (.aload_n 1, 1) := by decide +kernel
theorem dX4_driftsOnceCounted_42 : decode cX4_driftsOnceCounted 42 = .ok (.getfield 90, 3) := by decide +kernel
theorem dX4_driftsOnceCounted_45 : decode cX4_driftsOnceCounted 45 = .ok (.iload_n 3, 1) := by decide +kernel
theorem dX4_driftsOnceCounted_46 : decode cX4_driftsOnceCounted 46 = .ok (.iaload, 1) := by decide +kernel
theorem dX4_driftsOnceCounted_47 : decode cX4_driftsOnceCounted 47 = .ok (.istore 5, 2) := by decide +kernel
theorem dX4_driftsOnceCounted_49 : decode cX4_driftsOnceCounted 49 = .ok (.aload_n 1, 1) := by decide +kernel
theorem dX4_driftsOnceCounted_50 : decode cX4_driftsOnceCounted 50 = .ok (.getfield 76, 3) := by decide +kernel
theorem dX4_driftsOnceCounted_53 : decode cX4_driftsOnceCounted 53 = .ok (.iload_n 3, 1) := by decide +kernel
theorem dX4_driftsOnceCounted_54 : decode cX4_driftsOnceCounted 54 = .ok (.invokestatic 113, 3) := by decide +kernel
theorem dX4_driftsOnceCounted_57 : decode cX4_driftsOnceCounted 57 = .ok (.ifCond .eq 30, 3) := by decide +kernel
theorem dX4_driftsOnceCounted_60 : decode cX4_driftsOnceCounted 60 = .ok (.iload 4, 2) := by decide +kernel
theorem dX4_driftsOnceCounted_62 : decode cX4_driftsOnceCounted 62 = .ok (.iload 5, 2) := by decide +kernel
theorem dX4_driftsOnceCounted_64 : decode cX4_driftsOnceCounted 64 = .ok (.invokestatic 123, 3) := by decide +kernel
theorem dX4_driftsOnceCounted_67 : decode cX4_driftsOnceCounted 67 = .ok (.bipush 100, 2) := by decide +kernel
theorem dX4_driftsOnceCounted_69 : decode cX4_driftsOnceCounted 69 = .ok (.imul, 1) := by decide +kernel
theorem dX4_driftsOnceCounted_70 : decode cX4_driftsOnceCounted 70 = .ok (.iload 4, 2) := by decide +kernel
theorem dX4_driftsOnceCounted_72 : decode cX4_driftsOnceCounted 72 = .ok (.iload 5, 2) := by decide +kernel
theorem dX4_driftsOnceCounted_74 : decode cX4_driftsOnceCounted 74 = .ok (.invokestatic 129, 3) := by decide +kernel
theorem dX4_driftsOnceCounted_77 : decode cX4_driftsOnceCounted 77 = .ok (.aload_n 0, 1) := by decide +kernel
theorem dX4_driftsOnceCounted_78 : decode cX4_driftsOnceCounted 78 = .ok (.getfield 30, 3) := by decide +kernel
theorem dX4_driftsOnceCounted_81 : decode cX4_driftsOnceCounted 81 = .ok (.imul, 1) := by decide +kernel
theorem dX4_driftsOnceCounted_82 : decode cX4_driftsOnceCounted 82 = .ok (.if_icmp .le 5, 3) := by decide +kernel
theorem dX4_driftsOnceCounted_85 : decode cX4_driftsOnceCounted 85 = .ok (.iconst 1, 1) := by decide +kernel
theorem dX4_driftsOnceCounted_86 : decode cX4_driftsOnceCounted 86 = .ok (.ireturn, 1) := by decide +kernel
theorem dX4_driftsOnceCounted_87 : decode cX4_driftsOnceCounted 87 = .ok (.iinc 3 1, 3) := by decide +kernel
theorem dX4_driftsOnceCounted_90 : decode cX4_driftsOnceCounted 90 = .ok (.goto (-88), 3) := by decide +kernel
theorem dX4_driftsOnceCounted_93 : decode cX4_driftsOnceCounted 93 = .ok (.iconst 0, 1) := by decide +kernel
theorem dX4_driftsOnceCounted_94 : decode cX4_driftsOnceCounted 94 = .ok (.ireturn, 1) := by decide +kernel
theorem dJ6_bitCount_0f7a4_0 : decode cJ6_bitCount_0f7a4 0 = .ok (.iload_n 0, 1) := by decide +kernel
theorem dJ6_bitCount_0f7a4_1 : decode cJ6_bitCount_0f7a4 1 = .ok (.iload_n 0, 1) := by decide +kernel
theorem dJ6_bitCount_0f7a4_2 : decode cJ6_bitCount_0f7a4 2 = .ok (.iconst 1, 1) := by decide +kernel
theorem dJ6_bitCount_0f7a4_3 : decode cJ6_bitCount_0f7a4 3 = .ok (.iushr, 1) := by decide +kernel
theorem dJ6_bitCount_0f7a4_4 : decode cJ6_bitCount_0f7a4 4 = .ok (.ldc_w 265, 3) := by decide +kernel
theorem dJ6_bitCount_0f7a4_7 : decode cJ6_bitCount_0f7a4 7 = .ok (.iand, 1) := by decide +kernel
theorem dJ6_bitCount_0f7a4_8 : decode cJ6_bitCount_0f7a4 8 = .ok (.isub, 1) := by decide +kernel
theorem dJ6_bitCount_0f7a4_9 : decode cJ6_bitCount_0f7a4 9 = .ok (.istore_n 0, 1) := by decide +kernel
theorem dJ6_bitCount_0f7a4_10 : decode cJ6_bitCount_0f7a4 10 = .ok (.iload_n 0, 1) := by decide +kernel
theorem dJ6_bitCount_0f7a4_11 : decode cJ6_bitCount_0f7a4 11 = .ok (.ldc_w 266, 3) := by decide +kernel
theorem dJ6_bitCount_0f7a4_14 : decode cJ6_bitCount_0f7a4 14 = .ok (.iand, 1) := by decide +kernel
theorem dJ6_bitCount_0f7a4_15 : decode cJ6_bitCount_0f7a4 15 = .ok (.iload_n 0, 1) := by decide +kernel
theorem dJ6_bitCount_0f7a4_16 : decode cJ6_bitCount_0f7a4 16 = .ok (.iconst 2, 1) := by decide +kernel
theorem dJ6_bitCount_0f7a4_17 : decode cJ6_bitCount_0f7a4 17 = .ok (.iushr, 1) := by decide +kernel
theorem dJ6_bitCount_0f7a4_18 : decode cJ6_bitCount_0f7a4 18 = .ok (.ldc_w 266, 3) := by decide +kernel
theorem dJ6_bitCount_0f7a4_21 : decode cJ6_bitCount_0f7a4 21 = .ok (.iand, 1) := by decide +kernel
theorem dJ6_bitCount_0f7a4_22 : decode cJ6_bitCount_0f7a4 22 = .ok (.iadd, 1) := by decide +kernel
theorem dJ6_bitCount_0f7a4_23 : decode cJ6_bitCount_0f7a4 23 = .ok (.istore_n 0, 1) := by decide +kernel
theorem dJ6_bitCount_0f7a4_24 : decode cJ6_bitCount_0f7a4 24 = .ok (.iload_n 0, 1) := by decide +kernel
theorem dJ6_bitCount_0f7a4_25 : decode cJ6_bitCount_0f7a4 25 = .ok (.iload_n 0, 1) := by decide +kernel
theorem dJ6_bitCount_0f7a4_26 : decode cJ6_bitCount_0f7a4 26 = .ok (.iconst 4, 1) := by decide +kernel
theorem dJ6_bitCount_0f7a4_27 : decode cJ6_bitCount_0f7a4 27 = .ok (.iushr, 1) := by decide +kernel
theorem dJ6_bitCount_0f7a4_28 : decode cJ6_bitCount_0f7a4 28 = .ok (.iadd, 1) := by decide +kernel
theorem dJ6_bitCount_0f7a4_29 : decode cJ6_bitCount_0f7a4 29 = .ok (.ldc_w 267, 3) := by decide +kernel
theorem dJ6_bitCount_0f7a4_32 : decode cJ6_bitCount_0f7a4 32 = .ok (.iand, 1) := by decide +kernel
theorem dJ6_bitCount_0f7a4_33 : decode cJ6_bitCount_0f7a4 33 = .ok (.istore_n 0, 1) := by decide +kernel
theorem dJ6_bitCount_0f7a4_34 : decode cJ6_bitCount_0f7a4 34 = .ok (.iload_n 0, 1) := by decide +kernel
theorem dJ6_bitCount_0f7a4_35 : decode cJ6_bitCount_0f7a4 35 = .ok (.iload_n 0, 1) := by decide +kernel
theorem dJ6_bitCount_0f7a4_36 : decode cJ6_bitCount_0f7a4 36 = .ok (.bipush 8, 2) := by decide +kernel
theorem dJ6_bitCount_0f7a4_38 : decode cJ6_bitCount_0f7a4 38 = .ok (.iushr, 1) := by decide +kernel
theorem dJ6_bitCount_0f7a4_39 : decode cJ6_bitCount_0f7a4 39 = .ok (.iadd, 1) := by decide +kernel
theorem dJ6_bitCount_0f7a4_40 : decode cJ6_bitCount_0f7a4 40 = .ok (.istore_n 0, 1) := by decide +kernel
theorem dJ6_bitCount_0f7a4_41 : decode cJ6_bitCount_0f7a4 41 = .ok (.iload_n 0, 1) := by decide +kernel
theorem dJ6_bitCount_0f7a4_42 : decode cJ6_bitCount_0f7a4 42 = .ok (.iload_n 0, 1) := by decide +kernel
theorem dJ6_bitCount_0f7a4_43 : decode cJ6_bitCount_0f7a4 43 = .ok (.bipush 16, 2) := by decide +kernel
theorem dJ6_bitCount_0f7a4_45 : decode cJ6_bitCount_0f7a4 45 = .ok (.iushr, 1) := by decide +kernel
theorem dJ6_bitCount_0f7a4_46 : decode cJ6_bitCount_0f7a4 46 = .ok (.iadd, 1) := by decide +kernel
theorem dJ6_bitCount_0f7a4_47 : decode cJ6_bitCount_0f7a4 47 = .ok (.istore_n 0, 1) := by decide +kernel
theorem dJ6_bitCount_0f7a4_48 : decode cJ6_bitCount_0f7a4 48 = .ok (.iload_n 0, 1) := by decide +kernel
theorem dJ6_bitCount_0f7a4_49 : decode cJ6_bitCount_0f7a4 49 = .ok (.bipush 63, 2) := by decide +kernel
theorem dJ6_bitCount_0f7a4_51 : decode cJ6_bitCount_0f7a4 51 = .ok (.iand, 1) := by decide +kernel
theorem dJ6_bitCount_0f7a4_52 : decode cJ6_bitCount_0f7a4 52 = .ok (.ireturn, 1) := by decide +kernel
theorem dJ9_max_7cf53_0 : decode cJ9_max_7cf53 0 = .ok (.iload_n 0, 1) := by decide +kernel
theorem dJ9_max_7cf53_1 : decode cJ9_max_7cf53 1 = .ok (.iload_n 1, 1) := by decide +kernel
theorem dJ9_max_7cf53_2 : decode cJ9_max_7cf53 2 = .ok (.if_icmp .lt 7, 3) := by decide +kernel
theorem dJ9_max_7cf53_5 : decode cJ9_max_7cf53 5 = .ok (.iload_n 0, 1) := by decide +kernel
theorem dJ9_max_7cf53_6 : decode cJ9_max_7cf53 6 = .ok (.goto 4, 3) := by decide +kernel
theorem dJ9_max_7cf53_9 : decode cJ9_max_7cf53 9 = .ok (.iload_n 1, 1) := by decide +kernel
theorem dJ9_max_7cf53_10 : decode cJ9_max_7cf53 10 = .ok (.ireturn, 1) := by decide +kernel
theorem dJ9_max_f86c9_0 : decode cJ9_max_f86c9 0 = .ok (.lload_n 0, 1) := by decide +kernel
theorem dJ9_max_f86c9_1 : decode cJ9_max_f86c9 1 = .ok (.lload_n 2, 1) := by decide +kernel
theorem dJ9_max_f86c9_2 : decode cJ9_max_f86c9 2 = .ok (.lcmp, 1) := by decide +kernel
theorem dJ9_max_f86c9_3 : decode cJ9_max_f86c9 3 = .ok (.ifCond .lt 7, 3) := by decide +kernel
theorem dJ9_max_f86c9_6 : decode cJ9_max_f86c9 6 = .ok (.lload_n 0, 1) := by decide +kernel
theorem dJ9_max_f86c9_7 : decode cJ9_max_f86c9 7 = .ok (.goto 4, 3) := by decide +kernel
theorem dJ9_max_f86c9_10 : decode cJ9_max_f86c9 10 = .ok (.lload_n 2, 1) := by decide +kernel
theorem dJ9_max_f86c9_11 : decode cJ9_max_f86c9 11 = .ok (.lreturn, 1) := by decide +kernel
theorem dJ9_min_7cf53_0 : decode cJ9_min_7cf53 0 = .ok (.iload_n 0, 1) := by decide +kernel
theorem dJ9_min_7cf53_1 : decode cJ9_min_7cf53 1 = .ok (.iload_n 1, 1) := by decide +kernel
theorem dJ9_min_7cf53_2 : decode cJ9_min_7cf53 2 = .ok (.if_icmp .gt 7, 3) := by decide +kernel
theorem dJ9_min_7cf53_5 : decode cJ9_min_7cf53 5 = .ok (.iload_n 0, 1) := by decide +kernel
theorem dJ9_min_7cf53_6 : decode cJ9_min_7cf53 6 = .ok (.goto 4, 3) := by decide +kernel
theorem dJ9_min_7cf53_9 : decode cJ9_min_7cf53 9 = .ok (.iload_n 1, 1) := by decide +kernel
theorem dJ9_min_7cf53_10 : decode cJ9_min_7cf53 10 = .ok (.ireturn, 1) := by decide +kernel
theorem dJ9_min_f86c9_0 : decode cJ9_min_f86c9 0 = .ok (.lload_n 0, 1) := by decide +kernel
theorem dJ9_min_f86c9_1 : decode cJ9_min_f86c9 1 = .ok (.lload_n 2, 1) := by decide +kernel
theorem dJ9_min_f86c9_2 : decode cJ9_min_f86c9 2 = .ok (.lcmp, 1) := by decide +kernel
theorem dJ9_min_f86c9_3 : decode cJ9_min_f86c9 3 = .ok (.ifCond .gt 7, 3) := by decide +kernel
theorem dJ9_min_f86c9_6 : decode cJ9_min_f86c9 6 = .ok (.lload_n 0, 1) := by decide +kernel
theorem dJ9_min_f86c9_7 : decode cJ9_min_f86c9 7 = .ok (.goto 4, 3) := by decide +kernel
theorem dJ9_min_f86c9_10 : decode cJ9_min_f86c9 10 = .ok (.lload_n 2, 1) := by decide +kernel
theorem dJ9_min_f86c9_11 : decode cJ9_min_f86c9 11 = .ok (.lreturn, 1) := by decide +kernel
theorem dJxa1e45_init_da8c8_0 : decode cJxa1e45_init_da8c8 0 = .ok (.aload_n 0, 1) := by decide +kernel
theorem dJxa1e45_init_da8c8_1 : decode cJxa1e45_init_da8c8 1 = .ok (.invokespecial 1, 3) := by decide +kernel
theorem dJxa1e45_init_da8c8_4 : decode cJxa1e45_init_da8c8 4 = .ok (.return_, 1) := by decide +kernel
theorem dJxc12de_init_da8c8_0 : decode cJxc12de_init_da8c8 0 = .ok (.aload_n 0, 1) := by decide +kernel
theorem dJxc12de_init_da8c8_1 : decode cJxc12de_init_da8c8 1 = .ok (.invokespecial 1, 3) := by decide +kernel
theorem dJxc12de_init_da8c8_4 : decode cJxc12de_init_da8c8 4 = .ok (.aload_n 0, 1) := by decide +kernel
theorem dJxc12de_init_da8c8_5 : decode cJxc12de_init_da8c8 5 = .ok (.iconst 0, 1) := by decide +kernel
theorem dJxc12de_init_da8c8_6 : decode cJxc12de_init_da8c8 6 = .ok (.putfield 7, 3) := by decide +kernel
theorem dJxc12de_init_da8c8_9 : decode cJxc12de_init_da8c8 9 = .ok (.return_, 1) := by decide +kernel
theorem dJx4a65c_init_da8c8_0 : decode cJx4a65c_init_da8c8 0 = .ok (.aload_n 0, 1) := by decide +kernel
theorem dJx4a65c_init_da8c8_1 : decode cJx4a65c_init_da8c8 1 = .ok (.invokespecial 1, 3) := by decide +kernel
theorem dJx4a65c_init_da8c8_4 : decode cJx4a65c_init_da8c8 4 = .ok (.aload_n 0, 1) := by decide +kernel
theorem dJx4a65c_init_da8c8_5 : decode cJx4a65c_init_da8c8 5 = .ok (.getstatic 39, 3) := by decide +kernel
theorem dJx4a65c_init_da8c8_8 : decode cJx4a65c_init_da8c8 8 = .ok (.putfield 9, 3) := by decide +kernel
theorem dJx4a65c_init_da8c8_11 : decode cJx4a65c_init_da8c8 11 = .ok (.return_, 1) := by decide +kernel
theorem dJx4a65c_grow_92f84_0 : decode cJx4a65c_grow_92f84 0 = .ok (.aload_n 0, 1) := by decide +kernel
theorem dJx4a65c_grow_92f84_1 : decode cJx4a65c_grow_92f84 1 = .ok (.getfield 9, 3) := by decide +kernel
theorem dJx4a65c_grow_92f84_4 : decode cJx4a65c_grow_92f84 4 = .ok (.arraylength, 1) := by decide +kernel
theorem dJx4a65c_grow_92f84_5 : decode cJx4a65c_grow_92f84 5 = .ok (.istore_n 2, 1) := by decide +kernel
theorem dJx4a65c_grow_92f84_6 : decode cJx4a65c_grow_92f84 6 = .ok (.iload_n 2, 1) := by decide +kernel
theorem dJx4a65c_grow_92f84_7 : decode cJx4a65c_grow_92f84 7 = .ok (.ifCond .gt 13, 3) := by decide +kernel
theorem dJx4a65c_grow_92f84_10 : decode cJx4a65c_grow_92f84 10 = .ok (.aload_n 0, 1) := by decide +kernel
theorem dJx4a65c_grow_92f84_11 : decode cJx4a65c_grow_92f84 11 = .ok (.getfield 9, 3) := by decide +kernel
theorem dJx4a65c_grow_92f84_14 : decode cJx4a65c_grow_92f84 14 = .ok (.getstatic 39, 3) := by decide +kernel
theorem dJx4a65c_grow_92f84_17 : decode cJx4a65c_grow_92f84 17 = .ok (.if_acmp .eq 28, 3) := by decide +kernel
theorem dJx4a65c_grow_92f84_20 : decode cJx4a65c_grow_92f84 20 = .ok (.iload_n 2, 1) := by decide +kernel
theorem dJx4a65c_grow_92f84_21 : decode cJx4a65c_grow_92f84 21 = .ok (.iload_n 1, 1) := by decide +kernel
theorem dJx4a65c_grow_92f84_22 : decode cJx4a65c_grow_92f84 22 = .ok (.iload_n 2, 1) := by decide +kernel
theorem dJx4a65c_grow_92f84_23 : decode cJx4a65c_grow_92f84 23 = .ok (.isub, 1) := by decide +kernel
theorem dJx4a65c_grow_92f84_24 : decode cJx4a65c_grow_92f84 24 = .ok (.iload_n 2, 1) := by decide +kernel
theorem dJx4a65c_grow_92f84_25 : decode cJx4a65c_grow_92f84 25 = .ok (.iconst 1, 1) := by decide +kernel
theorem dJx4a65c_grow_92f84_26 : decode cJx4a65c_grow_92f84 26 = .ok (.ishr, 1) := by decide +kernel
theorem dJx4a65c_grow_92f84_27 : decode cJx4a65c_grow_92f84 27 = .ok (.invokestatic 73, 3) := by decide +kernel
theorem dJx4a65c_grow_92f84_30 : decode cJx4a65c_grow_92f84 30 = .ok (.istore_n 3, 1) := by decide +kernel
theorem dJx4a65c_grow_92f84_31 : decode cJx4a65c_grow_92f84 31 = .ok (.aload_n 0, 1) := by decide +kernel
theorem dJx4a65c_grow_92f84_32 : decode cJx4a65c_grow_92f84 32 = .ok (.aload_n 0, 1) := by decide +kernel
theorem dJx4a65c_grow_92f84_33 : decode cJx4a65c_grow_92f84 33 = .ok (.getfield 9, 3) := by decide +kernel
theorem dJx4a65c_grow_92f84_36 : decode cJx4a65c_grow_92f84 36 = .ok (.iload_n 3, 1) := by decide +kernel
theorem dJx4a65c_grow_92f84_37 : decode cJx4a65c_grow_92f84 37 = .ok (.invokestatic 66, 3) := by decide +kernel
theorem dJx4a65c_grow_92f84_40 : decode cJx4a65c_grow_92f84 40 = .ok (.dup_x1, 1) := by decide +kernel
theorem dJx4a65c_grow_92f84_41 : decode cJx4a65c_grow_92f84 41 = .ok (.putfield 9, 3) := by decide +kernel
theorem dJx4a65c_grow_92f84_44 : decode cJx4a65c_grow_92f84 44 = .ok (.areturn, 1) := by decide +kernel
theorem dJx4a65c_grow_92f84_45 : decode cJx4a65c_grow_92f84 45 = .ok (.aload_n 0, 1) := by decide +kernel
theorem dJx4a65c_grow_92f84_46 : decode cJx4a65c_grow_92f84 46 = .ok (.bipush 10, 2) := by decide +kernel
theorem dJx4a65c_grow_92f84_48 : decode cJx4a65c_grow_92f84 48 = .ok (.iload_n 1, 1) := by decide +kernel
theorem dJx4a65c_grow_92f84_49 : decode cJx4a65c_grow_92f84 49 = .ok (.invokestatic 79, 3) := by decide +kernel
theorem dJx4a65c_grow_92f84_52 : decode cJx4a65c_grow_92f84 52 = .ok (.anewarray 7, 3) := by decide +kernel
theorem dJx4a65c_grow_92f84_55 : decode cJx4a65c_grow_92f84 55 = .ok (.dup_x1, 1) := by decide +kernel
theorem dJx4a65c_grow_92f84_56 : decode cJx4a65c_grow_92f84 56 = .ok (.putfield 9, 3) := by decide +kernel
theorem dJx4a65c_grow_92f84_59 : decode cJx4a65c_grow_92f84 59 = .ok (.areturn, 1) := by decide +kernel
theorem dJx4a65c_grow_d5877_0 : decode cJx4a65c_grow_d5877 0 = .ok (.aload_n 0, 1) := by decide +kernel
theorem dJx4a65c_grow_d5877_1 : decode cJx4a65c_grow_d5877 1 = .ok (.aload_n 0, 1) := by decide +kernel
theorem dJx4a65c_grow_d5877_2 : decode cJx4a65c_grow_d5877 2 = .ok (.getfield 48, 3) := by decide +kernel
theorem dJx4a65c_grow_d5877_5 : decode cJx4a65c_grow_d5877 5 = .ok (.iconst 1, 1) := by decide +kernel
theorem dJx4a65c_grow_d5877_6 : decode cJx4a65c_grow_d5877 6 = .ok (.iadd, 1) := by decide +kernel
theorem dJx4a65c_grow_d5877_7 : decode cJx4a65c_grow_d5877 7 = .ok (.invokevirtual 69, 3) := by decide +kernel
theorem dJx4a65c_grow_d5877_10 : decode cJx4a65c_grow_d5877 10 = .ok (.areturn, 1) := by decide +kernel
theorem dJx4a65c_size_8abf5_0 : decode cJx4a65c_size_8abf5 0 = .ok (.aload_n 0, 1) := by decide +kernel
theorem dJx4a65c_size_8abf5_1 : decode cJx4a65c_size_8abf5 1 = .ok (.getfield 48, 3) := by decide +kernel
theorem dJx4a65c_size_8abf5_4 : decode cJx4a65c_size_8abf5 4 = .ok (.ireturn, 1) := by decide +kernel
theorem dJx4a65c_elementData_915e3_0 : decode cJx4a65c_elementData_915e3 0 = .ok (.aload_n 0, 1) := by decide +kernel
theorem dJx4a65c_elementData_915e3_1 : decode cJx4a65c_elementData_915e3 1 = .ok (.getfield 9, 3) := by decide +kernel
theorem dJx4a65c_elementData_915e3_4 : decode cJx4a65c_elementData_915e3 4 = .ok (.iload_n 1, 1) := by decide +kernel
theorem dJx4a65c_elementData_915e3_5 : decode cJx4a65c_elementData_915e3 5 = .ok (.aaload, 1) := by decide +kernel
theorem dJx4a65c_elementData_915e3_6 : decode cJx4a65c_elementData_915e3 6 = .ok (.areturn, 1) := by decide +kernel
theorem dJx4a65c_get_915e3_0 : decode cJx4a65c_get_915e3 0 = .ok (.iload_n 1, 1) := by decide +kernel
theorem dJx4a65c_get_915e3_1 : decode cJx4a65c_get_915e3 1 = .ok (.aload_n 0, 1) := by decide +kernel
theorem dJx4a65c_get_915e3_2 : decode cJx4a65c_get_915e3 2 = .ok (.getfield 48, 3) := by decide +kernel
theorem dJx4a65c_get_915e3_5 : decode cJx4a65c_get_915e3 5 = .ok (.invokestatic 118, 3) := by decide +kernel
theorem dJx4a65c_get_915e3_8 : decode cJx4a65c_get_915e3 8 = .ok (.pop, 1) := by decide +kernel
theorem dJx4a65c_get_915e3_9 : decode cJx4a65c_get_915e3 9 = .ok (.aload_n 0, 1) := by decide +kernel
theorem dJx4a65c_get_915e3_10 : decode cJx4a65c_get_915e3 10 = .ok (.iload_n 1, 1) := by decide +kernel
theorem dJx4a65c_get_915e3_11 : decode cJx4a65c_get_915e3 11 = .ok (.invokevirtual 123, 3) := by decide +kernel
theorem dJx4a65c_get_915e3_14 : decode cJx4a65c_get_915e3 14 = .ok (.areturn, 1) := by decide +kernel
theorem dJx4a65c_set_bcc79_0 : decode cJx4a65c_set_bcc79 0 = .ok (.iload_n 1, 1) := by decide +kernel
theorem dJx4a65c_set_bcc79_1 : decode cJx4a65c_set_bcc79 1 = .ok (.aload_n 0, 1) := by decide +kernel
theorem dJx4a65c_set_bcc79_2 : decode cJx4a65c_set_bcc79 2 = .ok (.getfield 48, 3) := by decide +kernel
theorem dJx4a65c_set_bcc79_5 : decode cJx4a65c_set_bcc79 5 = .ok (.invokestatic 118, 3) := by decide +kernel
theorem dJx4a65c_set_bcc79_8 : decode cJx4a65c_set_bcc79 8 = .ok (.pop, 1) := by decide +kernel
theorem dJx4a65c_set_bcc79_9 : decode cJx4a65c_set_bcc79 9 = .ok (.aload_n 0, 1) := by decide +kernel
theorem dJx4a65c_set_bcc79_10 : decode cJx4a65c_set_bcc79 10 = .ok (.iload_n 1, 1) := by decide +kernel
theorem dJx4a65c_set_bcc79_11 : decode cJx4a65c_set_bcc79 11 = .ok (.invokevirtual 123, 3) := by decide +kernel
theorem dJx4a65c_set_bcc79_14 : decode cJx4a65c_set_bcc79 14 = .ok (.astore_n 3, 1) := by decide +kernel
theorem dJx4a65c_set_bcc79_15 : decode cJx4a65c_set_bcc79 15 = .ok (.aload_n 0, 1) := by decide +kernel
theorem dJx4a65c_set_bcc79_16 : decode cJx4a65c_set_bcc79 16 = .ok (.getfield 9, 3) := by decide +kernel
theorem dJx4a65c_set_bcc79_19 : decode cJx4a65c_set_bcc79 19 = .ok (.iload_n 1, 1) := by decide +kernel
theorem dJx4a65c_set_bcc79_20 : decode cJx4a65c_set_bcc79 20 = .ok (.aload_n 2, 1) := by decide +kernel
theorem dJx4a65c_set_bcc79_21 : decode cJx4a65c_set_bcc79 21 = .ok (.aastore, 1) := by decide +kernel
theorem dJx4a65c_set_bcc79_22 : decode cJx4a65c_set_bcc79 22 = .ok (.aload_n 3, 1) := by decide +kernel
theorem dJx4a65c_set_bcc79_23 : decode cJx4a65c_set_bcc79 23 = .ok (.areturn, 1) := by decide +kernel
theorem dJx4a65c_add_72be8_0 : decode cJx4a65c_add_72be8 0 = .ok (.iload_n 3, 1) := by decide +kernel
theorem dJx4a65c_add_72be8_1 : decode cJx4a65c_add_72be8 1 = .ok (.aload_n 2, 1) := by decide +kernel
theorem dJx4a65c_add_72be8_2 : decode cJx4a65c_add_72be8 2 = .ok (.arraylength, 1) := by decide +kernel
theorem dJx4a65c_add_72be8_3 : decode cJx4a65c_add_72be8 3 = .ok (.if_icmp .ne 8, 3) := by decide +kernel
theorem dJx4a65c_add_72be8_6 : decode cJx4a65c_add_72be8 6 = .ok (.aload_n 0, 1) := by decide +kernel
theorem dJx4a65c_add_72be8_7 : decode cJx4a65c_add_72be8 7 = .ok (.invokevirtual 129, 3) := by decide +kernel
theorem dJx4a65c_add_72be8_10 : decode cJx4a65c_add_72be8 10 = .ok (.astore_n 2, 1) := by decide +kernel
theorem dJx4a65c_add_72be8_11 : decode cJx4a65c_add_72be8 11 = .ok (.aload_n 2, 1) := by decide +kernel
theorem dJx4a65c_add_72be8_12 : decode cJx4a65c_add_72be8 12 = .ok (.iload_n 3, 1) := by decide +kernel
theorem dJx4a65c_add_72be8_13 : decode cJx4a65c_add_72be8 13 = .ok (.aload_n 1, 1) := by decide +kernel
theorem dJx4a65c_add_72be8_14 : decode cJx4a65c_add_72be8 14 = .ok (.aastore, 1) := by decide +kernel
theorem dJx4a65c_add_72be8_15 : decode cJx4a65c_add_72be8 15 = .ok (.aload_n 0, 1) := by decide +kernel
theorem dJx4a65c_add_72be8_16 : decode cJx4a65c_add_72be8 16 = .ok (.iload_n 3, 1) := by decide +kernel
theorem dJx4a65c_add_72be8_17 : decode cJx4a65c_add_72be8 17 = .ok (.iconst 1, 1) := by decide +kernel
theorem dJx4a65c_add_72be8_18 : decode cJx4a65c_add_72be8 18 = .ok (.iadd, 1) := by decide +kernel
theorem dJx4a65c_add_72be8_19 : decode cJx4a65c_add_72be8 19 = .ok (.putfield 48, 3) := by decide +kernel
theorem dJx4a65c_add_72be8_22 : decode cJx4a65c_add_72be8 22 = .ok (.return_, 1) := by decide +kernel
theorem dJx4a65c_add_9ea2d_0 : decode cJx4a65c_add_9ea2d 0 = .ok (.aload_n 0, 1) := by decide +kernel
theorem dJx4a65c_add_9ea2d_1 : decode cJx4a65c_add_9ea2d 1 = .ok (.dup, 1) := by decide +kernel
theorem dJx4a65c_add_9ea2d_2 : decode cJx4a65c_add_9ea2d 2 = .ok (.getfield 63, 3) := by decide +kernel
theorem dJx4a65c_add_9ea2d_5 : decode cJx4a65c_add_9ea2d 5 = .ok (.iconst 1, 1) := by decide +kernel
theorem dJx4a65c_add_9ea2d_6 : decode cJx4a65c_add_9ea2d 6 = .ok (.iadd, 1) := by decide +kernel
theorem dJx4a65c_add_9ea2d_7 : decode cJx4a65c_add_9ea2d 7 = .ok (.putfield 63, 3) := by decide +kernel
theorem dJx4a65c_add_9ea2d_10 : decode cJx4a65c_add_9ea2d 10 = .ok (.aload_n 0, 1) := by decide +kernel
theorem dJx4a65c_add_9ea2d_11 : decode cJx4a65c_add_9ea2d 11 = .ok (.aload_n 1, 1) := by decide +kernel
theorem dJx4a65c_add_9ea2d_12 : decode cJx4a65c_add_9ea2d 12 = .ok (.aload_n 0, 1) := by decide +kernel
theorem dJx4a65c_add_9ea2d_13 : decode cJx4a65c_add_9ea2d 13 = .ok (.getfield 9, 3) := by decide +kernel
theorem dJx4a65c_add_9ea2d_16 : decode cJx4a65c_add_9ea2d 16 = .ok (.aload_n 0, 1) := by decide +kernel
theorem dJx4a65c_add_9ea2d_17 : decode cJx4a65c_add_9ea2d 17 = .ok (.getfield 48, 3) := by decide +kernel
theorem dJx4a65c_add_9ea2d_20 : decode cJx4a65c_add_9ea2d 20 = .ok (.invokevirtual 131, 3) := by decide +kernel
theorem dJx4a65c_add_9ea2d_23 : decode cJx4a65c_add_9ea2d 23 = .ok (.iconst 1, 1) := by decide +kernel
theorem dJx4a65c_add_9ea2d_24 : decode cJx4a65c_add_9ea2d 24 = .ok (.ireturn, 1) := by decide +kernel
theorem dJx4a65c_remove_915e3_0 : decode cJx4a65c_remove_915e3 0 = .ok (.iload_n 1, 1) := by decide +kernel
theorem dJx4a65c_remove_915e3_1 : decode cJx4a65c_remove_915e3 1 = .ok (.aload_n 0, 1) := by decide +kernel
theorem dJx4a65c_remove_915e3_2 : decode cJx4a65c_remove_915e3 2 = .ok (.getfield 48, 3) := by decide +kernel
theorem dJx4a65c_remove_915e3_5 : decode cJx4a65c_remove_915e3 5 = .ok (.invokestatic 118, 3) := by decide +kernel
theorem dJx4a65c_remove_915e3_8 : decode cJx4a65c_remove_915e3 8 = .ok (.pop, 1) := by decide +kernel
theorem dJx4a65c_remove_915e3_9 : decode cJx4a65c_remove_915e3 9 = .ok (.aload_n 0, 1) := by decide +kernel
theorem dJx4a65c_remove_915e3_10 : decode cJx4a65c_remove_915e3 10 = .ok (.getfield 9, 3) := by decide +kernel
theorem dJx4a65c_remove_915e3_13 : decode cJx4a65c_remove_915e3 13 = .ok (.astore_n 2, 1) := by decide +kernel
theorem dJx4a65c_remove_915e3_14 : decode cJx4a65c_remove_915e3 14 = .ok (.aload_n 2, 1) := by decide +kernel
theorem dJx4a65c_remove_915e3_15 : decode cJx4a65c_remove_915e3 15 = .ok (.iload_n 1, 1) := by decide +kernel
theorem dJx4a65c_remove_915e3_16 : decode cJx4a65c_remove_915e3 16 = .ok (.aaload, 1) := by decide +kernel
theorem dJx4a65c_remove_915e3_17 : decode cJx4a65c_remove_915e3 17 = .ok (.astore_n 3, 1) := by decide +kernel
theorem dJx4a65c_remove_915e3_18 : decode cJx4a65c_remove_915e3 18 = .ok (.aload_n 0, 1) := by decide +kernel
theorem dJx4a65c_remove_915e3_19 : decode cJx4a65c_remove_915e3 19 = .ok (.aload_n 2, 1) := by decide +kernel
theorem dJx4a65c_remove_915e3_20 : decode cJx4a65c_remove_915e3 20 = .ok (.iload_n 1, 1) := by decide +kernel
theorem dJx4a65c_remove_915e3_21 : decode cJx4a65c_remove_915e3 21 = .ok (.invokevirtual 144, 3) := by decide +kernel
theorem dJx4a65c_remove_915e3_24 : decode cJx4a65c_remove_915e3 24 = .ok (.aload_n 3, 1) := by decide +kernel
theorem dJx4a65c_remove_915e3_25 : decode cJx4a65c_remove_915e3 25 = .ok (.areturn, 1) := by decide +kernel
theorem dJx4a65c_fastRemove_b59b0_0 : decode cJx4a65c_fastRemove_b59b0 0 = .ok (.aload_n 0, 1) := by decide +kernel
theorem dJx4a65c_fastRemove_b59b0_1 : decode cJx4a65c_fastRemove_b59b0 1 = .ok (.dup, 1) := by decide +kernel
theorem dJx4a65c_fastRemove_b59b0_2 : decode cJx4a65c_fastRemove_b59b0 2 = .ok (.getfield 63, 3) := by decide +kernel
theorem dJx4a65c_fastRemove_b59b0_5 : decode cJx4a65c_fastRemove_b59b0 5 = .ok (.iconst 1, 1) := by decide +kernel
theorem dJx4a65c_fastRemove_b59b0_6 : decode cJx4a65c_fastRemove_b59b0 6 = .ok (.iadd, 1) := by decide +kernel
theorem dJx4a65c_fastRemove_b59b0_7 : decode cJx4a65c_fastRemove_b59b0 7 = .ok (.putfield 63, 3) := by decide +kernel
theorem dJx4a65c_fastRemove_b59b0_10 : decode cJx4a65c_fastRemove_b59b0 10 = .ok (.aload_n 0, 1) := by decide +kernel
theorem dJx4a65c_fastRemove_b59b0_11 : decode cJx4a65c_fastRemove_b59b0 11 = .ok (.getfield 48, 3) := by decide +kernel
theorem dJx4a65c_fastRemove_b59b0_14 : decode cJx4a65c_fastRemove_b59b0 14 = .ok (.iconst 1, 1) := by decide +kernel
theorem dJx4a65c_fastRemove_b59b0_15 : decode cJx4a65c_fastRemove_b59b0 15 = .ok (.isub, 1) := by decide +kernel
theorem dJx4a65c_fastRemove_b59b0_16 : decode cJx4a65c_fastRemove_b59b0 16 = .ok (.dup, 1) := by decide +kernel
theorem dJx4a65c_fastRemove_b59b0_17 : decode cJx4a65c_fastRemove_b59b0 17 = .ok (.istore_n 3, 1) := by decide +kernel
theorem dJx4a65c_fastRemove_b59b0_18 : decode cJx4a65c_fastRemove_b59b0 18 = .ok (.iload_n 2, 1) := by decide +kernel
theorem dJx4a65c_fastRemove_b59b0_19 : decode cJx4a65c_fastRemove_b59b0 19 = .ok (.if_icmp .le 15, 3) := by decide +kernel
theorem dJx4a65c_fastRemove_b59b0_22 : decode cJx4a65c_fastRemove_b59b0 22 = .ok (.aload_n 1, 1) := by decide +kernel
theorem dJx4a65c_fastRemove_b59b0_23 : decode cJx4a65c_fastRemove_b59b0 23 = .ok (.iload_n 2, 1) := by decide +kernel
theorem dJx4a65c_fastRemove_b59b0_24 : decode cJx4a65c_fastRemove_b59b0 24 = .ok (.iconst 1, 1) := by decide +kernel
theorem dJx4a65c_fastRemove_b59b0_25 : decode cJx4a65c_fastRemove_b59b0 25 = .ok (.iadd, 1) := by decide +kernel
theorem dJx4a65c_fastRemove_b59b0_26 : decode cJx4a65c_fastRemove_b59b0 26 = .ok (.aload_n 1, 1) := by decide +kernel
theorem dJx4a65c_fastRemove_b59b0_27 : decode cJx4a65c_fastRemove_b59b0 27 = .ok (.iload_n 2, 1) := by decide +kernel
theorem dJx4a65c_fastRemove_b59b0_28 : decode cJx4a65c_fastRemove_b59b0 28 = .ok (.iload_n 3, 1) := by decide +kernel
theorem dJx4a65c_fastRemove_b59b0_29 : decode cJx4a65c_fastRemove_b59b0 29 = .ok (.iload_n 2, 1) := by decide +kernel
theorem dJx4a65c_fastRemove_b59b0_30 : decode cJx4a65c_fastRemove_b59b0 30 = .ok (.isub, 1) := by decide +kernel
theorem dJx4a65c_fastRemove_b59b0_31 : decode cJx4a65c_fastRemove_b59b0 31 = .ok (.invokestatic 112, 3) := by decide +kernel
theorem dJx4a65c_fastRemove_b59b0_34 : decode cJx4a65c_fastRemove_b59b0 34 = .ok (.aload_n 1, 1) := by decide +kernel
theorem dJx4a65c_fastRemove_b59b0_35 : decode cJx4a65c_fastRemove_b59b0 35 = .ok (.aload_n 0, 1) := by decide +kernel
theorem dJx4a65c_fastRemove_b59b0_36 : decode cJx4a65c_fastRemove_b59b0 36 = .ok (.iload_n 3, 1) := by decide +kernel
theorem dJx4a65c_fastRemove_b59b0_37 : decode cJx4a65c_fastRemove_b59b0 37 = .ok (.dup_x1, 1) := by decide +kernel
theorem dJx4a65c_fastRemove_b59b0_38 : decode cJx4a65c_fastRemove_b59b0 38 = .ok (.putfield 48, 3) := by decide +kernel
theorem dJx4a65c_fastRemove_b59b0_41 : decode cJx4a65c_fastRemove_b59b0 41 = .ok (.aconst_null, 1) := by decide +kernel
theorem dJx4a65c_fastRemove_b59b0_42 : decode cJx4a65c_fastRemove_b59b0 42 = .ok (.aastore, 1) := by decide +kernel
theorem dJx4a65c_fastRemove_b59b0_43 : decode cJx4a65c_fastRemove_b59b0 43 = .ok (.return_, 1) := by decide +kernel
theorem dJ7_copyOf_1904c_0 : decode cJ7_copyOf_1904c 0 = .ok (.aload_n 0, 1) := by decide +kernel
theorem dJ7_copyOf_1904c_1 : decode cJ7_copyOf_1904c 1 = .ok (.iload_n 1, 1) := by decide +kernel
theorem dJ7_copyOf_1904c_2 : decode cJ7_copyOf_1904c 2 = .ok (.aload_n 0, 1) := by decide +kernel
theorem dJ7_copyOf_1904c_3 : decode cJ7_copyOf_1904c 3 = .ok (.invokevirtual 86, 3) := by decide +kernel
theorem dJ7_copyOf_1904c_6 : decode cJ7_copyOf_1904c 6 = .ok (.invokestatic 300, 3) := by decide +kernel
theorem dJ7_copyOf_1904c_9 : decode cJ7_copyOf_1904c 9 = .ok (.areturn, 1) := by decide +kernel
theorem dJ7_copyOf_6403c_0 : decode cJ7_copyOf_6403c 0 = .ok (.aload_n 2, 1) := by decide +kernel
theorem dJ7_copyOf_6403c_1 : decode cJ7_copyOf_6403c 1 = .ok (.ldc 110, 2) := by decide +kernel
theorem dJ7_copyOf_6403c_3 : decode cJ7_copyOf_6403c 3 = .ok (.if_acmp .ne 10, 3) := by decide +kernel
theorem dJ7_copyOf_6403c_6 : decode cJ7_copyOf_6403c 6 = .ok (.iload_n 1, 1) := by decide +kernel
theorem dJ7_copyOf_6403c_7 : decode cJ7_copyOf_6403c 7 = .ok (.anewarray 2, 3) := by decide +kernel
theorem dJ7_copyOf_6403c_10 : decode cJ7_copyOf_6403c 10 = .ok (.goto 14, 3) := by decide +kernel
theorem dJ7_copyOf_6403c_13 : decode cJ7_copyOf_6403c 13 = .ok (.aload_n 2, 1) := by decide +kernel
theorem dJ7_copyOf_6403c_14 : decode cJ7_copyOf_6403c 14 = .ok (.invokevirtual 90, 3) := by decide +kernel
theorem dJ7_copyOf_6403c_17 : decode cJ7_copyOf_6403c 17 = .ok (.iload_n 1, 1) := by decide +kernel
theorem dJ7_copyOf_6403c_18 : decode cJ7_copyOf_6403c 18 = .ok (.invokestatic 95, 3) := by decide +kernel
theorem dJ7_copyOf_6403c_21 : decode cJ7_copyOf_6403c 21 = .ok (.checkcast 110, 3) := by decide +kernel
theorem dJ7_copyOf_6403c_24 : decode cJ7_copyOf_6403c 24 = .ok (.astore_n 3, 1) := by decide +kernel
theorem dJ7_copyOf_6403c_25 : decode cJ7_copyOf_6403c 25 = .ok (.aload_n 0, 1) := by decide +kernel
theorem dJ7_copyOf_6403c_26 : decode cJ7_copyOf_6403c 26 = .ok (.iconst 0, 1) := by decide +kernel
theorem dJ7_copyOf_6403c_27 : decode cJ7_copyOf_6403c 27 = .ok (.aload_n 3, 1) := by decide +kernel
theorem dJ7_copyOf_6403c_28 : decode cJ7_copyOf_6403c 28 = .ok (.iconst 0, 1) := by decide +kernel
theorem dJ7_copyOf_6403c_29 : decode cJ7_copyOf_6403c 29 = .ok (.aload_n 0, 1) := by decide +kernel
theorem dJ7_copyOf_6403c_30 : decode cJ7_copyOf_6403c 30 = .ok (.arraylength, 1) := by decide +kernel
theorem dJ7_copyOf_6403c_31 : decode cJ7_copyOf_6403c 31 = .ok (.iload_n 1, 1) := by decide +kernel
theorem dJ7_copyOf_6403c_32 : decode cJ7_copyOf_6403c 32 = .ok (.invokestatic 304, 3) := by decide +kernel
theorem dJ7_copyOf_6403c_35 : decode cJ7_copyOf_6403c 35 = .ok (.invokestatic 150, 3) := by decide +kernel
theorem dJ7_copyOf_6403c_38 : decode cJ7_copyOf_6403c 38 = .ok (.aload_n 3, 1) := by decide +kernel
theorem dJ7_copyOf_6403c_39 : decode cJ7_copyOf_6403c 39 = .ok (.areturn, 1) := by decide +kernel
theorem dJ15_checkIndex_7cf53_0 : decode cJ15_checkIndex_7cf53 0 = .ok (.iload_n 0, 1) := by decide +kernel
theorem dJ15_checkIndex_7cf53_1 : decode cJ15_checkIndex_7cf53 1 = .ok (.iload_n 1, 1) := by decide +kernel
theorem dJ15_checkIndex_7cf53_2 : decode cJ15_checkIndex_7cf53 2 = .ok (.aconst_null, 1) := by decide +kernel
theorem dJ15_checkIndex_7cf53_3 : decode cJ15_checkIndex_7cf53 3 = .ok (.invokestatic 105, 3) := by decide +kernel
theorem dJ15_checkIndex_7cf53_6 : decode cJ15_checkIndex_7cf53 6 = .ok (.ireturn, 1) := by decide +kernel
theorem dJ8_newLength_cabcc_0 : decode cJ8_newLength_cabcc 0 = .ok (.iload_n 0, 1) := by decide +kernel
theorem dJ8_newLength_cabcc_1 : decode cJ8_newLength_cabcc 1 = .ok (.iload_n 1, 1) := by decide +kernel
theorem dJ8_newLength_cabcc_2 : decode cJ8_newLength_cabcc 2 = .ok (.iload_n 2, 1) := by decide +kernel
theorem dJ8_newLength_cabcc_3 : decode cJ8_newLength_cabcc 3 = .ok (.invokestatic 194, 3) := by decide +kernel
theorem dJ8_newLength_cabcc_6 : decode cJ8_newLength_cabcc 6 = .ok (.iadd, 1) := by decide +kernel
theorem dJ8_newLength_cabcc_7 : decode cJ8_newLength_cabcc 7 = .ok (.istore_n 3, 1) := by decide +kernel
theorem dJ8_newLength_cabcc_8 : decode cJ8_newLength_cabcc 8 = .ok (.iconst 0, 1) := by decide +kernel
theorem dJ8_newLength_cabcc_9 : decode cJ8_newLength_cabcc 9 = .ok (.iload_n 3, 1) := by decide +kernel
theorem dJ8_newLength_cabcc_10 : decode cJ8_newLength_cabcc 10 = .ok (.if_icmp .ge 11, 3) := by decide +kernel
theorem dJ8_newLength_cabcc_13 : decode cJ8_newLength_cabcc 13 = .ok (.iload_n 3, 1) := by decide +kernel
theorem dJ8_newLength_cabcc_14 : decode cJ8_newLength_cabcc 14 = .ok (.ldc 200, 2) := by decide +kernel
theorem dJ8_newLength_cabcc_16 : decode cJ8_newLength_cabcc 16 = .ok (.if_icmp .gt 5, 3) := by decide +kernel
theorem dJ8_newLength_cabcc_19 : decode cJ8_newLength_cabcc 19 = .ok (.iload_n 3, 1) := by decide +kernel
theorem dJ8_newLength_cabcc_20 : decode cJ8_newLength_cabcc 20 = .ok (.ireturn, 1) := by decide +kernel
theorem dJ8_newLength_cabcc_21 : decode cJ8_newLength_cabcc 21 = .ok (.iload_n 0, 1) := by decide +kernel
theorem dJ8_newLength_cabcc_22 : decode cJ8_newLength_cabcc 22 = .ok (.iload_n 1, 1) := by decide +kernel
theorem dJ8_newLength_cabcc_23 : decode cJ8_newLength_cabcc 23 = .ok (.invokestatic 201, 3) := by decide +kernel
theorem dJ8_newLength_cabcc_26 : decode cJ8_newLength_cabcc 26 = .ok (.ireturn, 1) := by decide +kernel
theorem dJ8_hugeLength_7cf53_0 : decode cJ8_hugeLength_7cf53 0 = .ok (.iload_n 0, 1) := by decide +kernel
theorem dJ8_hugeLength_7cf53_1 : decode cJ8_hugeLength_7cf53 1 = .ok (.iload_n 1, 1) := by decide +kernel
theorem dJ8_hugeLength_7cf53_2 : decode cJ8_hugeLength_7cf53 2 = .ok (.iadd, 1) := by decide +kernel
theorem dJ8_hugeLength_7cf53_3 : decode cJ8_hugeLength_7cf53 3 = .ok (.istore_n 2, 1) := by decide +kernel
theorem dJ8_hugeLength_7cf53_4 : decode cJ8_hugeLength_7cf53 4 = .ok (.iload_n 2, 1) := by decide +kernel
theorem dJ8_hugeLength_7cf53_5 : decode cJ8_hugeLength_7cf53 5 = .ok (.ifCond .ge 44, 3) := by decide +kernel
theorem dJ8_hugeLength_7cf53_8 : decode cJ8_hugeLength_7cf53 8 = .ok (.new 204, 3) := by decide +kernel
theorem dJ8_hugeLength_7cf53_11 : decode cJ8_hugeLength_7cf53 11 = .ok (.dup, 1) := by decide +kernel
theorem dJ8_hugeLength_7cf53_12 : decode cJ8_hugeLength_7cf53 12 = .ok (.new 89, 3) := by decide +kernel
theorem dJ8_hugeLength_7cf53_15 : decode cJ8_hugeLength_7cf53 15 = .ok (.dup, 1) := by decide +kernel
theorem dJ8_hugeLength_7cf53_16 : decode cJ8_hugeLength_7cf53 16 = .ok (.invokespecial 91, 3) := by decide +kernel
theorem dJ8_hugeLength_7cf53_19 : decode cJ8_hugeLength_7cf53 19 = .ok (.ldc 206, 2) := by decide +kernel
theorem dJ8_hugeLength_7cf53_21 : decode cJ8_hugeLength_7cf53 21 = .ok (.invokevirtual 94, 3) := by decide +kernel
theorem dJ8_hugeLength_7cf53_24 : decode cJ8_hugeLength_7cf53 24 = .ok (.iload_n 0, 1) := by decide +kernel
theorem dJ8_hugeLength_7cf53_25 : decode cJ8_hugeLength_7cf53 25 = .ok (.invokevirtual 98, 3) := by decide +kernel
theorem dJ8_hugeLength_7cf53_28 : decode cJ8_hugeLength_7cf53 28 = .ok (.ldc 208, 2) := by decide +kernel
theorem dJ8_hugeLength_7cf53_30 : decode cJ8_hugeLength_7cf53 30 = .ok (.invokevirtual 94, 3) := by decide +kernel
theorem dJ8_hugeLength_7cf53_33 : decode cJ8_hugeLength_7cf53 33 = .ok (.iload_n 1, 1) := by decide +kernel
theorem dJ8_hugeLength_7cf53_34 : decode cJ8_hugeLength_7cf53 34 = .ok (.invokevirtual 98, 3) := by decide +kernel
theorem dJ8_hugeLength_7cf53_37 : decode cJ8_hugeLength_7cf53 37 = .ok (.ldc 210, 2) := by decide +kernel
theorem dJ8_hugeLength_7cf53_39 : decode cJ8_hugeLength_7cf53 39 = .ok (.invokevirtual 94, 3) := by decide +kernel
theorem dJ8_hugeLength_7cf53_42 : decode cJ8_hugeLength_7cf53 42 = .ok (.invokevirtual 101, 3) := by decide +kernel
theorem dJ8_hugeLength_7cf53_45 : decode cJ8_hugeLength_7cf53 45 = .ok (.invokespecial 212, 3) := by decide +kernel
theorem dJ8_hugeLength_7cf53_48 : decode cJ8_hugeLength_7cf53 48 = .ok (.athrow, 1) := by decide +kernel
theorem dJ8_hugeLength_7cf53_49 : decode cJ8_hugeLength_7cf53 49 = .ok (.iload_n 2, 1) := by decide +kernel
theorem dJ8_hugeLength_7cf53_50 : decode cJ8_hugeLength_7cf53 50 = .ok (.ldc 200, 2) := by decide +kernel
theorem dJ8_hugeLength_7cf53_52 : decode cJ8_hugeLength_7cf53 52 = .ok (.if_icmp .gt 6, 3) := by decide +kernel
theorem dJ8_hugeLength_7cf53_55 : decode cJ8_hugeLength_7cf53 55 = .ok (.ldc 200, 2) := by decide +kernel
theorem dJ8_hugeLength_7cf53_57 : decode cJ8_hugeLength_7cf53 57 = .ok (.ireturn, 1) := by decide +kernel
theorem dJ8_hugeLength_7cf53_58 : decode cJ8_hugeLength_7cf53 58 = .ok (.iload_n 2, 1) := by decide +kernel
theorem dJ8_hugeLength_7cf53_59 : decode cJ8_hugeLength_7cf53 59 = .ok (.ireturn, 1) := by decide +kernel
theorem dJ3_checkIndex_8e157_0 : decode cJ3_checkIndex_8e157 0 = .ok (.iload_n 0, 1) := by decide +kernel
theorem dJ3_checkIndex_8e157_1 : decode cJ3_checkIndex_8e157 1 = .ok (.ifCond .lt 8, 3) := by decide +kernel
theorem dJ3_checkIndex_8e157_4 : decode cJ3_checkIndex_8e157 4 = .ok (.iload_n 0, 1) := by decide +kernel
theorem dJ3_checkIndex_8e157_5 : decode cJ3_checkIndex_8e157 5 = .ok (.iload_n 1, 1) := by decide +kernel
theorem dJ3_checkIndex_8e157_6 : decode cJ3_checkIndex_8e157 6 = .ok (.if_icmp .lt 10, 3) := by decide +kernel
theorem dJ3_checkIndex_8e157_9 : decode cJ3_checkIndex_8e157 9 = .ok (.aload_n 2, 1) := by decide +kernel
theorem dJ3_checkIndex_8e157_10 : decode cJ3_checkIndex_8e157 10 = .ok (.iload_n 0, 1) := by decide +kernel
theorem dJ3_checkIndex_8e157_11 : decode cJ3_checkIndex_8e157 11 = .ok (.iload_n 1, 1) := by decide +kernel
theorem dJ3_checkIndex_8e157_12 : decode cJ3_checkIndex_8e157 12 = .ok (.invokestatic 95, 3) := by decide +kernel
theorem dJ3_checkIndex_8e157_15 : decode cJ3_checkIndex_8e157 15 = .ok (.athrow, 1) := by decide +kernel
theorem dJ3_checkIndex_8e157_16 : decode cJ3_checkIndex_8e157 16 = .ok (.iload_n 0, 1) := by decide +kernel
theorem dJ3_checkIndex_8e157_17 : decode cJ3_checkIndex_8e157 17 = .ok (.ireturn, 1) := by decide +kernel
