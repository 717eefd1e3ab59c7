theorem dX6_init_0 : decode cX6_init 0 = .ok (.aload_n 0, 1) := by decide +kernel
theorem dX6_init_1 : decode cX6_init 1 = .ok (.invokespecial 1, 3) := by decide +kernel
theorem dX6_init_4 : decode cX6_init 4 = .ok (.aload_n 0, 1) := by decide +kernel
theorem dX6_init_5 : decode cX6_init 5 = .ok (.bipush 100, 2) := by decide +kernel
theorem dX6_init_7 : decode cX6_init 7 = .ok (.newarray .int, 2) := by decide +kernel
theorem dX6_init_9 : decode cX6_init 9 = .ok (.putfield 7, 3) := by decide +kernel
theorem dX6_init_12 : decode cX6_init 12 = .ok (.aload_n 0, 1) := by decide +kernel
theorem dX6_init_13 : decode cX6_init 13 = .ok (.sipush 400, 3) := by decide +kernel
theorem dX6_init_16 : decode cX6_init 16 = .ok (.newarray .int, 2) := by decide +kernel
theorem dX6_init_18 : decode cX6_init 18 = .ok (.putfield 13, 3) := by decide +kernel
theorem dX6_init_21 : decode cX6_init 21 = .ok (.aload_n 0, 1) := by decide +kernel
theorem dX6_init_22 : decode cX6_init 22 = .ok (.bipush 100, 2) := by decide +kernel
theorem dX6_init_24 : decode cX6_init 24 = .ok (.newarray .int, 2) := by decide +kernel
theorem dX6_init_26 : decode cX6_init 26 = .ok (.putfield 16, 3) := by decide +kernel
theorem dX6_init_29 : decode cX6_init 29 = .ok (.aload_n 0, 1) := by decide +kernel
theorem dX6_init_30 : decode cX6_init 30 = .ok (.bipush 100, 2) := by decide +kernel
theorem dX6_init_32 : decode cX6_init 32 = .ok (.newarray .int, 2) := by decide +kernel
theorem dX6_init_34 : decode cX6_init 34 = .ok (.putfield 19, 3) := by decide +kernel
theorem dX6_init_37 : decode cX6_init 37 = .ok (.aload_n 0, 1) := by decide +kernel
theorem dX6_init_38 : decode cX6_init 38 = .ok (.iconst 2, 1) := by decide +kernel
theorem dX6_init_39 : decode cX6_init 39 = .ok (.newarray .long, 2) := by decide +kernel
theorem dX6_init_41 : decode cX6_init 41 = .ok (.putfield 22, 3) := by decide +kernel
theorem dX6_init_44 : decode cX6_init 44 = .ok (.aload_n 0, 1) := by decide +kernel
theorem dX6_init_45 : decode cX6_init 45 = .ok (.bipush 8, 2) := by decide +kernel
theorem dX6_init_47 : decode cX6_init 47 = .ok (.newarray .long, 2) := by decide +kernel
theorem dX6_init_49 : decode cX6_init 49 = .ok (.putfield 26, 3) := by decide +kernel
theorem dX6_init_52 : decode cX6_init 52 = .ok (.aload_n 0, 1) := by decide +kernel
theorem dX6_init_53 : decode cX6_init 53 = .ok (.iconst 2, 1) := by decide +kernel
theorem dX6_init_54 : decode cX6_init 54 = .ok (.newarray .long, 2) := by decide +kernel
theorem dX6_init_56 : decode cX6_init 56 = .ok (.putfield 29, 3) := by decide +kernel
theorem dX6_init_59 : decode cX6_init 59 = .ok (.aload_n 0, 1) := by decide +kernel
theorem dX6_init_60 : decode cX6_init 60 = .ok (.iconst 2, 1) := by decide +kernel
theorem dX6_init_61 : decode cX6_init 61 = .ok (.newarray .long, 2) := by decide +kernel
theorem dX6_init_63 : decode cX6_init 63 = .ok (.putfield 32, 3) := by decide +kernel
theorem dX6_init_66 : decode cX6_init 66 = .ok (.aload_n 0, 1) := by decide +kernel
theorem dX6_init_67 : decode cX6_init 67 = .ok (.bipush 60, 2) := by decide +kernel
theorem dX6_init_69 : decode cX6_init 69 = .ok (.newarray .int, 2) := by decide +kernel
theorem dX6_init_71 : decode cX6_init 71 = .ok (.putfield 35, 3) := by decide +kernel
theorem dX6_init_74 : decode cX6_init 74 = .ok (.aload_n 0, 1) := by decide +kernel
theorem dX6_init_75 : decode cX6_init 75 = .ok (.iconst 2, 1) := by decide +kernel
theorem dX6_init_76 : decode cX6_init 76 = .ok (.newarray .int, 2) := by decide +kernel
theorem dX6_init_78 : decode cX6_init 78 = .ok (.putfield 38, 3) := by decide +kernel
theorem dX6_init_81 : decode cX6_init 81 = .ok (.aload_n 0, 1) := by decide +kernel
theorem dX6_init_82 : decode cX6_init 82 = .ok (.iconst 5, 1) := by decide +kernel
theorem dX6_init_83 : decode cX6_init 83 = .ok (.newarray .int, 2) := by decide +kernel
theorem dX6_init_85 : decode cX6_init 85 = .ok (.putfield 41, 3) := by decide +kernel
theorem dX6_init_88 : decode cX6_init 88 = .ok (.aload_n 0, 1) := by decide +kernel
theorem dX6_init_89 : decode cX6_init 89 = .ok (.iconst 5, 1) := by decide +kernel
theorem dX6_init_90 : decode cX6_init 90 = .ok (.newarray .int, 2) := by decide +kernel
theorem dX6_init_92 : decode cX6_init 92 = .ok (.putfield 44, 3) := by decide +kernel
theorem dX6_init_95 : decode cX6_init 95 = .ok (.aload_n 0, 1) := by decide +kernel
theorem dX6_init_96 : decode cX6_init 96 = .ok (.bipush 32, 2) := by decide +kernel
theorem dX6_init_98 : decode cX6_init 98 = .ok (.newarray .long, 2) := by decide +kernel
theorem dX6_init_100 : decode cX6_init 100 = .ok (.putfield 47, 3) := by decide +kernel
theorem dX6_init_103 : decode cX6_init 103 = .ok (.aload_n 0, 1) := by decide +kernel
theorem dX6_init_104 : decode cX6_init 104 = .ok (.bipush 124, 2) := by decide +kernel
theorem dX6_init_106 : decode cX6_init 106 = .ok (.newarray .int, 2) := by decide +kernel
theorem dX6_init_108 : decode cX6_init 108 = .ok (.putfield 50, 3) := by decide +kernel
theorem dX6_init_111 : decode cX6_init 111 = .ok (.iconst 0, 1) := by decide +kernel
theorem dX6_init_112 : decode cX6_init 112 = .ok (.istore_n 1, 1) := by decide +kernel
theorem dX6_init_113 : decode cX6_init 113 = .ok (.iload_n 1, 1) := by decide +kernel
theorem dX6_init_114 : decode cX6_init 114 = .ok (.iconst 5, 1) := by decide +kernel
theorem dX6_init_115 : decode cX6_init 115 = .ok (.if_icmp .ge 29, 3) := by decide +kernel
theorem dX6_init_118 : decode cX6_init 118 = .ok (.aload_n 0, 1) := by decide +kernel
theorem dX6_init_119 : decode cX6_init 119 = .ok (.getfield 7, 3) := by decide +kernel
theorem dX6_init_122 : decode cX6_init 122 = .ok (.iconst 0, 1) := by decide +kernel
theorem dX6_init_123 : decode cX6_init 123 = .ok (.iload_n 1, 1) := by decide +kernel
theorem dX6_init_124 : decode cX6_init 124 = .ok (.iadd, 1) := by decide +kernel
theorem dX6_init_125 : decode cX6_init 125 = .ok (.bipush 10, 2) := by decide +kernel
theorem dX6_init_127 : decode cX6_init 127 = .ok (.iastore, 1) := by decide +kernel
theorem dX6_init_128 : decode cX6_init 128 = .ok (.aload_n 0, 1) := by decide +kernel
theorem dX6_init_129 : decode cX6_init 129 = .ok (.getfield 7, 3) := by decide +kernel
theorem dX6_init_132 : decode cX6_init 132 = .ok (.iconst 5, 1) := by decide +kernel
theorem dX6_init_133 : decode cX6_init 133 = .ok (.iload_n 1, 1) := by decide +kernel
theorem dX6_init_134 : decode cX6_init 134 = .ok (.iadd, 1) := by decide +kernel
theorem dX6_init_135 : decode cX6_init 135 = .ok (.bipush 10, 2) := by decide +kernel
theorem dX6_init_137 : decode cX6_init 137 = .ok (.iastore, 1) := by decide +kernel
theorem dX6_init_138 : decode cX6_init 138 = .ok (.iinc 1 1, 3) := by decide +kernel
theorem dX6_init_141 : decode cX6_init 141 = .ok (.goto (-28), 3) := by decide +kernel
theorem dX6_init_144 : decode cX6_init 144 = .ok (.iconst 0, 1) := by decide +kernel
theorem dX6_init_145 : decode cX6_init 145 = .ok (.istore_n 1, 1) := by decide +kernel
theorem dX6_init_146 : decode cX6_init 146 = .ok (.iload_n 1, 1) := by decide +kernel
theorem dX6_init_147 : decode cX6_init 147 = .ok (.bipush 25, 2) := by decide +kernel
theorem dX6_init_149 : decode cX6_init 149 = .ok (.if_icmp .ge 20, 3) := by decide +kernel
theorem dX6_init_152 : decode cX6_init 152 = .ok (.aload_n 0, 1) := by decide +kernel
theorem dX6_init_153 : decode cX6_init 153 = .ok (.getfield 7, 3) := by decide +kernel
theorem dX6_init_156 : decode cX6_init 156 = .ok (.bipush 10, 2) := by decide +kernel
theorem dX6_init_158 : decode cX6_init 158 = .ok (.iload_n 1, 1) := by decide +kernel
theorem dX6_init_159 : decode cX6_init 159 = .ok (.iadd, 1) := by decide +kernel
theorem dX6_init_160 : decode cX6_init 160 = .ok (.bipush 100, 2) := by decide +kernel
theorem dX6_init_162 : decode cX6_init 162 = .ok (.iastore, 1) := by decide +kernel
theorem dX6_init_163 : decode cX6_init 163 = .ok (.iinc 1 1, 3) := by decide +kernel
theorem dX6_init_166 : decode cX6_init 166 = .ok (.goto (-20), 3) := by decide +kernel
theorem dX6_init_169 : decode cX6_init 169 = .ok (.aload_n 0, 1) := by decide +kernel
theorem dX6_init_170 : decode cX6_init 170 = .ok (.getfield 7, 3) := by decide +kernel
theorem dX6_init_173 : decode cX6_init 173 = .ok (.bipush 35, 2) := by decide +kernel
theorem dX6_init_175 : decode cX6_init 175 = .ok (.sipush 200, 3) := by decide +kernel
theorem dX6_init_178 : decode cX6_init 178 = .ok (.iastore, 1) := by decide +kernel
theorem dX6_init_179 : decode cX6_init 179 = .ok (.return_, 1) := by decide +kernel
theorem dX6_in_0 : decode cX6_in 0 = .ok (.iload_n 0, 1) := by decide +kernel
theorem dX6_in_1 : decode cX6_in 1 = .ok (.iload_n 1, 1) := by decide +kernel
theorem dX6_in_2 : decode cX6_in 2 = .ok (.if_icmp .lt 12, 3) := by decide +kernel
theorem dX6_in_5 : decode cX6_in 5 = .ok (.iload_n 0, 1) := by decide +kernel
theorem dX6_in_6 : decode cX6_in 6 = .ok (.iload_n 2, 1) := by decide +kernel
theorem dX6_in_7 : decode cX6_in 7 = .ok (.if_icmp .gt 7, 3) := by decide +kernel
theorem dX6_in_10 : decode cX6_in 10 = .ok (.iconst 1, 1) := by decide +kernel
theorem dX6_in_11 : decode cX6_in 11 = .ok (.goto 4, 3) := by decide +kernel
theorem dX6_in_14 : decode cX6_in 14 = .ok (.iconst 0, 1) := by decide +kernel
theorem dX6_in_15 : decode cX6_in 15 = .ok (.ireturn, 1) := by decide +kernel
theorem dX6_cut_0 : decode cX6_cut 0 = .ok (.lload_n 0, 1) := by decide +kernel
theorem dX6_cut_1 : decode cX6_cut 1 = .ok (.ldc2_w 53, 3) := by decide +kernel
theorem dX6_cut_4 : decode cX6_cut 4 = .ok (.lcmp, 1) := by decide +kernel
theorem dX6_cut_5 : decode cX6_cut 5 = .ok (.ifCond .le 9, 3) := by decide +kernel
theorem dX6_cut_8 : decode cX6_cut 8 = .ok (.ldc2_w 53, 3) := by decide +kernel
theorem dX6_cut_11 : decode cX6_cut 11 = .ok (.goto 4, 3) := by decide +kernel
theorem dX6_cut_14 : decode cX6_cut 14 = .ok (.lload_n 0, 1) := by decide +kernel
theorem dX6_cut_15 : decode cX6_cut 15 = .ok (.l2i, 1) := by decide +kernel
theorem dX6_cut_16 : decode cX6_cut 16 = .ok (.ireturn, 1) := by decide +kernel
theorem dX6_changes_0 : decode cX6_changes 0 = .ok (.aload_n 0, 1) := by decide +kernel
theorem dX6_changes_1 : decode cX6_changes 1 = .ok (.getfield 55, 3) := by decide +kernel
theorem dX6_changes_4 : decode cX6_changes 4 = .ok (.ifCond .eq 4, 3) := by decide +kernel
theorem dX6_changes_7 : decode cX6_changes 7 = .ok (.return_, 1) := by decide +kernel
theorem dX6_changes_8 : decode cX6_changes 8 = .ok (.aload_n 0, 1) := by decide +kernel
theorem dX6_changes_9 : decode cX6_changes 9 = .ok (.getfield 59, 3) := by decide +kernel
theorem dX6_changes_12 : decode cX6_changes 12 = .ok (.iconst 4, 1) := by decide +kernel
theorem dX6_changes_13 : decode cX6_changes 13 = .ok (.if_icmp .ne 71, 3) := by decide +kernel
theorem dX6_changes_16 : decode cX6_changes 16 = .ok (.iconst 0, 1) := by decide +kernel
theorem dX6_changes_17 : decode cX6_changes 17 = .ok (.istore_n 1, 1) := by decide +kernel
theorem dX6_changes_18 : decode cX6_changes 18 = .ok (.iload_n 1, 1) := by decide +kernel
theorem dX6_changes_19 : decode cX6_changes 19 = .ok (.sipush 300, 3) := by decide +kernel
theorem dX6_changes_22 : decode cX6_changes 22 = .ok (.if_icmp .ge 24, 3) := by decide +kernel
theorem dX6_changes_25 : decode cX6_changes 25 = .ok (.aload_n 0, 1) := by decide +kernel
theorem dX6_changes_26 : decode cX6_changes 26 = .ok (.getfield 13, 3) := by decide +kernel
theorem dX6_changes_29 : decode cX6_changes 29 = .ok (.iload_n 1, 1) := by decide +kernel
theorem dX6_changes_30 : decode cX6_changes 30 = .ok (.aload_n 0, 1) := by decide +kernel
theorem dX6_changes_31 : decode cX6_changes 31 = .ok (.getfield 13, 3) := by decide +kernel
theorem dX6_changes_34 : decode cX6_changes 34 = .ok (.iload_n 1, 1) := by decide +kernel
theorem dX6_changes_35 : decode cX6_changes 35 = .ok (.bipush 100, 2) := by decide +kernel
theorem dX6_changes_37 : decode cX6_changes 37 = .ok (.iadd, 1) := by decide +kernel
theorem dX6_changes_38 : decode cX6_changes 38 = .ok (.iaload, 1) := by decide +kernel
theorem dX6_changes_39 : decode cX6_changes 39 = .ok (.iastore, 1) := by decide +kernel
theorem dX6_changes_40 : decode cX6_changes 40 = .ok (.iinc 1 1, 3) := by decide +kernel
theorem dX6_changes_43 : decode cX6_changes 43 = .ok (.goto (-25), 3) := by decide +kernel
theorem dX6_changes_46 : decode cX6_changes 46 = .ok (.iconst 0, 1) := by decide +kernel
theorem dX6_changes_47 : decode cX6_changes 47 = .ok (.istore_n 1, 1) := by decide +kernel
theorem dX6_changes_48 : decode cX6_changes 48 = .ok (.iload_n 1, 1) := by decide +kernel
theorem dX6_changes_49 : decode cX6_changes 49 = .ok (.bipush 6, 2) := by decide +kernel
theorem dX6_changes_51 : decode cX6_changes 51 = .ok (.if_icmp .ge 23, 3) := by decide +kernel
theorem dX6_changes_54 : decode cX6_changes 54 = .ok (.aload_n 0, 1) := by decide +kernel
theorem dX6_changes_55 : decode cX6_changes 55 = .ok (.getfield 26, 3) := by decide +kernel
theorem dX6_changes_58 : decode cX6_changes 58 = .ok (.iload_n 1, 1) := by decide +kernel
theorem dX6_changes_59 : decode cX6_changes 59 = .ok (.aload_n 0, 1) := by decide +kernel
theorem dX6_changes_60 : decode cX6_changes 60 = .ok (.getfield 26, 3) := by decide +kernel
theorem dX6_changes_63 : decode cX6_changes 63 = .ok (.iload_n 1, 1) := by decide +kernel
theorem dX6_changes_64 : decode cX6_changes 64 = .ok (.iconst 2, 1) := by decide +kernel
theorem dX6_changes_65 : decode cX6_changes 65 = .ok (.iadd, 1) := by decide +kernel
theorem dX6_changes_66 : decode cX6_changes 66 = .ok (.laload, 1) := by decide +kernel
theorem dX6_changes_67 : decode cX6_changes 67 = .ok (.lastore, 1) := by decide +kernel
theorem dX6_changes_68 : decode cX6_changes 68 = .ok (.iinc 1 1, 3) := by decide +kernel
theorem dX6_changes_71 : decode cX6_changes 71 = .ok (.goto (-23), 3) := by decide +kernel
theorem dX6_changes_74 : decode cX6_changes 74 = .ok (.aload_n 0, 1) := by decide +kernel
theorem dX6_changes_75 : decode cX6_changes 75 = .ok (.dup, 1) := by decide +kernel
theorem dX6_changes_76 : decode cX6_changes 76 = .ok (.getfield 59, 3) := by decide +kernel
theorem dX6_changes_79 : decode cX6_changes 79 = .ok (.iconst 1, 1) := by decide +kernel
theorem dX6_changes_80 : decode cX6_changes 80 = .ok (.isub, 1) := by decide +kernel
theorem dX6_changes_81 : decode cX6_changes 81 = .ok (.putfield 59, 3) := by decide +kernel
theorem dX6_changes_84 : decode cX6_changes 84 = .ok (.iconst 0, 1) := by decide +kernel
theorem dX6_changes_85 : decode cX6_changes 85 = .ok (.istore_n 1, 1) := by decide +kernel
theorem dX6_changes_86 : decode cX6_changes 86 = .ok (.iload_n 1, 1) := by decide +kernel
theorem dX6_changes_87 : decode cX6_changes 87 = .ok (.bipush 100, 2) := by decide +kernel
theorem dX6_changes_89 : decode cX6_changes 89 = .ok (.if_icmp .ge 29, 3) := by decide +kernel
theorem dX6_changes_92 : decode cX6_changes 92 = .ok (.aload_n 0, 1) := by decide +kernel
theorem dX6_changes_93 : decode cX6_changes 93 = .ok (.getfield 13, 3) := by decide +kernel
theorem dX6_changes_96 : decode cX6_changes 96 = .ok (.bipush 100, 2) := by decide +kernel
theorem dX6_changes_98 : decode cX6_changes 98 = .ok (.aload_n 0, 1) := by decide +kernel
theorem dX6_changes_99 : decode cX6_changes 99 = .ok (.getfield 59, 3) := by decide +kernel
theorem dX6_changes_102 : decode cX6_changes 102 = .ok (.imul, 1) := by decide +kernel
theorem dX6_changes_103 : decode cX6_changes 103 = .ok (.iload_n 1, 1) := by decide +kernel
theorem dX6_changes_104 : decode cX6_changes 104 = .ok (.iadd, 1) := by decide +kernel
theorem dX6_changes_105 : decode cX6_changes 105 = .ok (.aload_n 0, 1) := by decide +kernel
theorem dX6_changes_106 : decode cX6_changes 106 = .ok (.getfield 7, 3) := by decide +kernel
theorem dX6_changes_109 : decode cX6_changes 109 = .ok (.iload_n 1, 1) := by decide +kernel
theorem dX6_changes_110 : decode cX6_changes 110 = .ok (.iaload, 1) := by decide +kernel
theorem dX6_changes_111 : decode cX6_changes 111 = .ok (.iastore, 1) := by decide +kernel
theorem dX6_changes_112 : decode cX6_changes 112 = .ok (.iinc 1 1, 3) := by decide +kernel
theorem dX6_changes_115 : decode cX6_changes 115 = .ok (.goto (-29), 3) := by decide +kernel
theorem dX6_changes_118 : decode cX6_changes 118 = .ok (.aload_n 0, 1) := by decide +kernel
theorem dX6_changes_119 : decode cX6_changes 119 = .ok (.getfield 26, 3) := by decide +kernel
theorem dX6_changes_122 : decode cX6_changes 122 = .ok (.iconst 2, 1) := by decide +kernel
theorem dX6_changes_123 : decode cX6_changes 123 = .ok (.aload_n 0, 1) := by decide +kernel
theorem dX6_changes_124 : decode cX6_changes 124 = .ok (.getfield 59, 3) := by decide +kernel
theorem dX6_changes_127 : decode cX6_changes 127 = .ok (.imul, 1) := by decide +kernel
theorem dX6_changes_128 : decode cX6_changes 128 = .ok (.aload_n 0, 1) := by decide +kernel
theorem dX6_changes_129 : decode cX6_changes 129 = .ok (.getfield 22, 3) := by decide +kernel
theorem dX6_changes_132 : decode cX6_changes 132 = .ok (.iconst 0, 1) := by decide +kernel
theorem dX6_changes_133 : decode cX6_changes 133 = .ok (.laload, 1) := by decide +kernel
theorem dX6_changes_134 : decode cX6_changes 134 = .ok (.lastore, 1) := by decide +kernel
theorem dX6_changes_135 : decode cX6_changes 135 = .ok (.aload_n 0, 1) := by decide +kernel
theorem dX6_changes_136 : decode cX6_changes 136 = .ok (.getfield 26, 3) := by decide +kernel
theorem dX6_changes_139 : decode cX6_changes 139 = .ok (.iconst 2, 1) := by decide +kernel
theorem dX6_changes_140 : decode cX6_changes 140 = .ok (.aload_n 0, 1) := by decide +kernel
theorem dX6_changes_141 : decode cX6_changes 141 = .ok (.getfield 59, 3) := by decide +kernel
theorem dX6_changes_144 : decode cX6_changes 144 = .ok (.imul, 1) := by decide +kernel
theorem dX6_changes_145 : decode cX6_changes 145 = .ok (.iconst 1, 1) := by decide +kernel
theorem dX6_changes_146 : decode cX6_changes 146 = .ok (.iadd, 1) := by decide +kernel
theorem dX6_changes_147 : decode cX6_changes 147 = .ok (.aload_n 0, 1) := by decide +kernel
theorem dX6_changes_148 : decode cX6_changes 148 = .ok (.getfield 22, 3) := by decide +kernel
theorem dX6_changes_151 : decode cX6_changes 151 = .ok (.iconst 1, 1) := by decide +kernel
theorem dX6_changes_152 : decode cX6_changes 152 = .ok (.laload, 1) := by decide +kernel
theorem dX6_changes_153 : decode cX6_changes 153 = .ok (.lastore, 1) := by decide +kernel
theorem dX6_changes_154 : decode cX6_changes 154 = .ok (.aload_n 0, 1) := by decide +kernel
theorem dX6_changes_155 : decode cX6_changes 155 = .ok (.dup, 1) := by decide +kernel
theorem dX6_changes_156 : decode cX6_changes 156 = .ok (.getfield 59, 3) := by decide +kernel
theorem dX6_changes_159 : decode cX6_changes 159 = .ok (.iconst 1, 1) := by decide +kernel
theorem dX6_changes_160 : decode cX6_changes 160 = .ok (.iadd, 1) := by decide +kernel
theorem dX6_changes_161 : decode cX6_changes 161 = .ok (.putfield 59, 3) := by decide +kernel
theorem dX6_changes_164 : decode cX6_changes 164 = .ok (.return_, 1) := by decide +kernel
theorem dX6_putsAside_0 : decode cX6_putsAside 0 = .ok (.iconst 0, 1) := by decide +kernel
theorem dX6_putsAside_1 : decode cX6_putsAside 1 = .ok (.istore_n 1, 1) := by decide +kernel
theorem dX6_putsAside_2 : decode cX6_putsAside 2 = .ok (.iload_n 1, 1) := by decide +kernel
theorem dX6_putsAside_3 : decode cX6_putsAside 3 = .ok (.bipush 100, 2) := by decide +kernel
theorem dX6_putsAside_5 : decode cX6_putsAside 5 = .ok (.if_icmp .ge 21, 3) := by decide +kernel
theorem dX6_putsAside_8 : decode cX6_putsAside 8 = .ok (.aload_n 0, 1) := by decide +kernel
theorem dX6_putsAside_9 : decode cX6_putsAside 9 = .ok (.getfield 19, 3) := by decide +kernel
theorem dX6_putsAside_12 : decode cX6_putsAside 12 = .ok (.iload_n 1, 1) := by decide +kernel
theorem dX6_putsAside_13 : decode cX6_putsAside 13 = .ok (.aload_n 0, 1) := by decide +kernel
theorem dX6_putsAside_14 : decode cX6_putsAside 14 = .ok (.getfield 7, 3) := by decide +kernel
theorem dX6_putsAside_17 : decode cX6_putsAside 17 = .ok (.iload_n 1, 1) := by decide +kernel
theorem dX6_putsAside_18 : decode cX6_putsAside 18 = .ok (.iaload, 1) := by decide +kernel
theorem dX6_putsAside_19 : decode cX6_putsAside 19 = .ok (.iastore, 1) := by decide +kernel
theorem dX6_putsAside_20 : decode cX6_putsAside 20 = .ok (.iinc 1 1, 3) := by decide +kernel
theorem dX6_putsAside_23 : decode cX6_putsAside 23 = .ok (.goto (-21), 3) := by decide +kernel
theorem dX6_putsAside_26 : decode cX6_putsAside 26 = .ok (.aload_n 0, 1) := by decide +kernel
theorem dX6_putsAside_27 : decode cX6_putsAside 27 = .ok (.getfield 32, 3) := by decide +kernel
theorem dX6_putsAside_30 : decode cX6_putsAside 30 = .ok (.iconst 0, 1) := by decide +kernel
theorem dX6_putsAside_31 : decode cX6_putsAside 31 = .ok (.aload_n 0, 1) := by decide +kernel
theorem dX6_putsAside_32 : decode cX6_putsAside 32 = .ok (.getfield 22, 3) := by decide +kernel
theorem dX6_putsAside_35 : decode cX6_putsAside 35 = .ok (.iconst 0, 1) := by decide +kernel
theorem dX6_putsAside_36 : decode cX6_putsAside 36 = .ok (.laload, 1) := by decide +kernel
theorem dX6_putsAside_37 : decode cX6_putsAside 37 = .ok (.lastore, 1) := by decide +kernel
theorem dX6_putsAside_38 : decode cX6_putsAside 38 = .ok (.aload_n 0, 1) := by decide +kernel
theorem dX6_putsAside_39 : decode cX6_putsAside 39 = .ok (.getfield 32, 3) := by decide +kernel
theorem dX6_putsAside_42 : decode cX6_putsAside 42 = .ok (.iconst 1, 1) := by decide +kernel
theorem dX6_putsAside_43 : decode cX6_putsAside 43 = .ok (.aload_n 0, 1) := by decide +kernel
theorem dX6_putsAside_44 : decode cX6_putsAside 44 = .ok (.getfield 22, 3) := by decide +kernel
theorem dX6_putsAside_47 : decode cX6_putsAside 47 = .ok (.iconst 1, 1) := by decide +kernel
theorem dX6_putsAside_48 : decode cX6_putsAside 48 = .ok (.laload, 1) := by decide +kernel
theorem dX6_putsAside_49 : decode cX6_putsAside 49 = .ok (.lastore, 1) := by decide +kernel
theorem dX6_putsAside_50 : decode cX6_putsAside 50 = .ok (.return_, 1) := by decide +kernel
theorem dX6_putsBack_0 : decode cX6_putsBack 0 = .ok (.iconst 0, 1) := by decide +kernel
theorem dX6_putsBack_1 : decode cX6_putsBack 1 = .ok (.istore_n 1, 1) := by decide +kernel
theorem dX6_putsBack_2 : decode cX6_putsBack 2 = .ok (.iload_n 1, 1) := by decide +kernel
theorem dX6_putsBack_3 : decode cX6_putsBack 3 = .ok (.bipush 100, 2) := by decide +kernel
theorem dX6_putsBack_5 : decode cX6_putsBack 5 = .ok (.if_icmp .ge 21, 3) := by decide +kernel
theorem dX6_putsBack_8 : decode cX6_putsBack 8 = .ok (.aload_n 0, 1) := by decide +kernel
theorem dX6_putsBack_9 : decode cX6_putsBack 9 = .ok (.getfield 7, 3) := by decide +kernel
theorem dX6_putsBack_12 : decode cX6_putsBack 12 = .ok (.iload_n 1, 1) := by decide +kernel
theorem dX6_putsBack_13 : decode cX6_putsBack 13 = .ok (.aload_n 0, 1) := by decide +kernel
theorem dX6_putsBack_14 : decode cX6_putsBack 14 = .ok (.getfield 19, 3) := by decide +kernel
theorem dX6_putsBack_17 : decode cX6_putsBack 17 = .ok (.iload_n 1, 1) := by decide +kernel
theorem dX6_putsBack_18 : decode cX6_putsBack 18 = .ok (.iaload, 1) := by decide +kernel
theorem dX6_putsBack_19 : decode cX6_putsBack 19 = .ok (.iastore, 1) := by decide +kernel
theorem dX6_putsBack_20 : decode cX6_putsBack 20 = .ok (.iinc 1 1, 3) := by decide +kernel
theorem dX6_putsBack_23 : decode cX6_putsBack 23 = .ok (.goto (-21), 3) := by decide +kernel
theorem dX6_putsBack_26 : decode cX6_putsBack 26 = .ok (.aload_n 0, 1) := by decide +kernel
theorem dX6_putsBack_27 : decode cX6_putsBack 27 = .ok (.getfield 22, 3) := by decide +kernel
theorem dX6_putsBack_30 : decode cX6_putsBack 30 = .ok (.iconst 0, 1) := by decide +kernel
theorem dX6_putsBack_31 : decode cX6_putsBack 31 = .ok (.aload_n 0, 1) := by decide +kernel
theorem dX6_putsBack_32 : decode cX6_putsBack 32 = .ok (.getfield 32, 3) := by decide +kernel
theorem dX6_putsBack_35 : decode cX6_putsBack 35 = .ok (.iconst 0, 1) := by decide +kernel
theorem dX6_putsBack_36 : decode cX6_putsBack 36 = .ok (.laload, 1) := by decide +kernel
theorem dX6_putsBack_37 : decode cX6_putsBack 37 = .ok (.lastore, 1) := by decide +kernel
theorem dX6_putsBack_38 : decode cX6_putsBack 38 = .ok (.aload_n 0, 1) := by decide +kernel
theorem dX6_putsBack_39 : decode cX6_putsBack 39 = .ok (.getfield 22, 3) := by decide +kernel
theorem dX6_putsBack_42 : decode cX6_putsBack 42 = .ok (.iconst 1, 1) := by decide +kernel
theorem dX6_putsBack_43 : decode cX6_putsBack 43 = .ok (.aload_n 0, 1) := by decide +kernel
theorem dX6_putsBack_44 : decode cX6_putsBack 44 = .ok (.getfield 32, 3) := by decide +kernel
theorem dX6_putsBack_47 : decode cX6_putsBack 47 = .ok (.iconst 1, 1) := by decide +kernel
theorem dX6_putsBack_48 : decode cX6_putsBack 48 = .ok (.laload, 1) := by decide +kernel
theorem dX6_putsBack_49 : decode cX6_putsBack 49 = .ok (.lastore, 1) := by decide +kernel
theorem dX6_putsBack_50 : decode cX6_putsBack 50 = .ok (.return_, 1) := by decide +kernel
theorem dX6_isTable_0 : decode cX6_isTable 0 = .ok (.iload_n 0, 1) := by decide +kernel
theorem dX6_isTable_1 : decode cX6_isTable 1 = .ok (.iconst 0, 1) := by decide +kernel
theorem dX6_isTable_2 : decode cX6_isTable 2 = .ok (.iconst 4, 1) := by decide +kernel
theorem dX6_isTable_3 : decode cX6_isTable 3 = .ok (.invokestatic 63, 3) := by decide +kernel
theorem dX6_isTable_6 : decode cX6_isTable 6 = .ok (.ireturn, 1) := by decide +kernel
theorem dX6_isSet_0 : decode cX6_isSet 0 = .ok (.iload_n 0, 1) := by decide +kernel
theorem dX6_isSet_1 : decode cX6_isSet 1 = .ok (.iconst 1, 1) := by decide +kernel
theorem dX6_isSet_2 : decode cX6_isSet 2 = .ok (.bipush 31, 2) := by decide +kernel
theorem dX6_isSet_4 : decode cX6_isSet 4 = .ok (.invokestatic 63, 3) := by decide +kernel
theorem dX6_isSet_7 : decode cX6_isSet 7 = .ok (.ireturn, 1) := by decide +kernel
theorem dX6_sizeOf_0 : decode cX6_sizeOf 0 = .ok (.lconst 1, 1) := by decide +kernel
theorem dX6_sizeOf_1 : decode cX6_sizeOf 1 = .ok (.lstore_n 3, 1) := by decide +kernel
theorem dX6_sizeOf_2 : decode cX6_sizeOf 2 = .ok (.iconst 0, 1) := by decide +kernel
theorem dX6_sizeOf_3 : decode cX6_sizeOf 3 = .ok (.istore 5, 2) := by decide +kernel
theorem dX6_sizeOf_5 : decode cX6_sizeOf 5 = .ok (.iload 5, 2) := by decide +kernel
theorem dX6_sizeOf_7 : decode cX6_sizeOf 7 = .ok (.iconst 5, 1) := by decide +kernel
theorem dX6_sizeOf_8 : decode cX6_sizeOf 8 = .ok (.if_icmp .ge 85, 3) := by decide +kernel
theorem dX6_sizeOf_11 : decode cX6_sizeOf 11 = .ok (.iload_n 1, 1) := by decide +kernel
theorem dX6_sizeOf_12 : decode cX6_sizeOf 12 = .ok (.iload 5, 2) := by decide +kernel
theorem dX6_sizeOf_14 : decode cX6_sizeOf 14 = .ok (.ishr, 1) := by decide +kernel
theorem dX6_sizeOf_15 : decode cX6_sizeOf 15 = .ok (.iconst 1, 1) := by decide +kernel
theorem dX6_sizeOf_16 : decode cX6_sizeOf 16 = .ok (.iand, 1) := by decide +kernel
theorem dX6_sizeOf_17 : decode cX6_sizeOf 17 = .ok (.iconst 1, 1) := by decide +kernel
theorem dX6_sizeOf_18 : decode cX6_sizeOf 18 = .ok (.if_icmp .ne 69, 3) := by decide +kernel
theorem dX6_sizeOf_21 : decode cX6_sizeOf 21 = .ok (.lload_n 3, 1) := by decide +kernel
theorem dX6_sizeOf_22 : decode cX6_sizeOf 22 = .ok (.aload_n 0, 1) := by decide +kernel
theorem dX6_sizeOf_23 : decode cX6_sizeOf 23 = .ok (.getfield 7, 3) := by decide +kernel
theorem dX6_sizeOf_26 : decode cX6_sizeOf 26 = .ok (.iload_n 2, 1) := by decide +kernel
theorem dX6_sizeOf_27 : decode cX6_sizeOf 27 = .ok (.iload 5, 2) := by decide +kernel
theorem dX6_sizeOf_29 : decode cX6_sizeOf 29 = .ok (.iadd, 1) := by decide +kernel
theorem dX6_sizeOf_30 : decode cX6_sizeOf 30 = .ok (.iaload, 1) := by decide +kernel
theorem dX6_sizeOf_31 : decode cX6_sizeOf 31 = .ok (.i2l, 1) := by decide +kernel
theorem dX6_sizeOf_32 : decode cX6_sizeOf 32 = .ok (.lmul, 1) := by decide +kernel
theorem dX6_sizeOf_33 : decode cX6_sizeOf 33 = .ok (.lstore_n 3, 1) := by decide +kernel
theorem dX6_sizeOf_34 : decode cX6_sizeOf 34 = .ok (.iconst 0, 1) := by decide +kernel
theorem dX6_sizeOf_35 : decode cX6_sizeOf 35 = .ok (.istore 6, 2) := by decide +kernel
theorem dX6_sizeOf_37 : decode cX6_sizeOf 37 = .ok (.iload 6, 2) := by decide +kernel
theorem dX6_sizeOf_39 : decode cX6_sizeOf 39 = .ok (.iload 5, 2) := by decide +kernel
theorem dX6_sizeOf_41 : decode cX6_sizeOf 41 = .ok (.if_icmp .ge 46, 3) := by decide +kernel
theorem dX6_sizeOf_44 : decode cX6_sizeOf 44 = .ok (.iload_n 1, 1) := by decide +kernel
theorem dX6_sizeOf_45 : decode cX6_sizeOf 45 = .ok (.iload 6, 2) := by decide +kernel
theorem dX6_sizeOf_47 : decode cX6_sizeOf 47 = .ok (.ishr, 1) := by decide +kernel
theorem dX6_sizeOf_48 : decode cX6_sizeOf 48 = .ok (.iconst 1, 1) := by decide +kernel
theorem dX6_sizeOf_49 : decode cX6_sizeOf 49 = .ok (.iand, 1) := by decide +kernel
theorem dX6_sizeOf_50 : decode cX6_sizeOf 50 = .ok (.iconst 1, 1) := by decide +kernel
theorem dX6_sizeOf_51 : decode cX6_sizeOf 51 = .ok (.if_icmp .ne 28, 3) := by decide +kernel
theorem dX6_sizeOf_54 : decode cX6_sizeOf 54 = .ok (.lload_n 3, 1) := by decide +kernel
theorem dX6_sizeOf_55 : decode cX6_sizeOf 55 = .ok (.aload_n 0, 1) := by decide +kernel
theorem dX6_sizeOf_56 : decode cX6_sizeOf 56 = .ok (.getfield 7, 3) := by decide +kernel
theorem dX6_sizeOf_59 : decode cX6_sizeOf 59 = .ok (.bipush 10, 2) := by decide +kernel
theorem dX6_sizeOf_61 : decode cX6_sizeOf 61 = .ok (.iconst 5, 1) := by decide +kernel
theorem dX6_sizeOf_62 : decode cX6_sizeOf 62 = .ok (.iload 6, 2) := by decide +kernel
theorem dX6_sizeOf_64 : decode cX6_sizeOf 64 = .ok (.imul, 1) := by decide +kernel
theorem dX6_sizeOf_65 : decode cX6_sizeOf 65 = .ok (.iadd, 1) := by decide +kernel
theorem dX6_sizeOf_66 : decode cX6_sizeOf 66 = .ok (.iload 5, 2) := by decide +kernel
theorem dX6_sizeOf_68 : decode cX6_sizeOf 68 = .ok (.iadd, 1) := by decide +kernel
theorem dX6_sizeOf_69 : decode cX6_sizeOf 69 = .ok (.iaload, 1) := by decide +kernel
theorem dX6_sizeOf_70 : decode cX6_sizeOf 70 = .ok (.i2l, 1) := by decide +kernel
theorem dX6_sizeOf_71 : decode cX6_sizeOf 71 = .ok (.lmul, 1) := by decide +kernel
theorem dX6_sizeOf_72 : decode cX6_sizeOf 72 = .ok (.ldc2_w 67, 3) := by decide +kernel
theorem dX6_sizeOf_75 : decode cX6_sizeOf 75 = .ok (.ldiv, 1) := by decide +kernel
theorem dX6_sizeOf_76 : decode cX6_sizeOf 76 = .ok (.goto 4, 3) := by decide +kernel
theorem dX6_sizeOf_79 : decode cX6_sizeOf 79 = .ok (.lload_n 3, 1) := by decide +kernel
theorem dX6_sizeOf_80 : decode cX6_sizeOf 80 = .ok (.lstore_n 3, 1) := by decide +kernel
theorem dX6_sizeOf_81 : decode cX6_sizeOf 81 = .ok (.iinc 6 1, 3) := by decide +kernel
theorem dX6_sizeOf_84 : decode cX6_sizeOf 84 = .ok (.goto (-47), 3) := by decide +kernel
theorem dX6_sizeOf_87 : decode cX6_sizeOf 87 = .ok (.iinc 5 1, 3) := by decide +kernel
theorem dX6_sizeOf_90 : decode cX6_sizeOf 90 = .ok (.goto (-85), 3) := by decide +kernel
theorem dX6_sizeOf_93 : decode cX6_sizeOf 93 = .ok (.lload_n 3, 1) := by decide +kernel
theorem dX6_sizeOf_94 : decode cX6_sizeOf 94 = .ok (.lconst 1, 1) := by decide +kernel
theorem dX6_sizeOf_95 : decode cX6_sizeOf 95 = .ok (.lcmp, 1) := by decide +kernel
theorem dX6_sizeOf_96 : decode cX6_sizeOf 96 = .ok (.ifCond .ge 7, 3) := by decide +kernel
theorem dX6_sizeOf_99 : decode cX6_sizeOf 99 = .ok (.lconst 1, 1) := by decide +kernel
theorem dX6_sizeOf_100 : decode cX6_sizeOf 100 = .ok (.goto 4, 3) := by decide +kernel
theorem dX6_sizeOf_103 : decode cX6_sizeOf 103 = .ok (.lload_n 3, 1) := by decide +kernel
theorem dX6_sizeOf_104 : decode cX6_sizeOf 104 = .ok (.lreturn, 1) := by decide +kernel
theorem dX6_base_0 : decode cX6_base 0 = .ok (.iload_n 0, 1) := by decide +kernel
theorem dX6_base_1 : decode cX6_base 1 = .ok (.ifCond .eq 7, 3) := by decide +kernel
theorem dX6_base_4 : decode cX6_base 4 = .ok (.iconst 0, 1) := by decide +kernel
theorem dX6_base_5 : decode cX6_base 5 = .ok (.goto 4, 3) := by decide +kernel
theorem dX6_base_8 : decode cX6_base 8 = .ok (.iconst 5, 1) := by decide +kernel
theorem dX6_base_9 : decode cX6_base 9 = .ok (.ireturn, 1) := by decide +kernel
theorem dX6_costOf_0 : decode cX6_costOf 0 = .ok (.lconst 0, 1) := by decide +kernel
theorem dX6_costOf_1 : decode cX6_costOf 1 = .ok (.lstore_n 2, 1) := by decide +kernel
theorem dX6_costOf_2 : decode cX6_costOf 2 = .ok (.iconst 0, 1) := by decide +kernel
theorem dX6_costOf_3 : decode cX6_costOf 3 = .ok (.istore 4, 2) := by decide +kernel
theorem dX6_costOf_5 : decode cX6_costOf 5 = .ok (.iconst 0, 1) := by decide +kernel
theorem dX6_costOf_6 : decode cX6_costOf 6 = .ok (.istore 5, 2) := by decide +kernel
theorem dX6_costOf_8 : decode cX6_costOf 8 = .ok (.iload 5, 2) := by decide +kernel
theorem dX6_costOf_10 : decode cX6_costOf 10 = .ok (.aload_n 0, 1) := by decide +kernel
theorem dX6_costOf_11 : decode cX6_costOf 11 = .ok (.getfield 69, 3) := by decide +kernel
theorem dX6_costOf_14 : decode cX6_costOf 14 = .ok (.if_icmp .ge 33, 3) := by decide +kernel
theorem dX6_costOf_17 : decode cX6_costOf 17 = .ok (.iload 4, 2) := by decide +kernel
theorem dX6_costOf_19 : decode cX6_costOf 19 = .ok (.iconst 1, 1) := by decide +kernel
theorem dX6_costOf_20 : decode cX6_costOf 20 = .ok (.aload_n 0, 1) := by decide +kernel
theorem dX6_costOf_21 : decode cX6_costOf 21 = .ok (.getfield 41, 3) := by decide +kernel
theorem dX6_costOf_24 : decode cX6_costOf 24 = .ok (.iload 5, 2) := by decide +kernel
theorem dX6_costOf_26 : decode cX6_costOf 26 = .ok (.iaload, 1) := by decide +kernel
theorem dX6_costOf_27 : decode cX6_costOf 27 = .ok (.ishl, 1) := by decide +kernel
theorem dX6_costOf_28 : decode cX6_costOf 28 = .ok (.ior, 1) := by decide +kernel
theorem dX6_costOf_29 : decode cX6_costOf 29 = .ok (.istore 4, 2) := by decide +kernel
theorem dX6_costOf_31 : decode cX6_costOf 31 = .ok (.lload_n 2, 1) := by decide +kernel
theorem dX6_costOf_32 : decode cX6_costOf 32 = .ok (.aload_n 0, 1) := by decide +kernel
theorem dX6_costOf_33 : decode cX6_costOf 33 = .ok (.iload 4, 2) := by decide +kernel
theorem dX6_costOf_35 : decode cX6_costOf 35 = .ok (.iload_n 1, 1) := by decide +kernel
theorem dX6_costOf_36 : decode cX6_costOf 36 = .ok (.invokevirtual 72, 3) := by decide +kernel
theorem dX6_costOf_39 : decode cX6_costOf 39 = .ok (.ladd, 1) := by decide +kernel
theorem dX6_costOf_40 : decode cX6_costOf 40 = .ok (.lstore_n 2, 1) := by decide +kernel
theorem dX6_costOf_41 : decode cX6_costOf 41 = .ok (.iinc 5 1, 3) := by decide +kernel
theorem dX6_costOf_44 : decode cX6_costOf 44 = .ok (.goto (-36), 3) := by decide +kernel
theorem dX6_costOf_47 : decode cX6_costOf 47 = .ok (.lload_n 2, 1) := by decide +kernel
theorem dX6_costOf_48 : decode cX6_costOf 48 = .ok (.lreturn, 1) := by decide +kernel
theorem dX6_hasNext_0 : decode cX6_hasNext 0 = .ok (.aload_n 0, 1) := by decide +kernel
theorem dX6_hasNext_1 : decode cX6_hasNext 1 = .ok (.getfield 69, 3) := by decide +kernel
theorem dX6_hasNext_4 : decode cX6_hasNext 4 = .ok (.iconst 2, 1) := by decide +kernel
theorem dX6_hasNext_5 : decode cX6_hasNext 5 = .ok (.isub, 1) := by decide +kernel
theorem dX6_hasNext_6 : decode cX6_hasNext 6 = .ok (.istore_n 1, 1) := by decide +kernel
theorem dX6_hasNext_7 : decode cX6_hasNext 7 = .ok (.iload_n 1, 1) := by decide +kernel
theorem dX6_hasNext_8 : decode cX6_hasNext 8 = .ok (.ifCond .lt 26, 3) := by decide +kernel
theorem dX6_hasNext_11 : decode cX6_hasNext 11 = .ok (.aload_n 0, 1) := by decide +kernel
theorem dX6_hasNext_12 : decode cX6_hasNext 12 = .ok (.getfield 41, 3) := by decide +kernel
theorem dX6_hasNext_15 : decode cX6_hasNext 15 = .ok (.iload_n 1, 1) := by decide +kernel
theorem dX6_hasNext_16 : decode cX6_hasNext 16 = .ok (.iaload, 1) := by decide +kernel
theorem dX6_hasNext_17 : decode cX6_hasNext 17 = .ok (.aload_n 0, 1) := by decide +kernel
theorem dX6_hasNext_18 : decode cX6_hasNext 18 = .ok (.getfield 41, 3) := by decide +kernel
theorem dX6_hasNext_21 : decode cX6_hasNext 21 = .ok (.iload_n 1, 1) := by decide +kernel
theorem dX6_hasNext_22 : decode cX6_hasNext 22 = .ok (.iconst 1, 1) := by decide +kernel
theorem dX6_hasNext_23 : decode cX6_hasNext 23 = .ok (.iadd, 1) := by decide +kernel
theorem dX6_hasNext_24 : decode cX6_hasNext 24 = .ok (.iaload, 1) := by decide +kernel
theorem dX6_hasNext_25 : decode cX6_hasNext 25 = .ok (.if_icmp .le 9, 3) := by decide +kernel
theorem dX6_hasNext_28 : decode cX6_hasNext 28 = .ok (.iinc 1 (-1), 3) := by decide +kernel
theorem dX6_hasNext_31 : decode cX6_hasNext 31 = .ok (.goto (-24), 3) := by decide +kernel
theorem dX6_hasNext_34 : decode cX6_hasNext 34 = .ok (.iload_n 1, 1) := by decide +kernel
theorem dX6_hasNext_35 : decode cX6_hasNext 35 = .ok (.ifCond .ge 5, 3) := by decide +kernel
theorem dX6_hasNext_38 : decode cX6_hasNext 38 = .ok (.iconst 0, 1) := by decide +kernel
theorem dX6_hasNext_39 : decode cX6_hasNext 39 = .ok (.ireturn, 1) := by decide +kernel
theorem dX6_hasNext_40 : decode cX6_hasNext 40 = .ok (.aload_n 0, 1) := by decide +kernel
theorem dX6_hasNext_41 : decode cX6_hasNext 41 = .ok (.getfield 69, 3) := by decide +kernel
theorem dX6_hasNext_44 : decode cX6_hasNext 44 = .ok (.iconst 1, 1) := by decide +kernel
theorem dX6_hasNext_45 : decode cX6_hasNext 45 = .ok (.isub, 1) := by decide +kernel
theorem dX6_hasNext_46 : decode cX6_hasNext 46 = .ok (.istore_n 2, 1) := by decide +kernel
theorem dX6_hasNext_47 : decode cX6_hasNext 47 = .ok (.aload_n 0, 1) := by decide +kernel
theorem dX6_hasNext_48 : decode cX6_hasNext 48 = .ok (.getfield 41, 3) := by decide +kernel
theorem dX6_hasNext_51 : decode cX6_hasNext 51 = .ok (.iload_n 2, 1) := by decide +kernel
theorem dX6_hasNext_52 : decode cX6_hasNext 52 = .ok (.iaload, 1) := by decide +kernel
theorem dX6_hasNext_53 : decode cX6_hasNext 53 = .ok (.aload_n 0, 1) := by decide +kernel
theorem dX6_hasNext_54 : decode cX6_hasNext 54 = .ok (.getfield 41, 3) := by decide +kernel
theorem dX6_hasNext_57 : decode cX6_hasNext 57 = .ok (.iload_n 1, 1) := by decide +kernel
theorem dX6_hasNext_58 : decode cX6_hasNext 58 = .ok (.iaload, 1) := by decide +kernel
theorem dX6_hasNext_59 : decode cX6_hasNext 59 = .ok (.if_icmp .ge 9, 3) := by decide +kernel
theorem dX6_hasNext_62 : decode cX6_hasNext 62 = .ok (.iinc 2 (-1), 3) := by decide +kernel
theorem dX6_hasNext_65 : decode cX6_hasNext 65 = .ok (.goto (-18), 3) := by decide +kernel
theorem dX6_hasNext_68 : decode cX6_hasNext 68 = .ok (.aload_n 0, 1) := by decide +kernel
theorem dX6_hasNext_69 : decode cX6_hasNext 69 = .ok (.iload_n 1, 1) := by decide +kernel
theorem dX6_hasNext_70 : decode cX6_hasNext 70 = .ok (.iload_n 2, 1) := by decide +kernel
theorem dX6_hasNext_71 : decode cX6_hasNext 71 = .ok (.invokevirtual 76, 3) := by decide +kernel
theorem dX6_hasNext_74 : decode cX6_hasNext 74 = .ok (.iload_n 1, 1) := by decide +kernel
theorem dX6_hasNext_75 : decode cX6_hasNext 75 = .ok (.iconst 1, 1) := by decide +kernel
theorem dX6_hasNext_76 : decode cX6_hasNext 76 = .ok (.iadd, 1) := by decide +kernel
theorem dX6_hasNext_77 : decode cX6_hasNext 77 = .ok (.istore_n 3, 1) := by decide +kernel
theorem dX6_hasNext_78 : decode cX6_hasNext 78 = .ok (.aload_n 0, 1) := by decide +kernel
theorem dX6_hasNext_79 : decode cX6_hasNext 79 = .ok (.getfield 69, 3) := by decide +kernel
theorem dX6_hasNext_82 : decode cX6_hasNext 82 = .ok (.iconst 1, 1) := by decide +kernel
theorem dX6_hasNext_83 : decode cX6_hasNext 83 = .ok (.isub, 1) := by decide +kernel
theorem dX6_hasNext_84 : decode cX6_hasNext 84 = .ok (.istore 4, 2) := by decide +kernel
theorem dX6_hasNext_86 : decode cX6_hasNext 86 = .ok (.iload_n 3, 1) := by decide +kernel
theorem dX6_hasNext_87 : decode cX6_hasNext 87 = .ok (.iload 4, 2) := by decide +kernel
theorem dX6_hasNext_89 : decode cX6_hasNext 89 = .ok (.if_icmp .ge 19, 3) := by decide +kernel
theorem dX6_hasNext_92 : decode cX6_hasNext 92 = .ok (.aload_n 0, 1) := by decide +kernel
theorem dX6_hasNext_93 : decode cX6_hasNext 93 = .ok (.iload_n 3, 1) := by decide +kernel
theorem dX6_hasNext_94 : decode cX6_hasNext 94 = .ok (.iload 4, 2) := by decide +kernel
theorem dX6_hasNext_96 : decode cX6_hasNext 96 = .ok (.invokevirtual 76, 3) := by decide +kernel
theorem dX6_hasNext_99 : decode cX6_hasNext 99 = .ok (.iinc 3 1, 3) := by decide +kernel
theorem dX6_hasNext_102 : decode cX6_hasNext 102 = .ok (.iinc 4 (-1), 3) := by decide +kernel
theorem dX6_hasNext_105 : decode cX6_hasNext 105 = .ok (.goto (-19), 3) := by decide +kernel
theorem dX6_hasNext_108 : decode cX6_hasNext 108 = .ok (.iconst 1, 1) := by decide +kernel
theorem dX6_hasNext_109 : decode cX6_hasNext 109 = .ok (.ireturn, 1) := by decide +kernel
theorem dX6_swaps_0 : decode cX6_swaps 0 = .ok (.aload_n 0, 1) := by decide +kernel
theorem dX6_swaps_1 : decode cX6_swaps 1 = .ok (.getfield 41, 3) := by decide +kernel
theorem dX6_swaps_4 : decode cX6_swaps 4 = .ok (.iload_n 1, 1) := by decide +kernel
theorem dX6_swaps_5 : decode cX6_swaps 5 = .ok (.iaload, 1) := by decide +kernel
theorem dX6_swaps_6 : decode cX6_swaps 6 = .ok (.istore_n 3, 1) := by decide +kernel
theorem dX6_swaps_7 : decode cX6_swaps 7 = .ok (.aload_n 0, 1) := by decide +kernel
theorem dX6_swaps_8 : decode cX6_swaps 8 = .ok (.getfield 41, 3) := by decide +kernel
theorem dX6_swaps_11 : decode cX6_swaps 11 = .ok (.iload_n 1, 1) := by decide +kernel
theorem dX6_swaps_12 : decode cX6_swaps 12 = .ok (.aload_n 0, 1) := by decide +kernel
theorem dX6_swaps_13 : decode cX6_swaps 13 = .ok (.getfield 41, 3) := by decide +kernel
theorem dX6_swaps_16 : decode cX6_swaps 16 = .ok (.iload_n 2, 1) := by decide +kernel
theorem dX6_swaps_17 : decode cX6_swaps 17 = .ok (.iaload, 1) := by decide +kernel
theorem dX6_swaps_18 : decode cX6_swaps 18 = .ok (.iastore, 1) := by decide +kernel
theorem dX6_swaps_19 : decode cX6_swaps 19 = .ok (.aload_n 0, 1) := by decide +kernel
theorem dX6_swaps_20 : decode cX6_swaps 20 = .ok (.getfield 41, 3) := by decide +kernel
theorem dX6_swaps_23 : decode cX6_swaps 23 = .ok (.iload_n 2, 1) := by decide +kernel
theorem dX6_swaps_24 : decode cX6_swaps 24 = .ok (.iload_n 3, 1) := by decide +kernel
theorem dX6_swaps_25 : decode cX6_swaps 25 = .ok (.iastore, 1) := by decide +kernel
theorem dX6_swaps_26 : decode cX6_swaps 26 = .ok (.return_, 1) := by decide +kernel
theorem dX6_finds_0 : decode cX6_finds 0 = .ok (.aload_n 0, 1) := by decide +kernel
theorem dX6_finds_1 : decode cX6_finds 1 = .ok (.iconst 0, 1) := by decide +kernel
theorem dX6_finds_2 : decode cX6_finds 2 = .ok (.putfield 69, 3) := by decide +kernel
theorem dX6_finds_5 : decode cX6_finds 5 = .ok (.iconst 0, 1) := by decide +kernel
theorem dX6_finds_6 : decode cX6_finds 6 = .ok (.istore_n 3, 1) := by decide +kernel
theorem dX6_finds_7 : decode cX6_finds 7 = .ok (.iload_n 3, 1) := by decide +kernel
theorem dX6_finds_8 : decode cX6_finds 8 = .ok (.iconst 5, 1) := by decide +kernel
theorem dX6_finds_9 : decode cX6_finds 9 = .ok (.if_icmp .ge 38, 3) := by decide +kernel
theorem dX6_finds_12 : decode cX6_finds 12 = .ok (.iload_n 1, 1) := by decide +kernel
theorem dX6_finds_13 : decode cX6_finds 13 = .ok (.iload_n 3, 1) := by decide +kernel
theorem dX6_finds_14 : decode cX6_finds 14 = .ok (.ishr, 1) := by decide +kernel
theorem dX6_finds_15 : decode cX6_finds 15 = .ok (.iconst 1, 1) := by decide +kernel
theorem dX6_finds_16 : decode cX6_finds 16 = .ok (.iand, 1) := by decide +kernel
theorem dX6_finds_17 : decode cX6_finds 17 = .ok (.iconst 1, 1) := by decide +kernel
theorem dX6_finds_18 : decode cX6_finds 18 = .ok (.if_icmp .ne 23, 3) := by decide +kernel
theorem dX6_finds_21 : decode cX6_finds 21 = .ok (.aload_n 0, 1) := by decide +kernel
theorem dX6_finds_22 : decode cX6_finds 22 = .ok (.getfield 41, 3) := by decide +kernel
theorem dX6_finds_25 : decode cX6_finds 25 = .ok (.aload_n 0, 1) := by decide +kernel
theorem dX6_finds_26 : decode cX6_finds 26 = .ok (.getfield 69, 3) := by decide +kernel
theorem dX6_finds_29 : decode cX6_finds 29 = .ok (.iload_n 3, 1) := by decide +kernel
theorem dX6_finds_30 : decode cX6_finds 30 = .ok (.iastore, 1) := by decide +kernel
theorem dX6_finds_31 : decode cX6_finds 31 = .ok (.aload_n 0, 1) := by decide +kernel
theorem dX6_finds_32 : decode cX6_finds 32 = .ok (.dup, 1) := by decide +kernel
theorem dX6_finds_33 : decode cX6_finds 33 = .ok (.getfield 69, 3) := by decide +kernel
theorem dX6_finds_36 : decode cX6_finds 36 = .ok (.iconst 1, 1) := by decide +kernel
theorem dX6_finds_37 : decode cX6_finds 37 = .ok (.iadd, 1) := by decide +kernel
theorem dX6_finds_38 : decode cX6_finds 38 = .ok (.putfield 69, 3) := by decide +kernel
theorem dX6_finds_41 : decode cX6_finds 41 = .ok (.iinc 3 1, 3) := by decide +kernel
theorem dX6_finds_44 : decode cX6_finds 44 = .ok (.goto (-37), 3) := by decide +kernel
theorem dX6_finds_47 : decode cX6_finds 47 = .ok (.ldc2_w 80, 3) := by decide +kernel
theorem dX6_finds_50 : decode cX6_finds 50 = .ok (.lstore_n 3, 1) := by decide +kernel
theorem dX6_finds_51 : decode cX6_finds 51 = .ok (.iconst 1, 1) := by decide +kernel
theorem dX6_finds_52 : decode cX6_finds 52 = .ok (.istore 5, 2) := by decide +kernel
theorem dX6_finds_54 : decode cX6_finds 54 = .ok (.iload 5, 2) := by decide +kernel
theorem dX6_finds_56 : decode cX6_finds 56 = .ok (.ifCond .eq 67, 3) := by decide +kernel
theorem dX6_finds_59 : decode cX6_finds 59 = .ok (.aload_n 0, 1) := by decide +kernel
theorem dX6_finds_60 : decode cX6_finds 60 = .ok (.iload_n 2, 1) := by decide +kernel
theorem dX6_finds_61 : decode cX6_finds 61 = .ok (.invokevirtual 82, 3) := by decide +kernel
theorem dX6_finds_64 : decode cX6_finds 64 = .ok (.lstore 6, 2) := by decide +kernel
theorem dX6_finds_66 : decode cX6_finds 66 = .ok (.lload_n 3, 1) := by decide +kernel
theorem dX6_finds_67 : decode cX6_finds 67 = .ok (.lconst 0, 1) := by decide +kernel
theorem dX6_finds_68 : decode cX6_finds 68 = .ok (.lcmp, 1) := by decide +kernel
theorem dX6_finds_69 : decode cX6_finds 69 = .ok (.ifCond .lt 10, 3) := by decide +kernel
theorem dX6_finds_72 : decode cX6_finds 72 = .ok (.lload 6, 2) := by decide +kernel
theorem dX6_finds_74 : decode cX6_finds 74 = .ok (.lload_n 3, 1) := by decide +kernel
theorem dX6_finds_75 : decode cX6_finds 75 = .ok (.lcmp, 1) := by decide +kernel
theorem dX6_finds_76 : decode cX6_finds 76 = .ok (.ifCond .ge 38, 3) := by decide +kernel
theorem dX6_finds_79 : decode cX6_finds 79 = .ok (.lload 6, 2) := by decide +kernel
theorem dX6_finds_81 : decode cX6_finds 81 = .ok (.lstore_n 3, 1) := by decide +kernel
theorem dX6_finds_82 : decode cX6_finds 82 = .ok (.iconst 0, 1) := by decide +kernel
theorem dX6_finds_83 : decode cX6_finds 83 = .ok (.istore 8, 2) := by decide +kernel
theorem dX6_finds_85 : decode cX6_finds 85 = .ok (.iload 8, 2) := by decide +kernel
theorem dX6_finds_87 : decode cX6_finds 87 = .ok (.aload_n 0, 1) := by decide +kernel
theorem dX6_finds_88 : decode cX6_finds 88 = .ok (.getfield 69, 3) := by decide +kernel
theorem dX6_finds_91 : decode cX6_finds 91 = .ok (.if_icmp .ge 23, 3) := by decide +kernel
theorem dX6_finds_94 : decode cX6_finds 94 = .ok (.aload_n 0, 1) := by decide +kernel
theorem dX6_finds_95 : decode cX6_finds 95 = .ok (.getfield 44, 3) := by decide +kernel
theorem dX6_finds_98 : decode cX6_finds 98 = .ok (.iload 8, 2) := by decide +kernel
theorem dX6_finds_100 : decode cX6_finds 100 = .ok (.aload_n 0, 1) := by decide +kernel
theorem dX6_finds_101 : decode cX6_finds 101 = .ok (.getfield 41, 3) := by decide +kernel
theorem dX6_finds_104 : decode cX6_finds 104 = .ok (.iload 8, 2) := by decide +kernel
theorem dX6_finds_106 : decode cX6_finds 106 = .ok (.iaload, 1) := by decide +kernel
theorem dX6_finds_107 : decode cX6_finds 107 = .ok (.iastore, 1) := by decide +kernel
theorem dX6_finds_108 : decode cX6_finds 108 = .ok (.iinc 8 1, 3) := by decide +kernel
theorem dX6_finds_111 : decode cX6_finds 111 = .ok (.goto (-26), 3) := by decide +kernel
theorem dX6_finds_114 : decode cX6_finds 114 = .ok (.aload_n 0, 1) := by decide +kernel
theorem dX6_finds_115 : decode cX6_finds 115 = .ok (.invokevirtual 86, 3) := by decide +kernel
theorem dX6_finds_118 : decode cX6_finds 118 = .ok (.istore 5, 2) := by decide +kernel
theorem dX6_finds_120 : decode cX6_finds 120 = .ok (.goto (-66), 3) := by decide +kernel
theorem dX6_finds_123 : decode cX6_finds 123 = .ok (.lload_n 3, 1) := by decide +kernel
theorem dX6_finds_124 : decode cX6_finds 124 = .ok (.lreturn, 1) := by decide +kernel
theorem dX6_findsBySets_0 : decode cX6_findsBySets 0 = .ok (.aload_n 0, 1) := by decide +kernel
theorem dX6_findsBySets_1 : decode cX6_findsBySets 1 = .ok (.getfield 47, 3) := by decide +kernel
theorem dX6_findsBySets_4 : decode cX6_findsBySets 4 = .ok (.iconst 0, 1) := by decide +kernel
theorem dX6_findsBySets_5 : decode cX6_findsBySets 5 = .ok (.lconst 0, 1) := by decide +kernel
theorem dX6_findsBySets_6 : decode cX6_findsBySets 6 = .ok (.lastore, 1) := by decide +kernel
theorem dX6_findsBySets_7 : decode cX6_findsBySets 7 = .ok (.iconst 1, 1) := by decide +kernel
theorem dX6_findsBySets_8 : decode cX6_findsBySets 8 = .ok (.istore_n 3, 1) := by decide +kernel
theorem dX6_findsBySets_9 : decode cX6_findsBySets 9 = .ok (.iload_n 3, 1) := by decide +kernel
theorem dX6_findsBySets_10 : decode cX6_findsBySets 10 = .ok (.iload_n 1, 1) := by decide +kernel
theorem dX6_findsBySets_11 : decode cX6_findsBySets 11 = .ok (.if_icmp .gt 91, 3) := by decide +kernel
theorem dX6_findsBySets_14 : decode cX6_findsBySets 14 = .ok (.ldc2_w 80, 3) := by decide +kernel
theorem dX6_findsBySets_17 : decode cX6_findsBySets 17 = .ok (.lstore 4, 2) := by decide +kernel
theorem dX6_findsBySets_19 : decode cX6_findsBySets 19 = .ok (.iconst 0, 1) := by decide +kernel
theorem dX6_findsBySets_20 : decode cX6_findsBySets 20 = .ok (.istore 6, 2) := by decide +kernel
theorem dX6_findsBySets_22 : decode cX6_findsBySets 22 = .ok (.iload 6, 2) := by decide +kernel
theorem dX6_findsBySets_24 : decode cX6_findsBySets 24 = .ok (.iconst 5, 1) := by decide +kernel
theorem dX6_findsBySets_25 : decode cX6_findsBySets 25 = .ok (.if_icmp .ge 56, 3) := by decide +kernel
theorem dX6_findsBySets_28 : decode cX6_findsBySets 28 = .ok (.iload_n 3, 1) := by decide +kernel
theorem dX6_findsBySets_29 : decode cX6_findsBySets 29 = .ok (.iload 6, 2) := by decide +kernel
theorem dX6_findsBySets_31 : decode cX6_findsBySets 31 = .ok (.ishr, 1) := by decide +kernel
theorem dX6_findsBySets_32 : decode cX6_findsBySets 32 = .ok (.iconst 1, 1) := by decide +kernel
theorem dX6_findsBySets_33 : decode cX6_findsBySets 33 = .ok (.iand, 1) := by decide +kernel
theorem dX6_findsBySets_34 : decode cX6_findsBySets 34 = .ok (.iconst 1, 1) := by decide +kernel
theorem dX6_findsBySets_35 : decode cX6_findsBySets 35 = .ok (.if_icmp .ne 40, 3) := by decide +kernel
theorem dX6_findsBySets_38 : decode cX6_findsBySets 38 = .ok (.aload_n 0, 1) := by decide +kernel
theorem dX6_findsBySets_39 : decode cX6_findsBySets 39 = .ok (.getfield 47, 3) := by decide +kernel
theorem dX6_findsBySets_42 : decode cX6_findsBySets 42 = .ok (.iload_n 3, 1) := by decide +kernel
theorem dX6_findsBySets_43 : decode cX6_findsBySets 43 = .ok (.iconst 1, 1) := by decide +kernel
theorem dX6_findsBySets_44 : decode cX6_findsBySets 44 = .ok (.iload 6, 2) := by decide +kernel
theorem dX6_findsBySets_46 : decode cX6_findsBySets 46 = .ok (.ishl, 1) := by decide +kernel
theorem dX6_findsBySets_47 : decode cX6_findsBySets 47 = .ok (.isub, 1) := by decide +kernel
theorem dX6_findsBySets_48 : decode cX6_findsBySets 48 = .ok (.laload, 1) := by decide +kernel
theorem dX6_findsBySets_49 : decode cX6_findsBySets 49 = .ok (.lstore 7, 2) := by decide +kernel
theorem dX6_findsBySets_51 : decode cX6_findsBySets 51 = .ok (.lload 4, 2) := by decide +kernel
theorem dX6_findsBySets_53 : decode cX6_findsBySets 53 = .ok (.lconst 0, 1) := by decide +kernel
theorem dX6_findsBySets_54 : decode cX6_findsBySets 54 = .ok (.lcmp, 1) := by decide +kernel
theorem dX6_findsBySets_55 : decode cX6_findsBySets 55 = .ok (.ifCond .lt 11, 3) := by decide +kernel
theorem dX6_findsBySets_58 : decode cX6_findsBySets 58 = .ok (.lload 7, 2) := by decide +kernel
theorem dX6_findsBySets_60 : decode cX6_findsBySets 60 = .ok (.lload 4, 2) := by decide +kernel
theorem dX6_findsBySets_62 : decode cX6_findsBySets 62 = .ok (.lcmp, 1) := by decide +kernel
theorem dX6_findsBySets_63 : decode cX6_findsBySets 63 = .ok (.ifCond .ge 8, 3) := by decide +kernel
theorem dX6_findsBySets_66 : decode cX6_findsBySets 66 = .ok (.lload 7, 2) := by decide +kernel
theorem dX6_findsBySets_68 : decode cX6_findsBySets 68 = .ok (.goto 5, 3) := by decide +kernel
theorem dX6_findsBySets_71 : decode cX6_findsBySets 71 = .ok (.lload 4, 2) := by decide +kernel
theorem dX6_findsBySets_73 : decode cX6_findsBySets 73 = .ok (.lstore 4, 2) := by decide +kernel
theorem dX6_findsBySets_75 : decode cX6_findsBySets 75 = .ok (.iinc 6 1, 3) := by decide +kernel
theorem dX6_findsBySets_78 : decode cX6_findsBySets 78 = .ok (.goto (-56), 3) := by decide +kernel
theorem dX6_findsBySets_81 : decode cX6_findsBySets 81 = .ok (.aload_n 0, 1) := by decide +kernel
theorem dX6_findsBySets_82 : decode cX6_findsBySets 82 = .ok (.getfield 47, 3) := by decide +kernel
theorem dX6_findsBySets_85 : decode cX6_findsBySets 85 = .ok (.iload_n 3, 1) := by decide +kernel
theorem dX6_findsBySets_86 : decode cX6_findsBySets 86 = .ok (.lload 4, 2) := by decide +kernel
theorem dX6_findsBySets_88 : decode cX6_findsBySets 88 = .ok (.aload_n 0, 1) := by decide +kernel
theorem dX6_findsBySets_89 : decode cX6_findsBySets 89 = .ok (.iload_n 3, 1) := by decide +kernel
theorem dX6_findsBySets_90 : decode cX6_findsBySets 90 = .ok (.iload_n 2, 1) := by decide +kernel
theorem dX6_findsBySets_91 : decode cX6_findsBySets 91 = .ok (.invokevirtual 72, 3) := by decide +kernel
theorem dX6_findsBySets_94 : decode cX6_findsBySets 94 = .ok (.ladd, 1) := by decide +kernel
theorem dX6_findsBySets_95 : decode cX6_findsBySets 95 = .ok (.lastore, 1) := by decide +kernel
theorem dX6_findsBySets_96 : decode cX6_findsBySets 96 = .ok (.iinc 3 1, 3) := by decide +kernel
theorem dX6_findsBySets_99 : decode cX6_findsBySets 99 = .ok (.goto (-90), 3) := by decide +kernel
theorem dX6_findsBySets_102 : decode cX6_findsBySets 102 = .ok (.aload_n 0, 1) := by decide +kernel
theorem dX6_findsBySets_103 : decode cX6_findsBySets 103 = .ok (.getfield 47, 3) := by decide +kernel
theorem dX6_findsBySets_106 : decode cX6_findsBySets 106 = .ok (.iload_n 1, 1) := by decide +kernel
theorem dX6_findsBySets_107 : decode cX6_findsBySets 107 = .ok (.laload, 1) := by decide +kernel
theorem dX6_findsBySets_108 : decode cX6_findsBySets 108 = .ok (.lreturn, 1) := by decide +kernel
theorem dX6_at_0 : decode cX6_at 0 = .ok (.bipush 36, 2) := by decide +kernel
theorem dX6_at_2 : decode cX6_at 2 = .ok (.bipush 14, 2) := by decide +kernel
theorem dX6_at_4 : decode cX6_at 4 = .ok (.iload_n 0, 1) := by decide +kernel
theorem dX6_at_5 : decode cX6_at 5 = .ok (.imul, 1) := by decide +kernel
theorem dX6_at_6 : decode cX6_at 6 = .ok (.iadd, 1) := by decide +kernel
theorem dX6_at_7 : decode cX6_at 7 = .ok (.ireturn, 1) := by decide +kernel
theorem dX6_slotOf_0 : decode cX6_slotOf 0 = .ok (.iconst 0, 1) := by decide +kernel
theorem dX6_slotOf_1 : decode cX6_slotOf 1 = .ok (.istore_n 2, 1) := by decide +kernel
theorem dX6_slotOf_2 : decode cX6_slotOf 2 = .ok (.iload_n 2, 1) := by decide +kernel
theorem dX6_slotOf_3 : decode cX6_slotOf 3 = .ok (.iconst 4, 1) := by decide +kernel
theorem dX6_slotOf_4 : decode cX6_slotOf 4 = .ok (.if_icmp .ge 24, 3) := by decide +kernel
theorem dX6_slotOf_7 : decode cX6_slotOf 7 = .ok (.aload_n 0, 1) := by decide +kernel
theorem dX6_slotOf_8 : decode cX6_slotOf 8 = .ok (.getfield 7, 3) := by decide +kernel
theorem dX6_slotOf_11 : decode cX6_slotOf 11 = .ok (.iload_n 2, 1) := by decide +kernel
theorem dX6_slotOf_12 : decode cX6_slotOf 12 = .ok (.invokestatic 90, 3) := by decide +kernel
theorem dX6_slotOf_15 : decode cX6_slotOf 15 = .ok (.iaload, 1) := by decide +kernel
theorem dX6_slotOf_16 : decode cX6_slotOf 16 = .ok (.iload_n 1, 1) := by decide +kernel
theorem dX6_slotOf_17 : decode cX6_slotOf 17 = .ok (.if_icmp .ne 5, 3) := by decide +kernel
theorem dX6_slotOf_20 : decode cX6_slotOf 20 = .ok (.iload_n 2, 1) := by decide +kernel
theorem dX6_slotOf_21 : decode cX6_slotOf 21 = .ok (.ireturn, 1) := by decide +kernel
theorem dX6_slotOf_22 : decode cX6_slotOf 22 = .ok (.iinc 2 1, 3) := by decide +kernel
theorem dX6_slotOf_25 : decode cX6_slotOf 25 = .ok (.goto (-23), 3) := by decide +kernel
theorem dX6_slotOf_28 : decode cX6_slotOf 28 = .ok (.bipush (-4), 2) := by decide +kernel
theorem dX6_slotOf_30 : decode cX6_slotOf 30 = .ok (.ireturn, 1) := by decide +kernel
theorem dX6_tablesIn_0 : decode cX6_tablesIn 0 = .ok (.iconst 0, 1) := by decide +kernel
theorem dX6_tablesIn_1 : decode cX6_tablesIn 1 = .ok (.istore_n 1, 1) := by decide +kernel
theorem dX6_tablesIn_2 : decode cX6_tablesIn 2 = .ok (.iconst 0, 1) := by decide +kernel
theorem dX6_tablesIn_3 : decode cX6_tablesIn 3 = .ok (.istore_n 2, 1) := by decide +kernel
theorem dX6_tablesIn_4 : decode cX6_tablesIn 4 = .ok (.iload_n 2, 1) := by decide +kernel
theorem dX6_tablesIn_5 : decode cX6_tablesIn 5 = .ok (.iconst 5, 1) := by decide +kernel
theorem dX6_tablesIn_6 : decode cX6_tablesIn 6 = .ok (.if_icmp .ge 17, 3) := by decide +kernel
theorem dX6_tablesIn_9 : decode cX6_tablesIn 9 = .ok (.iload_n 1, 1) := by decide +kernel
theorem dX6_tablesIn_10 : decode cX6_tablesIn 10 = .ok (.iload_n 0, 1) := by decide +kernel
theorem dX6_tablesIn_11 : decode cX6_tablesIn 11 = .ok (.iload_n 2, 1) := by decide +kernel
theorem dX6_tablesIn_12 : decode cX6_tablesIn 12 = .ok (.ishr, 1) := by decide +kernel
theorem dX6_tablesIn_13 : decode cX6_tablesIn 13 = .ok (.iconst 1, 1) := by decide +kernel
theorem dX6_tablesIn_14 : decode cX6_tablesIn 14 = .ok (.iand, 1) := by decide +kernel
theorem dX6_tablesIn_15 : decode cX6_tablesIn 15 = .ok (.iadd, 1) := by decide +kernel
theorem dX6_tablesIn_16 : decode cX6_tablesIn 16 = .ok (.istore_n 1, 1) := by decide +kernel
theorem dX6_tablesIn_17 : decode cX6_tablesIn 17 = .ok (.iinc 2 1, 3) := by decide +kernel
theorem dX6_tablesIn_20 : decode cX6_tablesIn 20 = .ok (.goto (-16), 3) := by decide +kernel
theorem dX6_tablesIn_23 : decode cX6_tablesIn 23 = .ok (.iload_n 1, 1) := by decide +kernel
theorem dX6_tablesIn_24 : decode cX6_tablesIn 24 = .ok (.ireturn, 1) := by decide +kernel
theorem dX6_costAt_0 : decode cX6_costAt 0 = .ok (.aload_n 0, 1) := by decide +kernel
theorem dX6_costAt_1 : decode cX6_costAt 1 = .ok (.aload_n 0, 1) := by decide +kernel
theorem dX6_costAt_2 : decode cX6_costAt 2 = .ok (.getfield 7, 3) := by decide +kernel
theorem dX6_costAt_5 : decode cX6_costAt 5 = .ok (.iload_n 1, 1) := by decide +kernel
theorem dX6_costAt_6 : decode cX6_costAt 6 = .ok (.invokestatic 90, 3) := by decide +kernel
theorem dX6_costAt_9 : decode cX6_costAt 9 = .ok (.iaload, 1) := by decide +kernel
theorem dX6_costAt_10 : decode cX6_costAt 10 = .ok (.invokestatic 94, 3) := by decide +kernel
theorem dX6_costAt_13 : decode cX6_costAt 13 = .ok (.putfield 69, 3) := by decide +kernel
theorem dX6_costAt_16 : decode cX6_costAt 16 = .ok (.iconst 0, 1) := by decide +kernel
theorem dX6_costAt_17 : decode cX6_costAt 17 = .ok (.istore_n 3, 1) := by decide +kernel
theorem dX6_costAt_18 : decode cX6_costAt 18 = .ok (.iload_n 3, 1) := by decide +kernel
theorem dX6_costAt_19 : decode cX6_costAt 19 = .ok (.aload_n 0, 1) := by decide +kernel
theorem dX6_costAt_20 : decode cX6_costAt 20 = .ok (.getfield 69, 3) := by decide +kernel
theorem dX6_costAt_23 : decode cX6_costAt 23 = .ok (.if_icmp .ge 28, 3) := by decide +kernel
theorem dX6_costAt_26 : decode cX6_costAt 26 = .ok (.aload_n 0, 1) := by decide +kernel
theorem dX6_costAt_27 : decode cX6_costAt 27 = .ok (.getfield 41, 3) := by decide +kernel
theorem dX6_costAt_30 : decode cX6_costAt 30 = .ok (.iload_n 3, 1) := by decide +kernel
theorem dX6_costAt_31 : decode cX6_costAt 31 = .ok (.aload_n 0, 1) := by decide +kernel
theorem dX6_costAt_32 : decode cX6_costAt 32 = .ok (.getfield 7, 3) := by decide +kernel
theorem dX6_costAt_35 : decode cX6_costAt 35 = .ok (.iload_n 1, 1) := by decide +kernel
theorem dX6_costAt_36 : decode cX6_costAt 36 = .ok (.invokestatic 90, 3) := by decide +kernel
theorem dX6_costAt_39 : decode cX6_costAt 39 = .ok (.iconst 1, 1) := by decide +kernel
theorem dX6_costAt_40 : decode cX6_costAt 40 = .ok (.iadd, 1) := by decide +kernel
theorem dX6_costAt_41 : decode cX6_costAt 41 = .ok (.iload_n 3, 1) := by decide +kernel
theorem dX6_costAt_42 : decode cX6_costAt 42 = .ok (.iadd, 1) := by decide +kernel
theorem dX6_costAt_43 : decode cX6_costAt 43 = .ok (.iaload, 1) := by decide +kernel
theorem dX6_costAt_44 : decode cX6_costAt 44 = .ok (.iastore, 1) := by decide +kernel
theorem dX6_costAt_45 : decode cX6_costAt 45 = .ok (.iinc 3 1, 3) := by decide +kernel
theorem dX6_costAt_48 : decode cX6_costAt 48 = .ok (.goto (-30), 3) := by decide +kernel
theorem dX6_costAt_51 : decode cX6_costAt 51 = .ok (.aload_n 0, 1) := by decide +kernel
theorem dX6_costAt_52 : decode cX6_costAt 52 = .ok (.iload_n 2, 1) := by decide +kernel
theorem dX6_costAt_53 : decode cX6_costAt 53 = .ok (.invokevirtual 82, 3) := by decide +kernel
theorem dX6_costAt_56 : decode cX6_costAt 56 = .ok (.lreturn, 1) := by decide +kernel
theorem dX6_hasDrifted_0 : decode cX6_hasDrifted 0 = .ok (.iconst 0, 1) := by decide +kernel
theorem dX6_hasDrifted_1 : decode cX6_hasDrifted 1 = .ok (.istore_n 3, 1) := by decide +kernel
theorem dX6_hasDrifted_2 : decode cX6_hasDrifted 2 = .ok (.iconst 0, 1) := by decide +kernel
theorem dX6_hasDrifted_3 : decode cX6_hasDrifted 3 = .ok (.istore 4, 2) := by decide +kernel
theorem dX6_hasDrifted_5 : decode cX6_hasDrifted 5 = .ok (.iload 4, 2) := by decide +kernel
theorem dX6_hasDrifted_7 : decode cX6_hasDrifted 7 = .ok (.iconst 5, 1) := by decide +kernel
theorem dX6_hasDrifted_8 : decode cX6_hasDrifted 8 = .ok (.if_icmp .ge 109, 3) := by decide +kernel
theorem dX6_hasDrifted_11 : decode cX6_hasDrifted 11 = .ok (.aload_n 0, 1) := by decide +kernel
theorem dX6_hasDrifted_12 : decode cX6_hasDrifted 12 = .ok (.getfield 7, 3) := by decide +kernel
theorem dX6_hasDrifted_15 : decode cX6_hasDrifted 15 = .ok (.iconst 5, 1) := by decide +kernel
theorem dX6_hasDrifted_16 : decode cX6_hasDrifted 16 = .ok (.iload 4, 2) := by decide +kernel
theorem dX6_hasDrifted_18 : decode cX6_hasDrifted 18 = .ok (.iadd, 1) := by decide +kernel
theorem dX6_hasDrifted_19 : decode cX6_hasDrifted 19 = .ok (.iaload, 1) := by decide +kernel
theorem dX6_hasDrifted_20 : decode cX6_hasDrifted 20 = .ok (.istore 5, 2) := by decide +kernel
theorem dX6_hasDrifted_22 : decode cX6_hasDrifted 22 = .ok (.aload_n 0, 1) := by decide +kernel
theorem dX6_hasDrifted_23 : decode cX6_hasDrifted 23 = .ok (.getfield 7, 3) := by decide +kernel
theorem dX6_hasDrifted_26 : decode cX6_hasDrifted 26 = .ok (.iload_n 1, 1) := by decide +kernel
theorem dX6_hasDrifted_27 : decode cX6_hasDrifted 27 = .ok (.invokestatic 90, 3) := by decide +kernel
theorem dX6_hasDrifted_30 : decode cX6_hasDrifted 30 = .ok (.bipush 6, 2) := by decide +kernel
theorem dX6_hasDrifted_32 : decode cX6_hasDrifted 32 = .ok (.iadd, 1) := by decide +kernel
theorem dX6_hasDrifted_33 : decode cX6_hasDrifted 33 = .ok (.iload 4, 2) := by decide +kernel
theorem dX6_hasDrifted_35 : decode cX6_hasDrifted 35 = .ok (.iadd, 1) := by decide +kernel
theorem dX6_hasDrifted_36 : decode cX6_hasDrifted 36 = .ok (.iaload, 1) := by decide +kernel
theorem dX6_hasDrifted_37 : decode cX6_hasDrifted 37 = .ok (.istore 6, 2) := by decide +kernel
theorem dX6_hasDrifted_39 : decode cX6_hasDrifted 39 = .ok (.iload 5, 2) := by decide +kernel
theorem dX6_hasDrifted_41 : decode cX6_hasDrifted 41 = .ok (.iload 6, 2) := by decide +kernel
theorem dX6_hasDrifted_43 : decode cX6_hasDrifted 43 = .ok (.if_icmp .ge 8, 3) := by decide +kernel
theorem dX6_hasDrifted_46 : decode cX6_hasDrifted 46 = .ok (.iload 5, 2) := by decide +kernel
theorem dX6_hasDrifted_48 : decode cX6_hasDrifted 48 = .ok (.goto 5, 3) := by decide +kernel
theorem dX6_hasDrifted_51 : decode cX6_hasDrifted 51 = .ok (.iload 6, 2) := by decide +kernel
theorem dX6_hasDrifted_53 : decode cX6_hasDrifted 53 = .ok (.istore 7, 2) := by decide +kernel
theorem dX6_hasDrifted_55 : decode cX6_hasDrifted 55 = .ok (.iload 5, 2) := by decide +kernel
theorem dX6_hasDrifted_57 : decode cX6_hasDrifted 57 = .ok (.iload 6, 2) := by decide +kernel
theorem dX6_hasDrifted_59 : decode cX6_hasDrifted 59 = .ok (.if_icmp .ge 8, 3) := by decide +kernel
theorem dX6_hasDrifted_62 : decode cX6_hasDrifted 62 = .ok (.iload 6, 2) := by decide +kernel
theorem dX6_hasDrifted_64 : decode cX6_hasDrifted 64 = .ok (.goto 5, 3) := by decide +kernel
theorem dX6_hasDrifted_67 : decode cX6_hasDrifted 67 = .ok (.iload 5, 2) := by decide +kernel
theorem dX6_hasDrifted_69 : decode cX6_hasDrifted 69 = .ok (.istore 8, 2) := by decide +kernel
theorem dX6_hasDrifted_71 : decode cX6_hasDrifted 71 = .ok (.iload_n 3, 1) := by decide +kernel
theorem dX6_hasDrifted_72 : decode cX6_hasDrifted 72 = .ok (.ifCond .ne 33, 3) := by decide +kernel
theorem dX6_hasDrifted_75 : decode cX6_hasDrifted 75 = .ok (.aload_n 0, 1) := by decide +kernel
theorem dX6_hasDrifted_76 : decode cX6_hasDrifted 76 = .ok (.getfield 7, 3) := by decide +kernel
theorem dX6_hasDrifted_79 : decode cX6_hasDrifted 79 = .ok (.iload_n 1, 1) := by decide +kernel
theorem dX6_hasDrifted_80 : decode cX6_hasDrifted 80 = .ok (.invokestatic 90, 3) := by decide +kernel
theorem dX6_hasDrifted_83 : decode cX6_hasDrifted 83 = .ok (.iaload, 1) := by decide +kernel
theorem dX6_hasDrifted_84 : decode cX6_hasDrifted 84 = .ok (.iload 4, 2) := by decide +kernel
theorem dX6_hasDrifted_86 : decode cX6_hasDrifted 86 = .ok (.ishr, 1) := by decide +kernel
theorem dX6_hasDrifted_87 : decode cX6_hasDrifted 87 = .ok (.iconst 1, 1) := by decide +kernel
theorem dX6_hasDrifted_88 : decode cX6_hasDrifted 88 = .ok (.iand, 1) := by decide +kernel
theorem dX6_hasDrifted_89 : decode cX6_hasDrifted 89 = .ok (.iconst 1, 1) := by decide +kernel
theorem dX6_hasDrifted_90 : decode cX6_hasDrifted 90 = .ok (.if_icmp .ne 19, 3) := by decide +kernel
theorem dX6_hasDrifted_93 : decode cX6_hasDrifted 93 = .ok (.iload 8, 2) := by decide +kernel
theorem dX6_hasDrifted_95 : decode cX6_hasDrifted 95 = .ok (.bipush 100, 2) := by decide +kernel
theorem dX6_hasDrifted_97 : decode cX6_hasDrifted 97 = .ok (.imul, 1) := by decide +kernel
theorem dX6_hasDrifted_98 : decode cX6_hasDrifted 98 = .ok (.iload 7, 2) := by decide +kernel
theorem dX6_hasDrifted_100 : decode cX6_hasDrifted 100 = .ok (.iload_n 2, 1) := by decide +kernel
theorem dX6_hasDrifted_101 : decode cX6_hasDrifted 101 = .ok (.imul, 1) := by decide +kernel
theorem dX6_hasDrifted_102 : decode cX6_hasDrifted 102 = .ok (.if_icmp .le 7, 3) := by decide +kernel
theorem dX6_hasDrifted_105 : decode cX6_hasDrifted 105 = .ok (.iconst 1, 1) := by decide +kernel
theorem dX6_hasDrifted_106 : decode cX6_hasDrifted 106 = .ok (.goto 4, 3) := by decide +kernel
theorem dX6_hasDrifted_109 : decode cX6_hasDrifted 109 = .ok (.iconst 0, 1) := by decide +kernel
theorem dX6_hasDrifted_110 : decode cX6_hasDrifted 110 = .ok (.istore_n 3, 1) := by decide +kernel
theorem dX6_hasDrifted_111 : decode cX6_hasDrifted 111 = .ok (.iinc 4 1, 3) := by decide +kernel
theorem dX6_hasDrifted_114 : decode cX6_hasDrifted 114 = .ok (.goto (-109), 3) := by decide +kernel
theorem dX6_hasDrifted_117 : decode cX6_hasDrifted 117 = .ok (.iload_n 3, 1) := by decide +kernel
theorem dX6_hasDrifted_118 : decode cX6_hasDrifted 118 = .ok (.ireturn, 1) := by decide +kernel
theorem dX6_isLoose_0 : decode cX6_isLoose 0 = .ok (.aload_n 0, 1) := by decide +kernel
theorem dX6_isLoose_1 : decode cX6_isLoose 1 = .ok (.getfield 7, 3) := by decide +kernel
theorem dX6_isLoose_4 : decode cX6_isLoose 4 = .ok (.iload_n 1, 1) := by decide +kernel
theorem dX6_isLoose_5 : decode cX6_isLoose 5 = .ok (.invokestatic 90, 3) := by decide +kernel
theorem dX6_isLoose_8 : decode cX6_isLoose 8 = .ok (.iaload, 1) := by decide +kernel
theorem dX6_isLoose_9 : decode cX6_isLoose 9 = .ok (.ifCond .le 22, 3) := by decide +kernel
theorem dX6_isLoose_12 : decode cX6_isLoose 12 = .ok (.aload_n 0, 1) := by decide +kernel
theorem dX6_isLoose_13 : decode cX6_isLoose 13 = .ok (.getfield 7, 3) := by decide +kernel
theorem dX6_isLoose_16 : decode cX6_isLoose 16 = .ok (.iload_n 1, 1) := by decide +kernel
theorem dX6_isLoose_17 : decode cX6_isLoose 17 = .ok (.invokestatic 90, 3) := by decide +kernel
theorem dX6_isLoose_20 : decode cX6_isLoose 20 = .ok (.bipush 13, 2) := by decide +kernel
theorem dX6_isLoose_22 : decode cX6_isLoose 22 = .ok (.iadd, 1) := by decide +kernel
theorem dX6_isLoose_23 : decode cX6_isLoose 23 = .ok (.iaload, 1) := by decide +kernel
theorem dX6_isLoose_24 : decode cX6_isLoose 24 = .ok (.ifCond .ne 7, 3) := by decide +kernel
theorem dX6_isLoose_27 : decode cX6_isLoose 27 = .ok (.iconst 1, 1) := by decide +kernel
theorem dX6_isLoose_28 : decode cX6_isLoose 28 = .ok (.goto 4, 3) := by decide +kernel
theorem dX6_isLoose_31 : decode cX6_isLoose 31 = .ok (.iconst 0, 1) := by decide +kernel
theorem dX6_isLoose_32 : decode cX6_isLoose 32 = .ok (.ireturn, 1) := by decide +kernel
theorem dX6_empties_0 : decode cX6_empties 0 = .ok (.iconst 0, 1) := by decide +kernel
theorem dX6_empties_1 : decode cX6_empties 1 = .ok (.istore_n 2, 1) := by decide +kernel
theorem dX6_empties_2 : decode cX6_empties 2 = .ok (.iload_n 2, 1) := by decide +kernel
theorem dX6_empties_3 : decode cX6_empties 3 = .ok (.bipush 14, 2) := by decide +kernel
theorem dX6_empties_5 : decode cX6_empties 5 = .ok (.if_icmp .ge 21, 3) := by decide +kernel
theorem dX6_empties_8 : decode cX6_empties 8 = .ok (.aload_n 0, 1) := by decide +kernel
theorem dX6_empties_9 : decode cX6_empties 9 = .ok (.getfield 7, 3) := by decide +kernel
theorem dX6_empties_12 : decode cX6_empties 12 = .ok (.iload_n 1, 1) := by decide +kernel
theorem dX6_empties_13 : decode cX6_empties 13 = .ok (.invokestatic 90, 3) := by decide +kernel
theorem dX6_empties_16 : decode cX6_empties 16 = .ok (.iload_n 2, 1) := by decide +kernel
theorem dX6_empties_17 : decode cX6_empties 17 = .ok (.iadd, 1) := by decide +kernel
theorem dX6_empties_18 : decode cX6_empties 18 = .ok (.iconst 0, 1) := by decide +kernel
theorem dX6_empties_19 : decode cX6_empties 19 = .ok (.iastore, 1) := by decide +kernel
theorem dX6_empties_20 : decode cX6_empties 20 = .ok (.iinc 2 1, 3) := by decide +kernel
theorem dX6_empties_23 : decode cX6_empties 23 = .ok (.goto (-21), 3) := by decide +kernel
theorem dX6_empties_26 : decode cX6_empties 26 = .ok (.return_, 1) := by decide +kernel
theorem dX6_throwsOut_0 : decode cX6_throwsOut 0 = .ok (.iconst 0, 1) := by decide +kernel
theorem dX6_throwsOut_1 : decode cX6_throwsOut 1 = .ok (.istore_n 1, 1) := by decide +kernel
theorem dX6_throwsOut_2 : decode cX6_throwsOut 2 = .ok (.iconst 0, 1) := by decide +kernel
theorem dX6_throwsOut_3 : decode cX6_throwsOut 3 = .ok (.istore_n 2, 1) := by decide +kernel
theorem dX6_throwsOut_4 : decode cX6_throwsOut 4 = .ok (.iload_n 2, 1) := by decide +kernel
theorem dX6_throwsOut_5 : decode cX6_throwsOut 5 = .ok (.iconst 4, 1) := by decide +kernel
theorem dX6_throwsOut_6 : decode cX6_throwsOut 6 = .ok (.if_icmp .ge 40, 3) := by decide +kernel
theorem dX6_throwsOut_9 : decode cX6_throwsOut 9 = .ok (.aload_n 0, 1) := by decide +kernel
theorem dX6_throwsOut_10 : decode cX6_throwsOut 10 = .ok (.iload_n 2, 1) := by decide +kernel
theorem dX6_throwsOut_11 : decode cX6_throwsOut 11 = .ok (.invokevirtual 97, 3) := by decide +kernel
theorem dX6_throwsOut_14 : decode cX6_throwsOut 14 = .ok (.ifCond .eq 26, 3) := by decide +kernel
theorem dX6_throwsOut_17 : decode cX6_throwsOut 17 = .ok (.aload_n 0, 1) := by decide +kernel
theorem dX6_throwsOut_18 : decode cX6_throwsOut 18 = .ok (.iload_n 2, 1) := by decide +kernel
theorem dX6_throwsOut_19 : decode cX6_throwsOut 19 = .ok (.aload_n 0, 1) := by decide +kernel
theorem dX6_throwsOut_20 : decode cX6_throwsOut 20 = .ok (.getfield 7, 3) := by decide +kernel
theorem dX6_throwsOut_23 : decode cX6_throwsOut 23 = .ok (.bipush 35, 2) := by decide +kernel
theorem dX6_throwsOut_25 : decode cX6_throwsOut 25 = .ok (.iaload, 1) := by decide +kernel
theorem dX6_throwsOut_26 : decode cX6_throwsOut 26 = .ok (.invokevirtual 101, 3) := by decide +kernel
theorem dX6_throwsOut_29 : decode cX6_throwsOut 29 = .ok (.ifCond .eq 11, 3) := by decide +kernel
theorem dX6_throwsOut_32 : decode cX6_throwsOut 32 = .ok (.aload_n 0, 1) := by decide +kernel
theorem dX6_throwsOut_33 : decode cX6_throwsOut 33 = .ok (.iload_n 2, 1) := by decide +kernel
theorem dX6_throwsOut_34 : decode cX6_throwsOut 34 = .ok (.invokevirtual 105, 3) := by decide +kernel
theorem dX6_throwsOut_37 : decode cX6_throwsOut 37 = .ok (.iinc 1 1, 3) := by decide +kernel
theorem dX6_throwsOut_40 : decode cX6_throwsOut 40 = .ok (.iinc 2 1, 3) := by decide +kernel
theorem dX6_throwsOut_43 : decode cX6_throwsOut 43 = .ok (.goto (-39), 3) := by decide +kernel
theorem dX6_throwsOut_46 : decode cX6_throwsOut 46 = .ok (.aload_n 0, 1) := by decide +kernel
theorem dX6_throwsOut_47 : decode cX6_throwsOut 47 = .ok (.getfield 7, 3) := by decide +kernel
theorem dX6_throwsOut_50 : decode cX6_throwsOut 50 = .ok (.bipush 95, 2) := by decide +kernel
theorem dX6_throwsOut_52 : decode cX6_throwsOut 52 = .ok (.dup2, 1) := by decide +kernel
theorem dX6_throwsOut_53 : decode cX6_throwsOut 53 = .ok (.iaload, 1) := by decide +kernel
theorem dX6_throwsOut_54 : decode cX6_throwsOut 54 = .ok (.iload_n 1, 1) := by decide +kernel
theorem dX6_throwsOut_55 : decode cX6_throwsOut 55 = .ok (.iadd, 1) := by decide +kernel
theorem dX6_throwsOut_56 : decode cX6_throwsOut 56 = .ok (.iastore, 1) := by decide +kernel
theorem dX6_throwsOut_57 : decode cX6_throwsOut 57 = .ok (.iload_n 1, 1) := by decide +kernel
theorem dX6_throwsOut_58 : decode cX6_throwsOut 58 = .ok (.ireturn, 1) := by decide +kernel
theorem dX6_counts_0 : decode cX6_counts 0 = .ok (.aload_n 0, 1) := by decide +kernel
theorem dX6_counts_1 : decode cX6_counts 1 = .ok (.getfield 7, 3) := by decide +kernel
theorem dX6_counts_4 : decode cX6_counts 4 = .ok (.iconst 5, 1) := by decide +kernel
theorem dX6_counts_5 : decode cX6_counts 5 = .ok (.iload_n 1, 1) := by decide +kernel
theorem dX6_counts_6 : decode cX6_counts 6 = .ok (.iadd, 1) := by decide +kernel
theorem dX6_counts_7 : decode cX6_counts 7 = .ok (.aload_n 0, 1) := by decide +kernel
theorem dX6_counts_8 : decode cX6_counts 8 = .ok (.getfield 7, 3) := by decide +kernel
theorem dX6_counts_11 : decode cX6_counts 11 = .ok (.iconst 0, 1) := by decide +kernel
theorem dX6_counts_12 : decode cX6_counts 12 = .ok (.iload_n 1, 1) := by decide +kernel
theorem dX6_counts_13 : decode cX6_counts 13 = .ok (.iadd, 1) := by decide +kernel
theorem dX6_counts_14 : decode cX6_counts 14 = .ok (.iaload, 1) := by decide +kernel
theorem dX6_counts_15 : decode cX6_counts 15 = .ok (.iastore, 1) := by decide +kernel
theorem dX6_counts_16 : decode cX6_counts 16 = .ok (.aload_n 0, 1) := by decide +kernel
theorem dX6_counts_17 : decode cX6_counts 17 = .ok (.invokevirtual 109, 3) := by decide +kernel
theorem dX6_counts_20 : decode cX6_counts 20 = .ok (.ireturn, 1) := by decide +kernel
theorem dX6_rows_0 : decode cX6_rows 0 = .ok (.iload_n 1, 1) := by decide +kernel
theorem dX6_rows_1 : decode cX6_rows 1 = .ok (.invokestatic 113, 3) := by decide +kernel
theorem dX6_rows_4 : decode cX6_rows 4 = .ok (.ifCond .eq 14, 3) := by decide +kernel
theorem dX6_rows_7 : decode cX6_rows 7 = .ok (.iload_n 2, 1) := by decide +kernel
theorem dX6_rows_8 : decode cX6_rows 8 = .ok (.iconst 1, 1) := by decide +kernel
theorem dX6_rows_9 : decode cX6_rows 9 = .ok (.sipush 500, 3) := by decide +kernel
theorem dX6_rows_12 : decode cX6_rows 12 = .ok (.invokestatic 63, 3) := by decide +kernel
theorem dX6_rows_15 : decode cX6_rows 15 = .ok (.ifCond .ne 5, 3) := by decide +kernel
theorem dX6_rows_18 : decode cX6_rows 18 = .ok (.iconst (-1), 1) := by decide +kernel
theorem dX6_rows_19 : decode cX6_rows 19 = .ok (.ireturn, 1) := by decide +kernel
theorem dX6_rows_20 : decode cX6_rows 20 = .ok (.aload_n 0, 1) := by decide +kernel
theorem dX6_rows_21 : decode cX6_rows 21 = .ok (.invokevirtual 116, 3) := by decide +kernel
theorem dX6_rows_24 : decode cX6_rows 24 = .ok (.aload_n 0, 1) := by decide +kernel
theorem dX6_rows_25 : decode cX6_rows 25 = .ok (.getfield 7, 3) := by decide +kernel
theorem dX6_rows_28 : decode cX6_rows 28 = .ok (.iconst 0, 1) := by decide +kernel
theorem dX6_rows_29 : decode cX6_rows 29 = .ok (.iload_n 1, 1) := by decide +kernel
theorem dX6_rows_30 : decode cX6_rows 30 = .ok (.iadd, 1) := by decide +kernel
theorem dX6_rows_31 : decode cX6_rows 31 = .ok (.iaload, 1) := by decide +kernel
theorem dX6_rows_32 : decode cX6_rows 32 = .ok (.istore_n 3, 1) := by decide +kernel
theorem dX6_rows_33 : decode cX6_rows 33 = .ok (.aload_n 0, 1) := by decide +kernel
theorem dX6_rows_34 : decode cX6_rows 34 = .ok (.getfield 7, 3) := by decide +kernel
theorem dX6_rows_37 : decode cX6_rows 37 = .ok (.iconst 0, 1) := by decide +kernel
theorem dX6_rows_38 : decode cX6_rows 38 = .ok (.iload_n 1, 1) := by decide +kernel
theorem dX6_rows_39 : decode cX6_rows 39 = .ok (.iadd, 1) := by decide +kernel
theorem dX6_rows_40 : decode cX6_rows 40 = .ok (.iload_n 2, 1) := by decide +kernel
theorem dX6_rows_41 : decode cX6_rows 41 = .ok (.iastore, 1) := by decide +kernel
theorem dX6_rows_42 : decode cX6_rows 42 = .ok (.iload_n 3, 1) := by decide +kernel
theorem dX6_rows_43 : decode cX6_rows 43 = .ok (.ireturn, 1) := by decide +kernel
theorem dX6_part_0 : decode cX6_part 0 = .ok (.iload_n 1, 1) := by decide +kernel
theorem dX6_part_1 : decode cX6_part 1 = .ok (.invokestatic 113, 3) := by decide +kernel
theorem dX6_part_4 : decode cX6_part 4 = .ok (.ifCond .eq 25, 3) := by decide +kernel
theorem dX6_part_7 : decode cX6_part 7 = .ok (.iload_n 2, 1) := by decide +kernel
theorem dX6_part_8 : decode cX6_part 8 = .ok (.invokestatic 113, 3) := by decide +kernel
theorem dX6_part_11 : decode cX6_part 11 = .ok (.ifCond .eq 18, 3) := by decide +kernel
theorem dX6_part_14 : decode cX6_part 14 = .ok (.iload_n 1, 1) := by decide +kernel
theorem dX6_part_15 : decode cX6_part 15 = .ok (.iload_n 2, 1) := by decide +kernel
theorem dX6_part_16 : decode cX6_part 16 = .ok (.if_icmp .eq 13, 3) := by decide +kernel
theorem dX6_part_19 : decode cX6_part 19 = .ok (.iload_n 3, 1) := by decide +kernel
theorem dX6_part_20 : decode cX6_part 20 = .ok (.iconst 1, 1) := by decide +kernel
theorem dX6_part_21 : decode cX6_part 21 = .ok (.bipush 100, 2) := by decide +kernel
theorem dX6_part_23 : decode cX6_part 23 = .ok (.invokestatic 63, 3) := by decide +kernel
theorem dX6_part_26 : decode cX6_part 26 = .ok (.ifCond .ne 5, 3) := by decide +kernel
theorem dX6_part_29 : decode cX6_part 29 = .ok (.iconst (-1), 1) := by decide +kernel
theorem dX6_part_30 : decode cX6_part 30 = .ok (.ireturn, 1) := by decide +kernel
theorem dX6_part_31 : decode cX6_part 31 = .ok (.aload_n 0, 1) := by decide +kernel
theorem dX6_part_32 : decode cX6_part 32 = .ok (.invokevirtual 116, 3) := by decide +kernel
theorem dX6_part_35 : decode cX6_part 35 = .ok (.aload_n 0, 1) := by decide +kernel
theorem dX6_part_36 : decode cX6_part 36 = .ok (.getfield 7, 3) := by decide +kernel
theorem dX6_part_39 : decode cX6_part 39 = .ok (.bipush 10, 2) := by decide +kernel
theorem dX6_part_41 : decode cX6_part 41 = .ok (.iconst 5, 1) := by decide +kernel
theorem dX6_part_42 : decode cX6_part 42 = .ok (.iload_n 1, 1) := by decide +kernel
theorem dX6_part_43 : decode cX6_part 43 = .ok (.imul, 1) := by decide +kernel
theorem dX6_part_44 : decode cX6_part 44 = .ok (.iadd, 1) := by decide +kernel
theorem dX6_part_45 : decode cX6_part 45 = .ok (.iload_n 2, 1) := by decide +kernel
theorem dX6_part_46 : decode cX6_part 46 = .ok (.iadd, 1) := by decide +kernel
theorem dX6_part_47 : decode cX6_part 47 = .ok (.iload_n 3, 1) := by decide +kernel
theorem dX6_part_48 : decode cX6_part 48 = .ok (.iastore, 1) := by decide +kernel
theorem dX6_part_49 : decode cX6_part 49 = .ok (.aload_n 0, 1) := by decide +kernel
theorem dX6_part_50 : decode cX6_part 50 = .ok (.getfield 7, 3) := by decide +kernel
theorem dX6_part_53 : decode cX6_part 53 = .ok (.bipush 10, 2) := by decide +kernel
theorem dX6_part_55 : decode cX6_part 55 = .ok (.iconst 5, 1) := by decide +kernel
theorem dX6_part_56 : decode cX6_part 56 = .ok (.iload_n 2, 1) := by decide +kernel
theorem dX6_part_57 : decode cX6_part 57 = .ok (.imul, 1) := by decide +kernel
theorem dX6_part_58 : decode cX6_part 58 = .ok (.iadd, 1) := by decide +kernel
theorem dX6_part_59 : decode cX6_part 59 = .ok (.iload_n 1, 1) := by decide +kernel
theorem dX6_part_60 : decode cX6_part 60 = .ok (.iadd, 1) := by decide +kernel
theorem dX6_part_61 : decode cX6_part 61 = .ok (.iload_n 3, 1) := by decide +kernel
theorem dX6_part_62 : decode cX6_part 62 = .ok (.iastore, 1) := by decide +kernel
theorem dX6_part_63 : decode cX6_part 63 = .ok (.iconst 1, 1) := by decide +kernel
theorem dX6_part_64 : decode cX6_part 64 = .ok (.iload_n 1, 1) := by decide +kernel
theorem dX6_part_65 : decode cX6_part 65 = .ok (.ishl, 1) := by decide +kernel
theorem dX6_part_66 : decode cX6_part 66 = .ok (.iconst 1, 1) := by decide +kernel
theorem dX6_part_67 : decode cX6_part 67 = .ok (.iload_n 2, 1) := by decide +kernel
theorem dX6_part_68 : decode cX6_part 68 = .ok (.ishl, 1) := by decide +kernel
theorem dX6_part_69 : decode cX6_part 69 = .ok (.ior, 1) := by decide +kernel
theorem dX6_part_70 : decode cX6_part 70 = .ok (.istore 4, 2) := by decide +kernel
theorem dX6_part_72 : decode cX6_part 72 = .ok (.iconst 0, 1) := by decide +kernel
theorem dX6_part_73 : decode cX6_part 73 = .ok (.istore 5, 2) := by decide +kernel
theorem dX6_part_75 : decode cX6_part 75 = .ok (.iconst 0, 1) := by decide +kernel
theorem dX6_part_76 : decode cX6_part 76 = .ok (.istore 6, 2) := by decide +kernel
theorem dX6_part_78 : decode cX6_part 78 = .ok (.iload 6, 2) := by decide +kernel
theorem dX6_part_80 : decode cX6_part 80 = .ok (.iconst 4, 1) := by decide +kernel
theorem dX6_part_81 : decode cX6_part 81 = .ok (.if_icmp .ge 45, 3) := by decide +kernel
theorem dX6_part_84 : decode cX6_part 84 = .ok (.aload_n 0, 1) := by decide +kernel
theorem dX6_part_85 : decode cX6_part 85 = .ok (.iload 6, 2) := by decide +kernel
theorem dX6_part_87 : decode cX6_part 87 = .ok (.invokevirtual 97, 3) := by decide +kernel
theorem dX6_part_90 : decode cX6_part 90 = .ok (.ifCond .eq 30, 3) := by decide +kernel
theorem dX6_part_93 : decode cX6_part 93 = .ok (.aload_n 0, 1) := by decide +kernel
theorem dX6_part_94 : decode cX6_part 94 = .ok (.getfield 7, 3) := by decide +kernel
theorem dX6_part_97 : decode cX6_part 97 = .ok (.iload 6, 2) := by decide +kernel
theorem dX6_part_99 : decode cX6_part 99 = .ok (.invokestatic 90, 3) := by decide +kernel
theorem dX6_part_102 : decode cX6_part 102 = .ok (.iaload, 1) := by decide +kernel
theorem dX6_part_103 : decode cX6_part 103 = .ok (.iload 4, 2) := by decide +kernel
theorem dX6_part_105 : decode cX6_part 105 = .ok (.iand, 1) := by decide +kernel
theorem dX6_part_106 : decode cX6_part 106 = .ok (.iload 4, 2) := by decide +kernel
theorem dX6_part_108 : decode cX6_part 108 = .ok (.if_icmp .ne 12, 3) := by decide +kernel
theorem dX6_part_111 : decode cX6_part 111 = .ok (.aload_n 0, 1) := by decide +kernel
theorem dX6_part_112 : decode cX6_part 112 = .ok (.iload 6, 2) := by decide +kernel
theorem dX6_part_114 : decode cX6_part 114 = .ok (.invokevirtual 105, 3) := by decide +kernel
theorem dX6_part_117 : decode cX6_part 117 = .ok (.iinc 5 1, 3) := by decide +kernel
theorem dX6_part_120 : decode cX6_part 120 = .ok (.iinc 6 1, 3) := by decide +kernel
theorem dX6_part_123 : decode cX6_part 123 = .ok (.goto (-45), 3) := by decide +kernel
theorem dX6_part_126 : decode cX6_part 126 = .ok (.aload_n 0, 1) := by decide +kernel
theorem dX6_part_127 : decode cX6_part 127 = .ok (.getfield 7, 3) := by decide +kernel
theorem dX6_part_130 : decode cX6_part 130 = .ok (.bipush 97, 2) := by decide +kernel
theorem dX6_part_132 : decode cX6_part 132 = .ok (.dup2, 1) := by decide +kernel
theorem dX6_part_133 : decode cX6_part 133 = .ok (.iaload, 1) := by decide +kernel
theorem dX6_part_134 : decode cX6_part 134 = .ok (.iload 5, 2) := by decide +kernel
theorem dX6_part_136 : decode cX6_part 136 = .ok (.iadd, 1) := by decide +kernel
theorem dX6_part_137 : decode cX6_part 137 = .ok (.iastore, 1) := by decide +kernel
theorem dX6_part_138 : decode cX6_part 138 = .ok (.iload 5, 2) := by decide +kernel
theorem dX6_part_140 : decode cX6_part 140 = .ok (.ireturn, 1) := by decide +kernel
theorem dX6_count_0 : decode cX6_count 0 = .ok (.iload_n 1, 1) := by decide +kernel
theorem dX6_count_1 : decode cX6_count 1 = .ok (.invokestatic 113, 3) := by decide +kernel
theorem dX6_count_4 : decode cX6_count 4 = .ok (.ifCond .ne 5, 3) := by decide +kernel
theorem dX6_count_7 : decode cX6_count 7 = .ok (.iconst (-1), 1) := by decide +kernel
theorem dX6_count_8 : decode cX6_count 8 = .ok (.ireturn, 1) := by decide +kernel
theorem dX6_count_9 : decode cX6_count 9 = .ok (.aload_n 0, 1) := by decide +kernel
theorem dX6_count_10 : decode cX6_count 10 = .ok (.invokevirtual 116, 3) := by decide +kernel
theorem dX6_count_13 : decode cX6_count 13 = .ok (.aload_n 0, 1) := by decide +kernel
theorem dX6_count_14 : decode cX6_count 14 = .ok (.iload_n 1, 1) := by decide +kernel
theorem dX6_count_15 : decode cX6_count 15 = .ok (.invokevirtual 119, 3) := by decide +kernel
theorem dX6_count_18 : decode cX6_count 18 = .ok (.ireturn, 1) := by decide +kernel
theorem dX6_slotFor_0 : decode cX6_slotFor 0 = .ok (.aload_n 0, 1) := by decide +kernel
theorem dX6_slotFor_1 : decode cX6_slotFor 1 = .ok (.iconst 0, 1) := by decide +kernel
theorem dX6_slotFor_2 : decode cX6_slotFor 2 = .ok (.invokevirtual 122, 3) := by decide +kernel
theorem dX6_slotFor_5 : decode cX6_slotFor 5 = .ok (.istore_n 1, 1) := by decide +kernel
theorem dX6_slotFor_6 : decode cX6_slotFor 6 = .ok (.iload_n 1, 1) := by decide +kernel
theorem dX6_slotFor_7 : decode cX6_slotFor 7 = .ok (.ifCond .lt 5, 3) := by decide +kernel
theorem dX6_slotFor_10 : decode cX6_slotFor 10 = .ok (.iload_n 1, 1) := by decide +kernel
theorem dX6_slotFor_11 : decode cX6_slotFor 11 = .ok (.ireturn, 1) := by decide +kernel
theorem dX6_slotFor_12 : decode cX6_slotFor 12 = .ok (.bipush (-4), 2) := by decide +kernel
theorem dX6_slotFor_14 : decode cX6_slotFor 14 = .ok (.istore_n 2, 1) := by decide +kernel
theorem dX6_slotFor_15 : decode cX6_slotFor 15 = .ok (.iconst 0, 1) := by decide +kernel
theorem dX6_slotFor_16 : decode cX6_slotFor 16 = .ok (.istore_n 3, 1) := by decide +kernel
theorem dX6_slotFor_17 : decode cX6_slotFor 17 = .ok (.iload_n 3, 1) := by decide +kernel
theorem dX6_slotFor_18 : decode cX6_slotFor 18 = .ok (.iconst 4, 1) := by decide +kernel
theorem dX6_slotFor_19 : decode cX6_slotFor 19 = .ok (.if_icmp .ge 54, 3) := by decide +kernel
theorem dX6_slotFor_22 : decode cX6_slotFor 22 = .ok (.aload_n 0, 1) := by decide +kernel
theorem dX6_slotFor_23 : decode cX6_slotFor 23 = .ok (.iload_n 3, 1) := by decide +kernel
theorem dX6_slotFor_24 : decode cX6_slotFor 24 = .ok (.invokevirtual 97, 3) := by decide +kernel
theorem dX6_slotFor_27 : decode cX6_slotFor 27 = .ok (.ifCond .eq 38, 3) := by decide +kernel
theorem dX6_slotFor_30 : decode cX6_slotFor 30 = .ok (.iload_n 2, 1) := by decide +kernel
theorem dX6_slotFor_31 : decode cX6_slotFor 31 = .ok (.ifCond .lt 30, 3) := by decide +kernel
theorem dX6_slotFor_34 : decode cX6_slotFor 34 = .ok (.aload_n 0, 1) := by decide +kernel
theorem dX6_slotFor_35 : decode cX6_slotFor 35 = .ok (.getfield 7, 3) := by decide +kernel
theorem dX6_slotFor_38 : decode cX6_slotFor 38 = .ok (.iload_n 3, 1) := by decide +kernel
theorem dX6_slotFor_39 : decode cX6_slotFor 39 = .ok (.invokestatic 90, 3) := by decide +kernel
theorem dX6_slotFor_42 : decode cX6_slotFor 42 = .ok (.bipush 12, 2) := by decide +kernel
theorem dX6_slotFor_44 : decode cX6_slotFor 44 = .ok (.iadd, 1) := by decide +kernel
theorem dX6_slotFor_45 : decode cX6_slotFor 45 = .ok (.iaload, 1) := by decide +kernel
theorem dX6_slotFor_46 : decode cX6_slotFor 46 = .ok (.aload_n 0, 1) := by decide +kernel
theorem dX6_slotFor_47 : decode cX6_slotFor 47 = .ok (.getfield 7, 3) := by decide +kernel
theorem dX6_slotFor_50 : decode cX6_slotFor 50 = .ok (.iload_n 2, 1) := by decide +kernel
theorem dX6_slotFor_51 : decode cX6_slotFor 51 = .ok (.invokestatic 90, 3) := by decide +kernel
theorem dX6_slotFor_54 : decode cX6_slotFor 54 = .ok (.bipush 12, 2) := by decide +kernel
theorem dX6_slotFor_56 : decode cX6_slotFor 56 = .ok (.iadd, 1) := by decide +kernel
theorem dX6_slotFor_57 : decode cX6_slotFor 57 = .ok (.iaload, 1) := by decide +kernel
theorem dX6_slotFor_58 : decode cX6_slotFor 58 = .ok (.if_icmp .ge 7, 3) := by decide +kernel
theorem dX6_slotFor_61 : decode cX6_slotFor 61 = .ok (.iload_n 3, 1) := by decide +kernel
theorem dX6_slotFor_62 : decode cX6_slotFor 62 = .ok (.goto 4, 3) := by decide +kernel
theorem dX6_slotFor_65 : decode cX6_slotFor 65 = .ok (.iload_n 2, 1) := by decide +kernel
theorem dX6_slotFor_66 : decode cX6_slotFor 66 = .ok (.istore_n 2, 1) := by decide +kernel
theorem dX6_slotFor_67 : decode cX6_slotFor 67 = .ok (.iinc 3 1, 3) := by decide +kernel
theorem dX6_slotFor_70 : decode cX6_slotFor 70 = .ok (.goto (-53), 3) := by decide +kernel
theorem dX6_slotFor_73 : decode cX6_slotFor 73 = .ok (.aload_n 0, 1) := by decide +kernel
theorem dX6_slotFor_74 : decode cX6_slotFor 74 = .ok (.getfield 7, 3) := by decide +kernel
theorem dX6_slotFor_77 : decode cX6_slotFor 77 = .ok (.bipush 96, 2) := by decide +kernel
theorem dX6_slotFor_79 : decode cX6_slotFor 79 = .ok (.dup2, 1) := by decide +kernel
theorem dX6_slotFor_80 : decode cX6_slotFor 80 = .ok (.iaload, 1) := by decide +kernel
theorem dX6_slotFor_81 : decode cX6_slotFor 81 = .ok (.iload_n 2, 1) := by decide +kernel
theorem dX6_slotFor_82 : decode cX6_slotFor 82 = .ok (.ifCond .ge 7, 3) := by decide +kernel
theorem dX6_slotFor_85 : decode cX6_slotFor 85 = .ok (.iconst 0, 1) := by decide +kernel
theorem dX6_slotFor_86 : decode cX6_slotFor 86 = .ok (.goto 4, 3) := by decide +kernel
theorem dX6_slotFor_89 : decode cX6_slotFor 89 = .ok (.iconst 1, 1) := by decide +kernel
theorem dX6_slotFor_90 : decode cX6_slotFor 90 = .ok (.iadd, 1) := by decide +kernel
theorem dX6_slotFor_91 : decode cX6_slotFor 91 = .ok (.iastore, 1) := by decide +kernel
theorem dX6_slotFor_92 : decode cX6_slotFor 92 = .ok (.iload_n 2, 1) := by decide +kernel
theorem dX6_slotFor_93 : decode cX6_slotFor 93 = .ok (.ireturn, 1) := by decide +kernel
theorem dX6_makes_0 : decode cX6_makes 0 = .ok (.aload_n 0, 1) := by decide +kernel
theorem dX6_makes_1 : decode cX6_makes 1 = .ok (.iload_n 1, 1) := by decide +kernel
theorem dX6_makes_2 : decode cX6_makes 2 = .ok (.iconst 5, 1) := by decide +kernel
theorem dX6_makes_3 : decode cX6_makes 3 = .ok (.invokevirtual 125, 3) := by decide +kernel
theorem dX6_makes_6 : decode cX6_makes 6 = .ok (.lstore_n 2, 1) := by decide +kernel
theorem dX6_makes_7 : decode cX6_makes 7 = .ok (.lload_n 2, 1) := by decide +kernel
theorem dX6_makes_8 : decode cX6_makes 8 = .ok (.lconst 0, 1) := by decide +kernel
theorem dX6_makes_9 : decode cX6_makes 9 = .ok (.lcmp, 1) := by decide +kernel
theorem dX6_makes_10 : decode cX6_makes 10 = .ok (.ifCond .ge 8, 3) := by decide +kernel
theorem dX6_makes_13 : decode cX6_makes 13 = .ok (.bipush (-4), 2) := by decide +kernel
theorem dX6_makes_15 : decode cX6_makes 15 = .ok (.goto 7, 3) := by decide +kernel
theorem dX6_makes_18 : decode cX6_makes 18 = .ok (.aload_n 0, 1) := by decide +kernel
theorem dX6_makes_19 : decode cX6_makes 19 = .ok (.invokevirtual 128, 3) := by decide +kernel
theorem dX6_makes_22 : decode cX6_makes 22 = .ok (.istore 4, 2) := by decide +kernel
theorem dX6_makes_24 : decode cX6_makes 24 = .ok (.aload_n 0, 1) := by decide +kernel
theorem dX6_makes_25 : decode cX6_makes 25 = .ok (.getfield 7, 3) := by decide +kernel
theorem dX6_makes_28 : decode cX6_makes 28 = .ok (.bipush 94, 2) := by decide +kernel
theorem dX6_makes_30 : decode cX6_makes 30 = .ok (.dup2, 1) := by decide +kernel
theorem dX6_makes_31 : decode cX6_makes 31 = .ok (.iaload, 1) := by decide +kernel
theorem dX6_makes_32 : decode cX6_makes 32 = .ok (.iconst 1, 1) := by decide +kernel
theorem dX6_makes_33 : decode cX6_makes 33 = .ok (.iadd, 1) := by decide +kernel
theorem dX6_makes_34 : decode cX6_makes 34 = .ok (.iastore, 1) := by decide +kernel
theorem dX6_makes_35 : decode cX6_makes 35 = .ok (.iconst 0, 1) := by decide +kernel
theorem dX6_makes_36 : decode cX6_makes 36 = .ok (.istore 5, 2) := by decide +kernel
theorem dX6_makes_38 : decode cX6_makes 38 = .ok (.iload 5, 2) := by decide +kernel
theorem dX6_makes_40 : decode cX6_makes 40 = .ok (.aload_n 0, 1) := by decide +kernel
theorem dX6_makes_41 : decode cX6_makes 41 = .ok (.getfield 69, 3) := by decide +kernel
theorem dX6_makes_44 : decode cX6_makes 44 = .ok (.if_icmp .ge 23, 3) := by decide +kernel
theorem dX6_makes_47 : decode cX6_makes 47 = .ok (.aload_n 0, 1) := by decide +kernel
theorem dX6_makes_48 : decode cX6_makes 48 = .ok (.getfield 41, 3) := by decide +kernel
theorem dX6_makes_51 : decode cX6_makes 51 = .ok (.iload 5, 2) := by decide +kernel
theorem dX6_makes_53 : decode cX6_makes 53 = .ok (.aload_n 0, 1) := by decide +kernel
theorem dX6_makes_54 : decode cX6_makes 54 = .ok (.getfield 44, 3) := by decide +kernel
theorem dX6_makes_57 : decode cX6_makes 57 = .ok (.iload 5, 2) := by decide +kernel
theorem dX6_makes_59 : decode cX6_makes 59 = .ok (.iaload, 1) := by decide +kernel
theorem dX6_makes_60 : decode cX6_makes 60 = .ok (.iastore, 1) := by decide +kernel
theorem dX6_makes_61 : decode cX6_makes 61 = .ok (.iinc 5 1, 3) := by decide +kernel
theorem dX6_makes_64 : decode cX6_makes 64 = .ok (.goto (-26), 3) := by decide +kernel
theorem dX6_makes_67 : decode cX6_makes 67 = .ok (.aload_n 0, 1) := by decide +kernel
theorem dX6_makes_68 : decode cX6_makes 68 = .ok (.iconst 0, 1) := by decide +kernel
theorem dX6_makes_69 : decode cX6_makes 69 = .ok (.invokevirtual 82, 3) := by decide +kernel
theorem dX6_makes_72 : decode cX6_makes 72 = .ok (.lstore 5, 2) := by decide +kernel
theorem dX6_makes_74 : decode cX6_makes 74 = .ok (.iload 4, 2) := by decide +kernel
theorem dX6_makes_76 : decode cX6_makes 76 = .ok (.ifCond .ge 17, 3) := by decide +kernel
theorem dX6_makes_79 : decode cX6_makes 79 = .ok (.aload_n 0, 1) := by decide +kernel
theorem dX6_makes_80 : decode cX6_makes 80 = .ok (.getfield 7, 3) := by decide +kernel
theorem dX6_makes_83 : decode cX6_makes 83 = .ok (.bipush 99, 2) := by decide +kernel
theorem dX6_makes_85 : decode cX6_makes 85 = .ok (.dup2, 1) := by decide +kernel
theorem dX6_makes_86 : decode cX6_makes 86 = .ok (.iaload, 1) := by decide +kernel
theorem dX6_makes_87 : decode cX6_makes 87 = .ok (.iconst 1, 1) := by decide +kernel
theorem dX6_makes_88 : decode cX6_makes 88 = .ok (.iadd, 1) := by decide +kernel
theorem dX6_makes_89 : decode cX6_makes 89 = .ok (.iastore, 1) := by decide +kernel
theorem dX6_makes_90 : decode cX6_makes 90 = .ok (.lload 5, 2) := by decide +kernel
theorem dX6_makes_92 : decode cX6_makes 92 = .ok (.lreturn, 1) := by decide +kernel
theorem dX6_makes_93 : decode cX6_makes 93 = .ok (.aload_n 0, 1) := by decide +kernel
theorem dX6_makes_94 : decode cX6_makes 94 = .ok (.iload 4, 2) := by decide +kernel
theorem dX6_makes_96 : decode cX6_makes 96 = .ok (.invokevirtual 105, 3) := by decide +kernel
theorem dX6_makes_99 : decode cX6_makes 99 = .ok (.aload_n 0, 1) := by decide +kernel
theorem dX6_makes_100 : decode cX6_makes 100 = .ok (.getfield 7, 3) := by decide +kernel
theorem dX6_makes_103 : decode cX6_makes 103 = .ok (.iload 4, 2) := by decide +kernel
theorem dX6_makes_105 : decode cX6_makes 105 = .ok (.invokestatic 90, 3) := by decide +kernel
theorem dX6_makes_108 : decode cX6_makes 108 = .ok (.iload_n 1, 1) := by decide +kernel
theorem dX6_makes_109 : decode cX6_makes 109 = .ok (.iastore, 1) := by decide +kernel
theorem dX6_makes_110 : decode cX6_makes 110 = .ok (.iconst 0, 1) := by decide +kernel
theorem dX6_makes_111 : decode cX6_makes 111 = .ok (.istore 7, 2) := by decide +kernel
theorem dX6_makes_113 : decode cX6_makes 113 = .ok (.iload 7, 2) := by decide +kernel
theorem dX6_makes_115 : decode cX6_makes 115 = .ok (.aload_n 0, 1) := by decide +kernel
theorem dX6_makes_116 : decode cX6_makes 116 = .ok (.getfield 69, 3) := by decide +kernel
theorem dX6_makes_119 : decode cX6_makes 119 = .ok (.if_icmp .ge 31, 3) := by decide +kernel
theorem dX6_makes_122 : decode cX6_makes 122 = .ok (.aload_n 0, 1) := by decide +kernel
theorem dX6_makes_123 : decode cX6_makes 123 = .ok (.getfield 7, 3) := by decide +kernel
theorem dX6_makes_126 : decode cX6_makes 126 = .ok (.iload 4, 2) := by decide +kernel
theorem dX6_makes_128 : decode cX6_makes 128 = .ok (.invokestatic 90, 3) := by decide +kernel
theorem dX6_makes_131 : decode cX6_makes 131 = .ok (.iconst 1, 1) := by decide +kernel
theorem dX6_makes_132 : decode cX6_makes 132 = .ok (.iadd, 1) := by decide +kernel
theorem dX6_makes_133 : decode cX6_makes 133 = .ok (.iload 7, 2) := by decide +kernel
theorem dX6_makes_135 : decode cX6_makes 135 = .ok (.iadd, 1) := by decide +kernel
theorem dX6_makes_136 : decode cX6_makes 136 = .ok (.aload_n 0, 1) := by decide +kernel
theorem dX6_makes_137 : decode cX6_makes 137 = .ok (.getfield 44, 3) := by decide +kernel
theorem dX6_makes_140 : decode cX6_makes 140 = .ok (.iload 7, 2) := by decide +kernel
theorem dX6_makes_142 : decode cX6_makes 142 = .ok (.iaload, 1) := by decide +kernel
theorem dX6_makes_143 : decode cX6_makes 143 = .ok (.iastore, 1) := by decide +kernel
theorem dX6_makes_144 : decode cX6_makes 144 = .ok (.iinc 7 1, 3) := by decide +kernel
theorem dX6_makes_147 : decode cX6_makes 147 = .ok (.goto (-34), 3) := by decide +kernel
theorem dX6_makes_150 : decode cX6_makes 150 = .ok (.iconst 0, 1) := by decide +kernel
theorem dX6_makes_151 : decode cX6_makes 151 = .ok (.istore 7, 2) := by decide +kernel
theorem dX6_makes_153 : decode cX6_makes 153 = .ok (.iload 7, 2) := by decide +kernel
theorem dX6_makes_155 : decode cX6_makes 155 = .ok (.iconst 5, 1) := by decide +kernel
theorem dX6_makes_156 : decode cX6_makes 156 = .ok (.if_icmp .ge 34, 3) := by decide +kernel
theorem dX6_makes_159 : decode cX6_makes 159 = .ok (.aload_n 0, 1) := by decide +kernel
theorem dX6_makes_160 : decode cX6_makes 160 = .ok (.getfield 7, 3) := by decide +kernel
theorem dX6_makes_163 : decode cX6_makes 163 = .ok (.iload 4, 2) := by decide +kernel
theorem dX6_makes_165 : decode cX6_makes 165 = .ok (.invokestatic 90, 3) := by decide +kernel
theorem dX6_makes_168 : decode cX6_makes 168 = .ok (.bipush 6, 2) := by decide +kernel
theorem dX6_makes_170 : decode cX6_makes 170 = .ok (.iadd, 1) := by decide +kernel
theorem dX6_makes_171 : decode cX6_makes 171 = .ok (.iload 7, 2) := by decide +kernel
theorem dX6_makes_173 : decode cX6_makes 173 = .ok (.iadd, 1) := by decide +kernel
theorem dX6_makes_174 : decode cX6_makes 174 = .ok (.aload_n 0, 1) := by decide +kernel
theorem dX6_makes_175 : decode cX6_makes 175 = .ok (.getfield 7, 3) := by decide +kernel
theorem dX6_makes_178 : decode cX6_makes 178 = .ok (.iconst 5, 1) := by decide +kernel
theorem dX6_makes_179 : decode cX6_makes 179 = .ok (.iload 7, 2) := by decide +kernel
theorem dX6_makes_181 : decode cX6_makes 181 = .ok (.iadd, 1) := by decide +kernel
theorem dX6_makes_182 : decode cX6_makes 182 = .ok (.iaload, 1) := by decide +kernel
theorem dX6_makes_183 : decode cX6_makes 183 = .ok (.iastore, 1) := by decide +kernel
theorem dX6_makes_184 : decode cX6_makes 184 = .ok (.iinc 7 1, 3) := by decide +kernel
theorem dX6_makes_187 : decode cX6_makes 187 = .ok (.goto (-34), 3) := by decide +kernel
theorem dX6_makes_190 : decode cX6_makes 190 = .ok (.aload_n 0, 1) := by decide +kernel
theorem dX6_makes_191 : decode cX6_makes 191 = .ok (.getfield 7, 3) := by decide +kernel
theorem dX6_makes_194 : decode cX6_makes 194 = .ok (.iload 4, 2) := by decide +kernel
theorem dX6_makes_196 : decode cX6_makes 196 = .ok (.invokestatic 90, 3) := by decide +kernel
theorem dX6_makes_199 : decode cX6_makes 199 = .ok (.bipush 11, 2) := by decide +kernel
theorem dX6_makes_201 : decode cX6_makes 201 = .ok (.iadd, 1) := by decide +kernel
theorem dX6_makes_202 : decode cX6_makes 202 = .ok (.iconst 1, 1) := by decide +kernel
theorem dX6_makes_203 : decode cX6_makes 203 = .ok (.iastore, 1) := by decide +kernel
theorem dX6_makes_204 : decode cX6_makes 204 = .ok (.aload_n 0, 1) := by decide +kernel
theorem dX6_makes_205 : decode cX6_makes 205 = .ok (.getfield 7, 3) := by decide +kernel
theorem dX6_makes_208 : decode cX6_makes 208 = .ok (.iload 4, 2) := by decide +kernel
theorem dX6_makes_210 : decode cX6_makes 210 = .ok (.invokestatic 90, 3) := by decide +kernel
theorem dX6_makes_213 : decode cX6_makes 213 = .ok (.bipush 12, 2) := by decide +kernel
theorem dX6_makes_215 : decode cX6_makes 215 = .ok (.iadd, 1) := by decide +kernel
theorem dX6_makes_216 : decode cX6_makes 216 = .ok (.aload_n 0, 1) := by decide +kernel
theorem dX6_makes_217 : decode cX6_makes 217 = .ok (.getfield 7, 3) := by decide +kernel
theorem dX6_makes_220 : decode cX6_makes 220 = .ok (.bipush 92, 2) := by decide +kernel
theorem dX6_makes_222 : decode cX6_makes 222 = .ok (.iaload, 1) := by decide +kernel
theorem dX6_makes_223 : decode cX6_makes 223 = .ok (.iastore, 1) := by decide +kernel
theorem dX6_makes_224 : decode cX6_makes 224 = .ok (.lload 5, 2) := by decide +kernel
theorem dX6_makes_226 : decode cX6_makes 226 = .ok (.lreturn, 1) := by decide +kernel
theorem dX6_uses_0 : decode cX6_uses 0 = .ok (.aload_n 0, 1) := by decide +kernel
theorem dX6_uses_1 : decode cX6_uses 1 = .ok (.getfield 7, 3) := by decide +kernel
theorem dX6_uses_4 : decode cX6_uses 4 = .ok (.bipush 93, 2) := by decide +kernel
theorem dX6_uses_6 : decode cX6_uses 6 = .ok (.dup2, 1) := by decide +kernel
theorem dX6_uses_7 : decode cX6_uses 7 = .ok (.iaload, 1) := by decide +kernel
theorem dX6_uses_8 : decode cX6_uses 8 = .ok (.iconst 1, 1) := by decide +kernel
theorem dX6_uses_9 : decode cX6_uses 9 = .ok (.iadd, 1) := by decide +kernel
theorem dX6_uses_10 : decode cX6_uses 10 = .ok (.iastore, 1) := by decide +kernel
theorem dX6_uses_11 : decode cX6_uses 11 = .ok (.aload_n 0, 1) := by decide +kernel
theorem dX6_uses_12 : decode cX6_uses 12 = .ok (.getfield 7, 3) := by decide +kernel
theorem dX6_uses_15 : decode cX6_uses 15 = .ok (.iload_n 1, 1) := by decide +kernel
theorem dX6_uses_16 : decode cX6_uses 16 = .ok (.invokestatic 90, 3) := by decide +kernel
theorem dX6_uses_19 : decode cX6_uses 19 = .ok (.bipush 11, 2) := by decide +kernel
theorem dX6_uses_21 : decode cX6_uses 21 = .ok (.iadd, 1) := by decide +kernel
theorem dX6_uses_22 : decode cX6_uses 22 = .ok (.dup2, 1) := by decide +kernel
theorem dX6_uses_23 : decode cX6_uses 23 = .ok (.iaload, 1) := by decide +kernel
theorem dX6_uses_24 : decode cX6_uses 24 = .ok (.iconst 1, 1) := by decide +kernel
theorem dX6_uses_25 : decode cX6_uses 25 = .ok (.iadd, 1) := by decide +kernel
theorem dX6_uses_26 : decode cX6_uses 26 = .ok (.iastore, 1) := by decide +kernel
theorem dX6_uses_27 : decode cX6_uses 27 = .ok (.aload_n 0, 1) := by decide +kernel
theorem dX6_uses_28 : decode cX6_uses 28 = .ok (.getfield 7, 3) := by decide +kernel
theorem dX6_uses_31 : decode cX6_uses 31 = .ok (.iload_n 1, 1) := by decide +kernel
theorem dX6_uses_32 : decode cX6_uses 32 = .ok (.invokestatic 90, 3) := by decide +kernel
theorem dX6_uses_35 : decode cX6_uses 35 = .ok (.bipush 12, 2) := by decide +kernel
theorem dX6_uses_37 : decode cX6_uses 37 = .ok (.iadd, 1) := by decide +kernel
theorem dX6_uses_38 : decode cX6_uses 38 = .ok (.aload_n 0, 1) := by decide +kernel
theorem dX6_uses_39 : decode cX6_uses 39 = .ok (.getfield 7, 3) := by decide +kernel
theorem dX6_uses_42 : decode cX6_uses 42 = .ok (.bipush 92, 2) := by decide +kernel
theorem dX6_uses_44 : decode cX6_uses 44 = .ok (.iaload, 1) := by decide +kernel
theorem dX6_uses_45 : decode cX6_uses 45 = .ok (.iastore, 1) := by decide +kernel
theorem dX6_uses_46 : decode cX6_uses 46 = .ok (.aload_n 0, 1) := by decide +kernel
theorem dX6_uses_47 : decode cX6_uses 47 = .ok (.iload_n 1, 1) := by decide +kernel
theorem dX6_uses_48 : decode cX6_uses 48 = .ok (.iconst 0, 1) := by decide +kernel
theorem dX6_uses_49 : decode cX6_uses 49 = .ok (.invokevirtual 131, 3) := by decide +kernel
theorem dX6_uses_52 : decode cX6_uses 52 = .ok (.lreturn, 1) := by decide +kernel
theorem dX6_runsOf_0 : decode cX6_runsOf 0 = .ok (.aload_n 0, 1) := by decide +kernel
theorem dX6_runsOf_1 : decode cX6_runsOf 1 = .ok (.getfield 7, 3) := by decide +kernel
theorem dX6_runsOf_4 : decode cX6_runsOf 4 = .ok (.bipush 92, 2) := by decide +kernel
theorem dX6_runsOf_6 : decode cX6_runsOf 6 = .ok (.dup2, 1) := by decide +kernel
theorem dX6_runsOf_7 : decode cX6_runsOf 7 = .ok (.iaload, 1) := by decide +kernel
theorem dX6_runsOf_8 : decode cX6_runsOf 8 = .ok (.iconst 1, 1) := by decide +kernel
theorem dX6_runsOf_9 : decode cX6_runsOf 9 = .ok (.iadd, 1) := by decide +kernel
theorem dX6_runsOf_10 : decode cX6_runsOf 10 = .ok (.iastore, 1) := by decide +kernel
theorem dX6_runsOf_11 : decode cX6_runsOf 11 = .ok (.aload_n 0, 1) := by decide +kernel
theorem dX6_runsOf_12 : decode cX6_runsOf 12 = .ok (.iload_n 1, 1) := by decide +kernel
theorem dX6_runsOf_13 : decode cX6_runsOf 13 = .ok (.invokevirtual 122, 3) := by decide +kernel
theorem dX6_runsOf_16 : decode cX6_runsOf 16 = .ok (.istore_n 2, 1) := by decide +kernel
theorem dX6_runsOf_17 : decode cX6_runsOf 17 = .ok (.iload_n 2, 1) := by decide +kernel
theorem dX6_runsOf_18 : decode cX6_runsOf 18 = .ok (.ifCond .ge 15, 3) := by decide +kernel
theorem dX6_runsOf_21 : decode cX6_runsOf 21 = .ok (.ldc2_w 134, 3) := by decide +kernel
theorem dX6_runsOf_24 : decode cX6_runsOf 24 = .ok (.iload_n 1, 1) := by decide +kernel
theorem dX6_runsOf_25 : decode cX6_runsOf 25 = .ok (.invokestatic 94, 3) := by decide +kernel
theorem dX6_runsOf_28 : decode cX6_runsOf 28 = .ok (.i2l, 1) := by decide +kernel
theorem dX6_runsOf_29 : decode cX6_runsOf 29 = .ok (.lmul, 1) := by decide +kernel
theorem dX6_runsOf_30 : decode cX6_runsOf 30 = .ok (.goto 4, 3) := by decide +kernel
theorem dX6_runsOf_33 : decode cX6_runsOf 33 = .ok (.lconst 0, 1) := by decide +kernel
theorem dX6_runsOf_34 : decode cX6_runsOf 34 = .ok (.lstore_n 3, 1) := by decide +kernel
theorem dX6_runsOf_35 : decode cX6_runsOf 35 = .ok (.iload_n 2, 1) := by decide +kernel
theorem dX6_runsOf_36 : decode cX6_runsOf 36 = .ok (.ifCond .ge 11, 3) := by decide +kernel
theorem dX6_runsOf_39 : decode cX6_runsOf 39 = .ok (.aload_n 0, 1) := by decide +kernel
theorem dX6_runsOf_40 : decode cX6_runsOf 40 = .ok (.iload_n 1, 1) := by decide +kernel
theorem dX6_runsOf_41 : decode cX6_runsOf 41 = .ok (.invokevirtual 136, 3) := by decide +kernel
theorem dX6_runsOf_44 : decode cX6_runsOf 44 = .ok (.goto 8, 3) := by decide +kernel
theorem dX6_runsOf_47 : decode cX6_runsOf 47 = .ok (.aload_n 0, 1) := by decide +kernel
theorem dX6_runsOf_48 : decode cX6_runsOf 48 = .ok (.iload_n 2, 1) := by decide +kernel
theorem dX6_runsOf_49 : decode cX6_runsOf 49 = .ok (.invokevirtual 139, 3) := by decide +kernel
theorem dX6_runsOf_52 : decode cX6_runsOf 52 = .ok (.lstore 5, 2) := by decide +kernel
theorem dX6_runsOf_54 : decode cX6_runsOf 54 = .ok (.aload_n 0, 1) := by decide +kernel
theorem dX6_runsOf_55 : decode cX6_runsOf 55 = .ok (.getfield 22, 3) := by decide +kernel
theorem dX6_runsOf_58 : decode cX6_runsOf 58 = .ok (.iconst 0, 1) := by decide +kernel
theorem dX6_runsOf_59 : decode cX6_runsOf 59 = .ok (.dup2, 1) := by decide +kernel
theorem dX6_runsOf_60 : decode cX6_runsOf 60 = .ok (.laload, 1) := by decide +kernel
theorem dX6_runsOf_61 : decode cX6_runsOf 61 = .ok (.lload 5, 2) := by decide +kernel
theorem dX6_runsOf_63 : decode cX6_runsOf 63 = .ok (.ladd, 1) := by decide +kernel
theorem dX6_runsOf_64 : decode cX6_runsOf 64 = .ok (.lastore, 1) := by decide +kernel
theorem dX6_runsOf_65 : decode cX6_runsOf 65 = .ok (.aload_n 0, 1) := by decide +kernel
theorem dX6_runsOf_66 : decode cX6_runsOf 66 = .ok (.getfield 22, 3) := by decide +kernel
theorem dX6_runsOf_69 : decode cX6_runsOf 69 = .ok (.iconst 1, 1) := by decide +kernel
theorem dX6_runsOf_70 : decode cX6_runsOf 70 = .ok (.dup2, 1) := by decide +kernel
theorem dX6_runsOf_71 : decode cX6_runsOf 71 = .ok (.laload, 1) := by decide +kernel
theorem dX6_runsOf_72 : decode cX6_runsOf 72 = .ok (.lload_n 3, 1) := by decide +kernel
theorem dX6_runsOf_73 : decode cX6_runsOf 73 = .ok (.ladd, 1) := by decide +kernel
theorem dX6_runsOf_74 : decode cX6_runsOf 74 = .ok (.lastore, 1) := by decide +kernel
theorem dX6_runsOf_75 : decode cX6_runsOf 75 = .ok (.iconst 0, 1) := by decide +kernel
theorem dX6_runsOf_76 : decode cX6_runsOf 76 = .ok (.istore 7, 2) := by decide +kernel
theorem dX6_runsOf_78 : decode cX6_runsOf 78 = .ok (.iload 7, 2) := by decide +kernel
theorem dX6_runsOf_80 : decode cX6_runsOf 80 = .ok (.iconst 5, 1) := by decide +kernel
theorem dX6_runsOf_81 : decode cX6_runsOf 81 = .ok (.if_icmp .ge 49, 3) := by decide +kernel
theorem dX6_runsOf_84 : decode cX6_runsOf 84 = .ok (.aload_n 0, 1) := by decide +kernel
theorem dX6_runsOf_85 : decode cX6_runsOf 85 = .ok (.getfield 7, 3) := by decide +kernel
theorem dX6_runsOf_88 : decode cX6_runsOf 88 = .ok (.iconst 5, 1) := by decide +kernel
theorem dX6_runsOf_89 : decode cX6_runsOf 89 = .ok (.iload 7, 2) := by decide +kernel
theorem dX6_runsOf_91 : decode cX6_runsOf 91 = .ok (.iadd, 1) := by decide +kernel
theorem dX6_runsOf_92 : decode cX6_runsOf 92 = .ok (.iload_n 1, 1) := by decide +kernel
theorem dX6_runsOf_93 : decode cX6_runsOf 93 = .ok (.iload 7, 2) := by decide +kernel
theorem dX6_runsOf_95 : decode cX6_runsOf 95 = .ok (.ishr, 1) := by decide +kernel
theorem dX6_runsOf_96 : decode cX6_runsOf 96 = .ok (.iconst 1, 1) := by decide +kernel
theorem dX6_runsOf_97 : decode cX6_runsOf 97 = .ok (.iand, 1) := by decide +kernel
theorem dX6_runsOf_98 : decode cX6_runsOf 98 = .ok (.iconst 1, 1) := by decide +kernel
theorem dX6_runsOf_99 : decode cX6_runsOf 99 = .ok (.if_icmp .ne 15, 3) := by decide +kernel
theorem dX6_runsOf_102 : decode cX6_runsOf 102 = .ok (.aload_n 0, 1) := by decide +kernel
theorem dX6_runsOf_103 : decode cX6_runsOf 103 = .ok (.getfield 7, 3) := by decide +kernel
theorem dX6_runsOf_106 : decode cX6_runsOf 106 = .ok (.iconst 0, 1) := by decide +kernel
theorem dX6_runsOf_107 : decode cX6_runsOf 107 = .ok (.iload 7, 2) := by decide +kernel
theorem dX6_runsOf_109 : decode cX6_runsOf 109 = .ok (.iadd, 1) := by decide +kernel
theorem dX6_runsOf_110 : decode cX6_runsOf 110 = .ok (.iaload, 1) := by decide +kernel
theorem dX6_runsOf_111 : decode cX6_runsOf 111 = .ok (.goto 12, 3) := by decide +kernel
theorem dX6_runsOf_114 : decode cX6_runsOf 114 = .ok (.aload_n 0, 1) := by decide +kernel
theorem dX6_runsOf_115 : decode cX6_runsOf 115 = .ok (.getfield 7, 3) := by decide +kernel
theorem dX6_runsOf_118 : decode cX6_runsOf 118 = .ok (.iconst 5, 1) := by decide +kernel
theorem dX6_runsOf_119 : decode cX6_runsOf 119 = .ok (.iload 7, 2) := by decide +kernel
theorem dX6_runsOf_121 : decode cX6_runsOf 121 = .ok (.iadd, 1) := by decide +kernel
theorem dX6_runsOf_122 : decode cX6_runsOf 122 = .ok (.iaload, 1) := by decide +kernel
theorem dX6_runsOf_123 : decode cX6_runsOf 123 = .ok (.iastore, 1) := by decide +kernel
theorem dX6_runsOf_124 : decode cX6_runsOf 124 = .ok (.iinc 7 1, 3) := by decide +kernel
theorem dX6_runsOf_127 : decode cX6_runsOf 127 = .ok (.goto (-49), 3) := by decide +kernel
theorem dX6_runsOf_130 : decode cX6_runsOf 130 = .ok (.aload_n 0, 1) := by decide +kernel
theorem dX6_runsOf_131 : decode cX6_runsOf 131 = .ok (.invokevirtual 109, 3) := by decide +kernel
theorem dX6_runsOf_134 : decode cX6_runsOf 134 = .ok (.ifCond .ge 8, 3) := by decide +kernel
theorem dX6_runsOf_137 : decode cX6_runsOf 137 = .ok (.lload 5, 2) := by decide +kernel
theorem dX6_runsOf_139 : decode cX6_runsOf 139 = .ok (.goto 7, 3) := by decide +kernel
theorem dX6_runsOf_142 : decode cX6_runsOf 142 = .ok (.lload 5, 2) := by decide +kernel
theorem dX6_runsOf_144 : decode cX6_runsOf 144 = .ok (.lload_n 3, 1) := by decide +kernel
theorem dX6_runsOf_145 : decode cX6_runsOf 145 = .ok (.ladd, 1) := by decide +kernel
theorem dX6_runsOf_146 : decode cX6_runsOf 146 = .ok (.lreturn, 1) := by decide +kernel
theorem dX6_run_0 : decode cX6_run 0 = .ok (.iload_n 1, 1) := by decide +kernel
theorem dX6_run_1 : decode cX6_run 1 = .ok (.invokestatic 142, 3) := by decide +kernel
theorem dX6_run_4 : decode cX6_run 4 = .ok (.ifCond .ne 5, 3) := by decide +kernel
theorem dX6_run_7 : decode cX6_run 7 = .ok (.iconst (-1), 1) := by decide +kernel
theorem dX6_run_8 : decode cX6_run 8 = .ok (.ireturn, 1) := by decide +kernel
theorem dX6_run_9 : decode cX6_run 9 = .ok (.aload_n 0, 1) := by decide +kernel
theorem dX6_run_10 : decode cX6_run 10 = .ok (.invokevirtual 116, 3) := by decide +kernel
theorem dX6_run_13 : decode cX6_run 13 = .ok (.aload_n 0, 1) := by decide +kernel
theorem dX6_run_14 : decode cX6_run 14 = .ok (.iload_n 1, 1) := by decide +kernel
theorem dX6_run_15 : decode cX6_run 15 = .ok (.invokevirtual 145, 3) := by decide +kernel
theorem dX6_run_18 : decode cX6_run 18 = .ok (.invokestatic 148, 3) := by decide +kernel
theorem dX6_run_21 : decode cX6_run 21 = .ok (.ireturn, 1) := by decide +kernel
theorem dX6_pin_0 : decode cX6_pin 0 = .ok (.iload_n 1, 1) := by decide +kernel
theorem dX6_pin_1 : decode cX6_pin 1 = .ok (.invokestatic 142, 3) := by decide +kernel
theorem dX6_pin_4 : decode cX6_pin 4 = .ok (.ifCond .ne 5, 3) := by decide +kernel
theorem dX6_pin_7 : decode cX6_pin 7 = .ok (.iconst (-1), 1) := by decide +kernel
theorem dX6_pin_8 : decode cX6_pin 8 = .ok (.ireturn, 1) := by decide +kernel
theorem dX6_pin_9 : decode cX6_pin 9 = .ok (.aload_n 0, 1) := by decide +kernel
theorem dX6_pin_10 : decode cX6_pin 10 = .ok (.iload_n 1, 1) := by decide +kernel
theorem dX6_pin_11 : decode cX6_pin 11 = .ok (.invokevirtual 122, 3) := by decide +kernel
theorem dX6_pin_14 : decode cX6_pin 14 = .ok (.istore_n 2, 1) := by decide +kernel
theorem dX6_pin_15 : decode cX6_pin 15 = .ok (.iload_n 2, 1) := by decide +kernel
theorem dX6_pin_16 : decode cX6_pin 16 = .ok (.ifCond .ge 6, 3) := by decide +kernel
theorem dX6_pin_19 : decode cX6_pin 19 = .ok (.bipush (-2), 2) := by decide +kernel
theorem dX6_pin_21 : decode cX6_pin 21 = .ok (.ireturn, 1) := by decide +kernel
theorem dX6_pin_22 : decode cX6_pin 22 = .ok (.aload_n 0, 1) := by decide +kernel
theorem dX6_pin_23 : decode cX6_pin 23 = .ok (.invokevirtual 116, 3) := by decide +kernel
theorem dX6_pin_26 : decode cX6_pin 26 = .ok (.iconst 1, 1) := by decide +kernel
theorem dX6_pin_27 : decode cX6_pin 27 = .ok (.aload_n 0, 1) := by decide +kernel
theorem dX6_pin_28 : decode cX6_pin 28 = .ok (.getfield 7, 3) := by decide +kernel
theorem dX6_pin_31 : decode cX6_pin 31 = .ok (.iload_n 2, 1) := by decide +kernel
