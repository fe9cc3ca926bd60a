theorem dX7_fair_66 : decode cX7_fair 66 = .ok (.aload_n 0, 1) := by decide +kernel
theorem dX7_fair_67 : decode cX7_fair 67 = .ok (.getfield 143, 3) := by decide +kernel
theorem dX7_fair_70 : decode cX7_fair 70 = .ok (.iload_n 2, 1) := by decide +kernel
theorem dX7_fair_71 : decode cX7_fair 71 = .ok (.iastore, 1) := by decide +kernel
theorem dX7_fair_72 : decode cX7_fair 72 = .ok (.aload_n 0, 1) := by decide +kernel
theorem dX7_fair_73 : decode cX7_fair 73 = .ok (.getfield 44, 3) := by decide +kernel
theorem dX7_fair_76 : decode cX7_fair 76 = .ok (.aload_n 0, 1) := by decide +kernel
theorem dX7_fair_77 : decode cX7_fair 77 = .ok (.getfield 143, 3) := by decide +kernel
theorem dX7_fair_80 : decode cX7_fair 80 = .ok (.iload_n 3, 1) := by decide +kernel
theorem dX7_fair_81 : decode cX7_fair 81 = .ok (.iastore, 1) := by decide +kernel
theorem dX7_fair_82 : decode cX7_fair 82 = .ok (.aload_n 0, 1) := by decide +kernel
theorem dX7_fair_83 : decode cX7_fair 83 = .ok (.dup, 1) := by decide +kernel
theorem dX7_fair_84 : decode cX7_fair 84 = .ok (.getfield 143, 3) := by decide +kernel
theorem dX7_fair_87 : decode cX7_fair 87 = .ok (.iconst 1, 1) := by decide +kernel
theorem dX7_fair_88 : decode cX7_fair 88 = .ok (.iadd, 1) := by decide +kernel
theorem dX7_fair_89 : decode cX7_fair 89 = .ok (.putfield 143, 3) := by decide +kernel
theorem dX7_fair_92 : decode cX7_fair 92 = .ok (.aload_n 0, 1) := by decide +kernel
theorem dX7_fair_93 : decode cX7_fair 93 = .ok (.getfield 143, 3) := by decide +kernel
theorem dX7_fair_96 : decode cX7_fair 96 = .ok (.iconst 1, 1) := by decide +kernel
theorem dX7_fair_97 : decode cX7_fair 97 = .ok (.isub, 1) := by decide +kernel
theorem dX7_fair_98 : decode cX7_fair 98 = .ok (.ireturn, 1) := by decide +kernel
theorem dX7_isFair_0 : decode cX7_isFair 0 = .ok (.iload_n 1, 1) := by decide +kernel
theorem dX7_isFair_1 : decode cX7_isFair 1 = .ok (.i2l, 1) := by decide +kernel
theorem dX7_isFair_2 : decode cX7_isFair 2 = .ok (.lconst 0, 1) := by decide +kernel
theorem dX7_isFair_3 : decode cX7_isFair 3 = .ok (.aload_n 0, 1) := by decide +kernel
theorem dX7_isFair_4 : decode cX7_isFair 4 = .ok (.getfield 143, 3) := by decide +kernel
theorem dX7_isFair_7 : decode cX7_isFair 7 = .ok (.iconst 1, 1) := by decide +kernel
theorem dX7_isFair_8 : decode cX7_isFair 8 = .ok (.isub, 1) := by decide +kernel
theorem dX7_isFair_9 : decode cX7_isFair 9 = .ok (.i2l, 1) := by decide +kernel
theorem dX7_isFair_10 : decode cX7_isFair 10 = .ok (.invokestatic 75, 3) := by decide +kernel
theorem dX7_isFair_13 : decode cX7_isFair 13 = .ok (.ireturn, 1) := by decide +kernel
theorem dX7_road_0 : decode cX7_road 0 = .ok (.aload_n 0, 1) := by decide +kernel
theorem dX7_road_1 : decode cX7_road 1 = .ok (.iload_n 1, 1) := by decide +kernel
theorem dX7_road_2 : decode cX7_road 2 = .ok (.invokevirtual 146, 3) := by decide +kernel
theorem dX7_road_5 : decode cX7_road 5 = .ok (.ifCond .eq 11, 3) := by decide +kernel
theorem dX7_road_8 : decode cX7_road 8 = .ok (.aload_n 0, 1) := by decide +kernel
theorem dX7_road_9 : decode cX7_road 9 = .ok (.iload_n 2, 1) := by decide +kernel
theorem dX7_road_10 : decode cX7_road 10 = .ok (.invokevirtual 146, 3) := by decide +kernel
theorem dX7_road_13 : decode cX7_road 13 = .ok (.ifCond .ne 6, 3) := by decide +kernel
theorem dX7_road_16 : decode cX7_road 16 = .ok (.bipush (-101), 2) := by decide +kernel
theorem dX7_road_18 : decode cX7_road 18 = .ok (.ireturn, 1) := by decide +kernel
theorem dX7_road_19 : decode cX7_road 19 = .ok (.iload_n 3, 1) := by decide +kernel
theorem dX7_road_20 : decode cX7_road 20 = .ok (.i2l, 1) := by decide +kernel
theorem dX7_road_21 : decode cX7_road 21 = .ok (.lconst 0, 1) := by decide +kernel
theorem dX7_road_22 : decode cX7_road 22 = .ok (.ldc2_w 149, 3) := by decide +kernel
theorem dX7_road_25 : decode cX7_road 25 = .ok (.invokestatic 75, 3) := by decide +kernel
theorem dX7_road_28 : decode cX7_road 28 = .ok (.ifCond .eq 8, 3) := by decide +kernel
theorem dX7_road_31 : decode cX7_road 31 = .ok (.iload_n 1, 1) := by decide +kernel
theorem dX7_road_32 : decode cX7_road 32 = .ok (.iload_n 2, 1) := by decide +kernel
theorem dX7_road_33 : decode cX7_road 33 = .ok (.if_icmp .ne 6, 3) := by decide +kernel
theorem dX7_road_36 : decode cX7_road 36 = .ok (.bipush (-102), 2) := by decide +kernel
theorem dX7_road_38 : decode cX7_road 38 = .ok (.ireturn, 1) := by decide +kernel
theorem dX7_road_39 : decode cX7_road 39 = .ok (.aload_n 0, 1) := by decide +kernel
theorem dX7_road_40 : decode cX7_road 40 = .ok (.getfield 47, 3) := by decide +kernel
theorem dX7_road_43 : decode cX7_road 43 = .ok (.bipush 8, 2) := by decide +kernel
theorem dX7_road_45 : decode cX7_road 45 = .ok (.iload_n 1, 1) := by decide +kernel
theorem dX7_road_46 : decode cX7_road 46 = .ok (.imul, 1) := by decide +kernel
theorem dX7_road_47 : decode cX7_road 47 = .ok (.iload_n 2, 1) := by decide +kernel
theorem dX7_road_48 : decode cX7_road 48 = .ok (.iadd, 1) := by decide +kernel
theorem dX7_road_49 : decode cX7_road 49 = .ok (.iaload, 1) := by decide +kernel
theorem dX7_road_50 : decode cX7_road 50 = .ok (.istore 4, 2) := by decide +kernel
theorem dX7_road_52 : decode cX7_road 52 = .ok (.aload_n 0, 1) := by decide +kernel
theorem dX7_road_53 : decode cX7_road 53 = .ok (.getfield 47, 3) := by decide +kernel
theorem dX7_road_56 : decode cX7_road 56 = .ok (.bipush 8, 2) := by decide +kernel
theorem dX7_road_58 : decode cX7_road 58 = .ok (.iload_n 1, 1) := by decide +kernel
theorem dX7_road_59 : decode cX7_road 59 = .ok (.imul, 1) := by decide +kernel
theorem dX7_road_60 : decode cX7_road 60 = .ok (.iload_n 2, 1) := by decide +kernel
theorem dX7_road_61 : decode cX7_road 61 = .ok (.iadd, 1) := by decide +kernel
theorem dX7_road_62 : decode cX7_road 62 = .ok (.iload_n 3, 1) := by decide +kernel
theorem dX7_road_63 : decode cX7_road 63 = .ok (.iastore, 1) := by decide +kernel
theorem dX7_road_64 : decode cX7_road 64 = .ok (.aload_n 0, 1) := by decide +kernel
theorem dX7_road_65 : decode cX7_road 65 = .ok (.getfield 47, 3) := by decide +kernel
theorem dX7_road_68 : decode cX7_road 68 = .ok (.bipush 8, 2) := by decide +kernel
theorem dX7_road_70 : decode cX7_road 70 = .ok (.iload_n 2, 1) := by decide +kernel
theorem dX7_road_71 : decode cX7_road 71 = .ok (.imul, 1) := by decide +kernel
theorem dX7_road_72 : decode cX7_road 72 = .ok (.iload_n 1, 1) := by decide +kernel
theorem dX7_road_73 : decode cX7_road 73 = .ok (.iadd, 1) := by decide +kernel
theorem dX7_road_74 : decode cX7_road 74 = .ok (.iload_n 3, 1) := by decide +kernel
theorem dX7_road_75 : decode cX7_road 75 = .ok (.iastore, 1) := by decide +kernel
theorem dX7_road_76 : decode cX7_road 76 = .ok (.iload 4, 2) := by decide +kernel
theorem dX7_road_78 : decode cX7_road 78 = .ok (.ireturn, 1) := by decide +kernel
theorem dX7_lay_0 : decode cX7_lay 0 = .ok (.aload_n 0, 1) := by decide +kernel
theorem dX7_lay_1 : decode cX7_lay 1 = .ok (.iconst 0, 1) := by decide +kernel
theorem dX7_lay_2 : decode cX7_lay 2 = .ok (.putfield 151, 3) := by decide +kernel
theorem dX7_lay_5 : decode cX7_lay 5 = .ok (.iconst 0, 1) := by decide +kernel
theorem dX7_lay_6 : decode cX7_lay 6 = .ok (.istore_n 2, 1) := by decide +kernel
theorem dX7_lay_7 : decode cX7_lay 7 = .ok (.iload_n 2, 1) := by decide +kernel
theorem dX7_lay_8 : decode cX7_lay 8 = .ok (.aload_n 0, 1) := by decide +kernel
theorem dX7_lay_9 : decode cX7_lay 9 = .ok (.getfield 143, 3) := by decide +kernel
theorem dX7_lay_12 : decode cX7_lay 12 = .ok (.if_icmp .ge 86, 3) := by decide +kernel
theorem dX7_lay_15 : decode cX7_lay 15 = .ok (.iload_n 1, 1) := by decide +kernel
theorem dX7_lay_16 : decode cX7_lay 16 = .ok (.iload_n 2, 1) := by decide +kernel
theorem dX7_lay_17 : decode cX7_lay 17 = .ok (.ishr, 1) := by decide +kernel
theorem dX7_lay_18 : decode cX7_lay 18 = .ok (.iconst 1, 1) := by decide +kernel
theorem dX7_lay_19 : decode cX7_lay 19 = .ok (.iand, 1) := by decide +kernel
theorem dX7_lay_20 : decode cX7_lay 20 = .ok (.iconst 1, 1) := by decide +kernel
theorem dX7_lay_21 : decode cX7_lay 21 = .ok (.if_icmp .ne 71, 3) := by decide +kernel
theorem dX7_lay_24 : decode cX7_lay 24 = .ok (.aload_n 0, 1) := by decide +kernel
theorem dX7_lay_25 : decode cX7_lay 25 = .ok (.getfield 151, 3) := by decide +kernel
theorem dX7_lay_28 : decode cX7_lay 28 = .ok (.istore_n 3, 1) := by decide +kernel
theorem dX7_lay_29 : decode cX7_lay 29 = .ok (.iload_n 3, 1) := by decide +kernel
theorem dX7_lay_30 : decode cX7_lay 30 = .ok (.ifCond .le 45, 3) := by decide +kernel
theorem dX7_lay_33 : decode cX7_lay 33 = .ok (.aload_n 0, 1) := by decide +kernel
theorem dX7_lay_34 : decode cX7_lay 34 = .ok (.getfield 38, 3) := by decide +kernel
theorem dX7_lay_37 : decode cX7_lay 37 = .ok (.aload_n 0, 1) := by decide +kernel
theorem dX7_lay_38 : decode cX7_lay 38 = .ok (.getfield 50, 3) := by decide +kernel
theorem dX7_lay_41 : decode cX7_lay 41 = .ok (.iload_n 3, 1) := by decide +kernel
theorem dX7_lay_42 : decode cX7_lay 42 = .ok (.iconst 1, 1) := by decide +kernel
theorem dX7_lay_43 : decode cX7_lay 43 = .ok (.isub, 1) := by decide +kernel
theorem dX7_lay_44 : decode cX7_lay 44 = .ok (.iaload, 1) := by decide +kernel
theorem dX7_lay_45 : decode cX7_lay 45 = .ok (.iaload, 1) := by decide +kernel
theorem dX7_lay_46 : decode cX7_lay 46 = .ok (.aload_n 0, 1) := by decide +kernel
theorem dX7_lay_47 : decode cX7_lay 47 = .ok (.getfield 38, 3) := by decide +kernel
theorem dX7_lay_50 : decode cX7_lay 50 = .ok (.iload_n 2, 1) := by decide +kernel
theorem dX7_lay_51 : decode cX7_lay 51 = .ok (.iaload, 1) := by decide +kernel
theorem dX7_lay_52 : decode cX7_lay 52 = .ok (.if_icmp .le 23, 3) := by decide +kernel
theorem dX7_lay_55 : decode cX7_lay 55 = .ok (.aload_n 0, 1) := by decide +kernel
theorem dX7_lay_56 : decode cX7_lay 56 = .ok (.getfield 50, 3) := by decide +kernel
theorem dX7_lay_59 : decode cX7_lay 59 = .ok (.iload_n 3, 1) := by decide +kernel
theorem dX7_lay_60 : decode cX7_lay 60 = .ok (.aload_n 0, 1) := by decide +kernel
theorem dX7_lay_61 : decode cX7_lay 61 = .ok (.getfield 50, 3) := by decide +kernel
theorem dX7_lay_64 : decode cX7_lay 64 = .ok (.iload_n 3, 1) := by decide +kernel
theorem dX7_lay_65 : decode cX7_lay 65 = .ok (.iconst 1, 1) := by decide +kernel
theorem dX7_lay_66 : decode cX7_lay 66 = .ok (.isub, 1) := by decide +kernel
theorem dX7_lay_67 : decode cX7_lay 67 = .ok (.iaload, 1) := by decide +kernel
theorem dX7_lay_68 : decode cX7_lay 68 = .ok (.iastore, 1) := by decide +kernel
theorem dX7_lay_69 : decode cX7_lay 69 = .ok (.iinc 3 (-1), 3) := by decide +kernel
theorem dX7_lay_72 : decode cX7_lay 72 = .ok (.goto (-43), 3) := by decide +kernel
theorem dX7_lay_75 : decode cX7_lay 75 = .ok (.aload_n 0, 1) := by decide +kernel
theorem dX7_lay_76 : decode cX7_lay 76 = .ok (.getfield 50, 3) := by decide +kernel
theorem dX7_lay_79 : decode cX7_lay 79 = .ok (.iload_n 3, 1) := by decide +kernel
theorem dX7_lay_80 : decode cX7_lay 80 = .ok (.iload_n 2, 1) := by decide +kernel
theorem dX7_lay_81 : decode cX7_lay 81 = .ok (.iastore, 1) := by decide +kernel
theorem dX7_lay_82 : decode cX7_lay 82 = .ok (.aload_n 0, 1) := by decide +kernel
theorem dX7_lay_83 : decode cX7_lay 83 = .ok (.dup, 1) := by decide +kernel
theorem dX7_lay_84 : decode cX7_lay 84 = .ok (.getfield 151, 3) := by decide +kernel
theorem dX7_lay_87 : decode cX7_lay 87 = .ok (.iconst 1, 1) := by decide +kernel
theorem dX7_lay_88 : decode cX7_lay 88 = .ok (.iadd, 1) := by decide +kernel
theorem dX7_lay_89 : decode cX7_lay 89 = .ok (.putfield 151, 3) := by decide +kernel
theorem dX7_lay_92 : decode cX7_lay 92 = .ok (.iinc 2 1, 3) := by decide +kernel
theorem dX7_lay_95 : decode cX7_lay 95 = .ok (.goto (-88), 3) := by decide +kernel
theorem dX7_lay_98 : decode cX7_lay 98 = .ok (.iconst 1, 1) := by decide +kernel
theorem dX7_lay_99 : decode cX7_lay 99 = .ok (.istore_n 2, 1) := by decide +kernel
theorem dX7_lay_100 : decode cX7_lay 100 = .ok (.iconst 1, 1) := by decide +kernel
theorem dX7_lay_101 : decode cX7_lay 101 = .ok (.istore_n 3, 1) := by decide +kernel
theorem dX7_lay_102 : decode cX7_lay 102 = .ok (.iload_n 3, 1) := by decide +kernel
theorem dX7_lay_103 : decode cX7_lay 103 = .ok (.aload_n 0, 1) := by decide +kernel
theorem dX7_lay_104 : decode cX7_lay 104 = .ok (.getfield 151, 3) := by decide +kernel
theorem dX7_lay_107 : decode cX7_lay 107 = .ok (.if_icmp .ge 70, 3) := by decide +kernel
theorem dX7_lay_110 : decode cX7_lay 110 = .ok (.iload_n 2, 1) := by decide +kernel
theorem dX7_lay_111 : decode cX7_lay 111 = .ok (.ifCond .eq 58, 3) := by decide +kernel
theorem dX7_lay_114 : decode cX7_lay 114 = .ok (.aload_n 0, 1) := by decide +kernel
theorem dX7_lay_115 : decode cX7_lay 115 = .ok (.getfield 38, 3) := by decide +kernel
theorem dX7_lay_118 : decode cX7_lay 118 = .ok (.aload_n 0, 1) := by decide +kernel
theorem dX7_lay_119 : decode cX7_lay 119 = .ok (.getfield 50, 3) := by decide +kernel
theorem dX7_lay_122 : decode cX7_lay 122 = .ok (.iload_n 3, 1) := by decide +kernel
theorem dX7_lay_123 : decode cX7_lay 123 = .ok (.iaload, 1) := by decide +kernel
theorem dX7_lay_124 : decode cX7_lay 124 = .ok (.iaload, 1) := by decide +kernel
theorem dX7_lay_125 : decode cX7_lay 125 = .ok (.aload_n 0, 1) := by decide +kernel
theorem dX7_lay_126 : decode cX7_lay 126 = .ok (.getfield 41, 3) := by decide +kernel
theorem dX7_lay_129 : decode cX7_lay 129 = .ok (.aload_n 0, 1) := by decide +kernel
theorem dX7_lay_130 : decode cX7_lay 130 = .ok (.getfield 50, 3) := by decide +kernel
theorem dX7_lay_133 : decode cX7_lay 133 = .ok (.iload_n 3, 1) := by decide +kernel
theorem dX7_lay_134 : decode cX7_lay 134 = .ok (.iconst 1, 1) := by decide +kernel
theorem dX7_lay_135 : decode cX7_lay 135 = .ok (.isub, 1) := by decide +kernel
theorem dX7_lay_136 : decode cX7_lay 136 = .ok (.iaload, 1) := by decide +kernel
theorem dX7_lay_137 : decode cX7_lay 137 = .ok (.iaload, 1) := by decide +kernel
theorem dX7_lay_138 : decode cX7_lay 138 = .ok (.aload_n 0, 1) := by decide +kernel
theorem dX7_lay_139 : decode cX7_lay 139 = .ok (.getfield 47, 3) := by decide +kernel
theorem dX7_lay_142 : decode cX7_lay 142 = .ok (.bipush 8, 2) := by decide +kernel
theorem dX7_lay_144 : decode cX7_lay 144 = .ok (.aload_n 0, 1) := by decide +kernel
theorem dX7_lay_145 : decode cX7_lay 145 = .ok (.getfield 50, 3) := by decide +kernel
theorem dX7_lay_148 : decode cX7_lay 148 = .ok (.iload_n 3, 1) := by decide +kernel
theorem dX7_lay_149 : decode cX7_lay 149 = .ok (.iconst 1, 1) := by decide +kernel
theorem dX7_lay_150 : decode cX7_lay 150 = .ok (.isub, 1) := by decide +kernel
theorem dX7_lay_151 : decode cX7_lay 151 = .ok (.iaload, 1) := by decide +kernel
theorem dX7_lay_152 : decode cX7_lay 152 = .ok (.imul, 1) := by decide +kernel
theorem dX7_lay_153 : decode cX7_lay 153 = .ok (.aload_n 0, 1) := by decide +kernel
theorem dX7_lay_154 : decode cX7_lay 154 = .ok (.getfield 50, 3) := by decide +kernel
theorem dX7_lay_157 : decode cX7_lay 157 = .ok (.iload_n 3, 1) := by decide +kernel
theorem dX7_lay_158 : decode cX7_lay 158 = .ok (.iaload, 1) := by decide +kernel
theorem dX7_lay_159 : decode cX7_lay 159 = .ok (.iadd, 1) := by decide +kernel
theorem dX7_lay_160 : decode cX7_lay 160 = .ok (.iaload, 1) := by decide +kernel
theorem dX7_lay_161 : decode cX7_lay 161 = .ok (.iadd, 1) := by decide +kernel
theorem dX7_lay_162 : decode cX7_lay 162 = .ok (.if_icmp .le 7, 3) := by decide +kernel
theorem dX7_lay_165 : decode cX7_lay 165 = .ok (.iconst 1, 1) := by decide +kernel
theorem dX7_lay_166 : decode cX7_lay 166 = .ok (.goto 4, 3) := by decide +kernel
theorem dX7_lay_169 : decode cX7_lay 169 = .ok (.iconst 0, 1) := by decide +kernel
theorem dX7_lay_170 : decode cX7_lay 170 = .ok (.istore_n 2, 1) := by decide +kernel
theorem dX7_lay_171 : decode cX7_lay 171 = .ok (.iinc 3 1, 3) := by decide +kernel
theorem dX7_lay_174 : decode cX7_lay 174 = .ok (.goto (-72), 3) := by decide +kernel
theorem dX7_lay_177 : decode cX7_lay 177 = .ok (.iload_n 2, 1) := by decide +kernel
theorem dX7_lay_178 : decode cX7_lay 178 = .ok (.ireturn, 1) := by decide +kernel
theorem dX7_isLess_0 : decode cX7_isLess 0 = .ok (.iconst 0, 1) := by decide +kernel
theorem dX7_isLess_1 : decode cX7_isLess 1 = .ok (.istore_n 1, 1) := by decide +kernel
theorem dX7_isLess_2 : decode cX7_isLess 2 = .ok (.iload_n 1, 1) := by decide +kernel
theorem dX7_isLess_3 : decode cX7_isLess 3 = .ok (.aload_n 0, 1) := by decide +kernel
theorem dX7_isLess_4 : decode cX7_isLess 4 = .ok (.getfield 151, 3) := by decide +kernel
theorem dX7_isLess_7 : decode cX7_isLess 7 = .ok (.if_icmp .ge 45, 3) := by decide +kernel
theorem dX7_isLess_10 : decode cX7_isLess 10 = .ok (.aload_n 0, 1) := by decide +kernel
theorem dX7_isLess_11 : decode cX7_isLess 11 = .ok (.getfield 50, 3) := by decide +kernel
theorem dX7_isLess_14 : decode cX7_isLess 14 = .ok (.iload_n 1, 1) := by decide +kernel
theorem dX7_isLess_15 : decode cX7_isLess 15 = .ok (.iaload, 1) := by decide +kernel
theorem dX7_isLess_16 : decode cX7_isLess 16 = .ok (.aload_n 0, 1) := by decide +kernel
theorem dX7_isLess_17 : decode cX7_isLess 17 = .ok (.getfield 53, 3) := by decide +kernel
theorem dX7_isLess_20 : decode cX7_isLess 20 = .ok (.iload_n 1, 1) := by decide +kernel
theorem dX7_isLess_21 : decode cX7_isLess 21 = .ok (.iaload, 1) := by decide +kernel
theorem dX7_isLess_22 : decode cX7_isLess 22 = .ok (.if_icmp .eq 24, 3) := by decide +kernel
theorem dX7_isLess_25 : decode cX7_isLess 25 = .ok (.aload_n 0, 1) := by decide +kernel
theorem dX7_isLess_26 : decode cX7_isLess 26 = .ok (.getfield 50, 3) := by decide +kernel
theorem dX7_isLess_29 : decode cX7_isLess 29 = .ok (.iload_n 1, 1) := by decide +kernel
theorem dX7_isLess_30 : decode cX7_isLess 30 = .ok (.iaload, 1) := by decide +kernel
theorem dX7_isLess_31 : decode cX7_isLess 31 = .ok (.aload_n 0, 1) := by decide +kernel
theorem dX7_isLess_32 : decode cX7_isLess 32 = .ok (.getfield 53, 3) := by decide +kernel
theorem dX7_isLess_35 : decode cX7_isLess 35 = .ok (.iload_n 1, 1) := by decide +kernel
theorem dX7_isLess_36 : decode cX7_isLess 36 = .ok (.iaload, 1) := by decide +kernel
theorem dX7_isLess_37 : decode cX7_isLess 37 = .ok (.if_icmp .ge 7, 3) := by decide +kernel
theorem dX7_isLess_40 : decode cX7_isLess 40 = .ok (.iconst 1, 1) := by decide +kernel
theorem dX7_isLess_41 : decode cX7_isLess 41 = .ok (.goto 4, 3) := by decide +kernel
theorem dX7_isLess_44 : decode cX7_isLess 44 = .ok (.iconst 0, 1) := by decide +kernel
theorem dX7_isLess_45 : decode cX7_isLess 45 = .ok (.ireturn, 1) := by decide +kernel
theorem dX7_isLess_46 : decode cX7_isLess 46 = .ok (.iinc 1 1, 3) := by decide +kernel
theorem dX7_isLess_49 : decode cX7_isLess 49 = .ok (.goto (-47), 3) := by decide +kernel
theorem dX7_isLess_52 : decode cX7_isLess 52 = .ok (.iconst 0, 1) := by decide +kernel
theorem dX7_isLess_53 : decode cX7_isLess 53 = .ok (.ireturn, 1) := by decide +kernel
theorem dX7_findRound_0 : decode cX7_findRound 0 = .ok (.iconst 0, 1) := by decide +kernel
theorem dX7_findRound_1 : decode cX7_findRound 1 = .ok (.istore_n 1, 1) := by decide +kernel
theorem dX7_findRound_2 : decode cX7_findRound 2 = .ok (.aload_n 0, 1) := by decide +kernel
theorem dX7_findRound_3 : decode cX7_findRound 3 = .ok (.iconst 0, 1) := by decide +kernel
theorem dX7_findRound_4 : decode cX7_findRound 4 = .ok (.putfield 154, 3) := by decide +kernel
theorem dX7_findRound_7 : decode cX7_findRound 7 = .ok (.iconst 1, 1) := by decide +kernel
theorem dX7_findRound_8 : decode cX7_findRound 8 = .ok (.istore_n 2, 1) := by decide +kernel
theorem dX7_findRound_9 : decode cX7_findRound 9 = .ok (.iload_n 2, 1) := by decide +kernel
theorem dX7_findRound_10 : decode cX7_findRound 10 = .ok (.iconst 1, 1) := by decide +kernel
theorem dX7_findRound_11 : decode cX7_findRound 11 = .ok (.aload_n 0, 1) := by decide +kernel
theorem dX7_findRound_12 : decode cX7_findRound 12 = .ok (.getfield 143, 3) := by decide +kernel
theorem dX7_findRound_15 : decode cX7_findRound 15 = .ok (.ishl, 1) := by decide +kernel
theorem dX7_findRound_16 : decode cX7_findRound 16 = .ok (.if_icmp .ge 133, 3) := by decide +kernel
theorem dX7_findRound_19 : decode cX7_findRound 19 = .ok (.aload_n 0, 1) := by decide +kernel
theorem dX7_findRound_20 : decode cX7_findRound 20 = .ok (.iload_n 2, 1) := by decide +kernel
theorem dX7_findRound_21 : decode cX7_findRound 21 = .ok (.invokevirtual 157, 3) := by decide +kernel
theorem dX7_findRound_24 : decode cX7_findRound 24 = .ok (.ifCond .eq 119, 3) := by decide +kernel
theorem dX7_findRound_27 : decode cX7_findRound 27 = .ok (.iconst 0, 1) := by decide +kernel
theorem dX7_findRound_28 : decode cX7_findRound 28 = .ok (.istore_n 3, 1) := by decide +kernel
theorem dX7_findRound_29 : decode cX7_findRound 29 = .ok (.iconst 0, 1) := by decide +kernel
theorem dX7_findRound_30 : decode cX7_findRound 30 = .ok (.istore 4, 2) := by decide +kernel
theorem dX7_findRound_32 : decode cX7_findRound 32 = .ok (.iload 4, 2) := by decide +kernel
theorem dX7_findRound_34 : decode cX7_findRound 34 = .ok (.aload_n 0, 1) := by decide +kernel
theorem dX7_findRound_35 : decode cX7_findRound 35 = .ok (.getfield 151, 3) := by decide +kernel
theorem dX7_findRound_38 : decode cX7_findRound 38 = .ok (.if_icmp .ge 24, 3) := by decide +kernel
theorem dX7_findRound_41 : decode cX7_findRound 41 = .ok (.iload_n 3, 1) := by decide +kernel
theorem dX7_findRound_42 : decode cX7_findRound 42 = .ok (.aload_n 0, 1) := by decide +kernel
theorem dX7_findRound_43 : decode cX7_findRound 43 = .ok (.getfield 44, 3) := by decide +kernel
theorem dX7_findRound_46 : decode cX7_findRound 46 = .ok (.aload_n 0, 1) := by decide +kernel
theorem dX7_findRound_47 : decode cX7_findRound 47 = .ok (.getfield 50, 3) := by decide +kernel
theorem dX7_findRound_50 : decode cX7_findRound 50 = .ok (.iload 4, 2) := by decide +kernel
theorem dX7_findRound_52 : decode cX7_findRound 52 = .ok (.iaload, 1) := by decide +kernel
theorem dX7_findRound_53 : decode cX7_findRound 53 = .ok (.iaload, 1) := by decide +kernel
theorem dX7_findRound_54 : decode cX7_findRound 54 = .ok (.iadd, 1) := by decide +kernel
theorem dX7_findRound_55 : decode cX7_findRound 55 = .ok (.istore_n 3, 1) := by decide +kernel
theorem dX7_findRound_56 : decode cX7_findRound 56 = .ok (.iinc 4 1, 3) := by decide +kernel
theorem dX7_findRound_59 : decode cX7_findRound 59 = .ok (.goto (-27), 3) := by decide +kernel
theorem dX7_findRound_62 : decode cX7_findRound 62 = .ok (.iload_n 3, 1) := by decide +kernel
theorem dX7_findRound_63 : decode cX7_findRound 63 = .ok (.iload_n 1, 1) := by decide +kernel
theorem dX7_findRound_64 : decode cX7_findRound 64 = .ok (.if_icmp .gt 37, 3) := by decide +kernel
theorem dX7_findRound_67 : decode cX7_findRound 67 = .ok (.iload_n 3, 1) := by decide +kernel
theorem dX7_findRound_68 : decode cX7_findRound 68 = .ok (.iload_n 1, 1) := by decide +kernel
theorem dX7_findRound_69 : decode cX7_findRound 69 = .ok (.if_icmp .ne 74, 3) := by decide +kernel
theorem dX7_findRound_72 : decode cX7_findRound 72 = .ok (.aload_n 0, 1) := by decide +kernel
theorem dX7_findRound_73 : decode cX7_findRound 73 = .ok (.getfield 151, 3) := by decide +kernel
theorem dX7_findRound_76 : decode cX7_findRound 76 = .ok (.aload_n 0, 1) := by decide +kernel
theorem dX7_findRound_77 : decode cX7_findRound 77 = .ok (.getfield 154, 3) := by decide +kernel
theorem dX7_findRound_80 : decode cX7_findRound 80 = .ok (.if_icmp .lt 21, 3) := by decide +kernel
theorem dX7_findRound_83 : decode cX7_findRound 83 = .ok (.aload_n 0, 1) := by decide +kernel
theorem dX7_findRound_84 : decode cX7_findRound 84 = .ok (.getfield 151, 3) := by decide +kernel
theorem dX7_findRound_87 : decode cX7_findRound 87 = .ok (.aload_n 0, 1) := by decide +kernel
theorem dX7_findRound_88 : decode cX7_findRound 88 = .ok (.getfield 154, 3) := by decide +kernel
theorem dX7_findRound_91 : decode cX7_findRound 91 = .ok (.if_icmp .ne 52, 3) := by decide +kernel
theorem dX7_findRound_94 : decode cX7_findRound 94 = .ok (.aload_n 0, 1) := by decide +kernel
theorem dX7_findRound_95 : decode cX7_findRound 95 = .ok (.invokevirtual 160, 3) := by decide +kernel
theorem dX7_findRound_98 : decode cX7_findRound 98 = .ok (.ifCond .eq 45, 3) := by decide +kernel
theorem dX7_findRound_101 : decode cX7_findRound 101 = .ok (.iload_n 3, 1) := by decide +kernel
theorem dX7_findRound_102 : decode cX7_findRound 102 = .ok (.istore_n 1, 1) := by decide +kernel
theorem dX7_findRound_103 : decode cX7_findRound 103 = .ok (.aload_n 0, 1) := by decide +kernel
theorem dX7_findRound_104 : decode cX7_findRound 104 = .ok (.aload_n 0, 1) := by decide +kernel
theorem dX7_findRound_105 : decode cX7_findRound 105 = .ok (.getfield 151, 3) := by decide +kernel
theorem dX7_findRound_108 : decode cX7_findRound 108 = .ok (.putfield 154, 3) := by decide +kernel
theorem dX7_findRound_111 : decode cX7_findRound 111 = .ok (.iconst 0, 1) := by decide +kernel
theorem dX7_findRound_112 : decode cX7_findRound 112 = .ok (.istore 4, 2) := by decide +kernel
theorem dX7_findRound_114 : decode cX7_findRound 114 = .ok (.iload 4, 2) := by decide +kernel
theorem dX7_findRound_116 : decode cX7_findRound 116 = .ok (.aload_n 0, 1) := by decide +kernel
theorem dX7_findRound_117 : decode cX7_findRound 117 = .ok (.getfield 151, 3) := by decide +kernel
theorem dX7_findRound_120 : decode cX7_findRound 120 = .ok (.if_icmp .ge 23, 3) := by decide +kernel
theorem dX7_findRound_123 : decode cX7_findRound 123 = .ok (.aload_n 0, 1) := by decide +kernel
theorem dX7_findRound_124 : decode cX7_findRound 124 = .ok (.getfield 53, 3) := by decide +kernel
theorem dX7_findRound_127 : decode cX7_findRound 127 = .ok (.iload 4, 2) := by decide +kernel
theorem dX7_findRound_129 : decode cX7_findRound 129 = .ok (.aload_n 0, 1) := by decide +kernel
theorem dX7_findRound_130 : decode cX7_findRound 130 = .ok (.getfield 50, 3) := by decide +kernel
theorem dX7_findRound_133 : decode cX7_findRound 133 = .ok (.iload 4, 2) := by decide +kernel
theorem dX7_findRound_135 : decode cX7_findRound 135 = .ok (.iaload, 1) := by decide +kernel
theorem dX7_findRound_136 : decode cX7_findRound 136 = .ok (.iastore, 1) := by decide +kernel
theorem dX7_findRound_137 : decode cX7_findRound 137 = .ok (.iinc 4 1, 3) := by decide +kernel
theorem dX7_findRound_140 : decode cX7_findRound 140 = .ok (.goto (-26), 3) := by decide +kernel
theorem dX7_findRound_143 : decode cX7_findRound 143 = .ok (.iinc 2 1, 3) := by decide +kernel
theorem dX7_findRound_146 : decode cX7_findRound 146 = .ok (.goto (-137), 3) := by decide +kernel
theorem dX7_findRound_149 : decode cX7_findRound 149 = .ok (.iload_n 1, 1) := by decide +kernel
theorem dX7_findRound_150 : decode cX7_findRound 150 = .ok (.ireturn, 1) := by decide +kernel
theorem dX7_earns_0 : decode cX7_earns 0 = .ok (.aload_n 0, 1) := by decide +kernel
theorem dX7_earns_1 : decode cX7_earns 1 = .ok (.invokevirtual 163, 3) := by decide +kernel
theorem dX7_earns_4 : decode cX7_earns 4 = .ok (.ireturn, 1) := by decide +kernel
theorem dX7_round_0 : decode cX7_round 0 = .ok (.aload_n 0, 1) := by decide +kernel
theorem dX7_round_1 : decode cX7_round 1 = .ok (.invokevirtual 163, 3) := by decide +kernel
theorem dX7_round_4 : decode cX7_round 4 = .ok (.istore_n 2, 1) := by decide +kernel
theorem dX7_round_5 : decode cX7_round 5 = .ok (.iload_n 2, 1) := by decide +kernel
theorem dX7_round_6 : decode cX7_round 6 = .ok (.ifCond .lt 28, 3) := by decide +kernel
theorem dX7_round_9 : decode cX7_round 9 = .ok (.iload_n 1, 1) := by decide +kernel
theorem dX7_round_10 : decode cX7_round 10 = .ok (.i2l, 1) := by decide +kernel
theorem dX7_round_11 : decode cX7_round 11 = .ok (.lconst 0, 1) := by decide +kernel
theorem dX7_round_12 : decode cX7_round 12 = .ok (.aload_n 0, 1) := by decide +kernel
theorem dX7_round_13 : decode cX7_round 13 = .ok (.getfield 154, 3) := by decide +kernel
theorem dX7_round_16 : decode cX7_round 16 = .ok (.iconst 1, 1) := by decide +kernel
theorem dX7_round_17 : decode cX7_round 17 = .ok (.isub, 1) := by decide +kernel
theorem dX7_round_18 : decode cX7_round 18 = .ok (.i2l, 1) := by decide +kernel
theorem dX7_round_19 : decode cX7_round 19 = .ok (.invokestatic 75, 3) := by decide +kernel
theorem dX7_round_22 : decode cX7_round 22 = .ok (.ifCond .eq 12, 3) := by decide +kernel
theorem dX7_round_25 : decode cX7_round 25 = .ok (.aload_n 0, 1) := by decide +kernel
theorem dX7_round_26 : decode cX7_round 26 = .ok (.getfield 53, 3) := by decide +kernel
theorem dX7_round_29 : decode cX7_round 29 = .ok (.iload_n 1, 1) := by decide +kernel
theorem dX7_round_30 : decode cX7_round 30 = .ok (.iaload, 1) := by decide +kernel
theorem dX7_round_31 : decode cX7_round 31 = .ok (.goto 4, 3) := by decide +kernel
theorem dX7_round_34 : decode cX7_round 34 = .ok (.iconst (-1), 1) := by decide +kernel
theorem dX7_round_35 : decode cX7_round 35 = .ok (.ireturn, 1) := by decide +kernel
theorem dX7_riders_0 : decode cX7_riders 0 = .ok (.iconst 0, 1) := by decide +kernel
theorem dX7_riders_1 : decode cX7_riders 1 = .ok (.istore_n 1, 1) := by decide +kernel
theorem dX7_riders_2 : decode cX7_riders 2 = .ok (.iconst 0, 1) := by decide +kernel
theorem dX7_riders_3 : decode cX7_riders 3 = .ok (.istore_n 2, 1) := by decide +kernel
theorem dX7_riders_4 : decode cX7_riders 4 = .ok (.iload_n 2, 1) := by decide +kernel
theorem dX7_riders_5 : decode cX7_riders 5 = .ok (.bipush 12, 2) := by decide +kernel
theorem dX7_riders_7 : decode cX7_riders 7 = .ok (.if_icmp .ge 35, 3) := by decide +kernel
theorem dX7_riders_10 : decode cX7_riders 10 = .ok (.iload_n 1, 1) := by decide +kernel
theorem dX7_riders_11 : decode cX7_riders 11 = .ok (.aload_n 0, 1) := by decide +kernel
theorem dX7_riders_12 : decode cX7_riders 12 = .ok (.getfield 16, 3) := by decide +kernel
theorem dX7_riders_15 : decode cX7_riders 15 = .ok (.iload_n 2, 1) := by decide +kernel
theorem dX7_riders_16 : decode cX7_riders 16 = .ok (.iaload, 1) := by decide +kernel
theorem dX7_riders_17 : decode cX7_riders 17 = .ok (.ifCond .le 16, 3) := by decide +kernel
theorem dX7_riders_20 : decode cX7_riders 20 = .ok (.aload_n 0, 1) := by decide +kernel
theorem dX7_riders_21 : decode cX7_riders 21 = .ok (.getfield 19, 3) := by decide +kernel
theorem dX7_riders_24 : decode cX7_riders 24 = .ok (.iload_n 2, 1) := by decide +kernel
theorem dX7_riders_25 : decode cX7_riders 25 = .ok (.iaload, 1) := by decide +kernel
theorem dX7_riders_26 : decode cX7_riders 26 = .ok (.ifCond .le 7, 3) := by decide +kernel
theorem dX7_riders_29 : decode cX7_riders 29 = .ok (.iconst 1, 1) := by decide +kernel
theorem dX7_riders_30 : decode cX7_riders 30 = .ok (.goto 4, 3) := by decide +kernel
theorem dX7_riders_33 : decode cX7_riders 33 = .ok (.iconst 0, 1) := by decide +kernel
theorem dX7_riders_34 : decode cX7_riders 34 = .ok (.iadd, 1) := by decide +kernel
theorem dX7_riders_35 : decode cX7_riders 35 = .ok (.istore_n 1, 1) := by decide +kernel
theorem dX7_riders_36 : decode cX7_riders 36 = .ok (.iinc 2 1, 3) := by decide +kernel
theorem dX7_riders_39 : decode cX7_riders 39 = .ok (.goto (-35), 3) := by decide +kernel
theorem dX7_riders_42 : decode cX7_riders 42 = .ok (.iload_n 1, 1) := by decide +kernel
theorem dX7_riders_43 : decode cX7_riders 43 = .ok (.ireturn, 1) := by decide +kernel
theorem dX7_turn_0 : decode cX7_turn 0 = .ok (.aload_n 0, 1) := by decide +kernel
theorem dX7_turn_1 : decode cX7_turn 1 = .ok (.invokevirtual 104, 3) := by decide +kernel
theorem dX7_turn_4 : decode cX7_turn 4 = .ok (.ifCond .eq 19, 3) := by decide +kernel
theorem dX7_turn_7 : decode cX7_turn 7 = .ok (.aload_n 0, 1) := by decide +kernel
theorem dX7_turn_8 : decode cX7_turn 8 = .ok (.getfield 166, 3) := by decide +kernel
theorem dX7_turn_11 : decode cX7_turn 11 = .ok (.iconst 1, 1) := by decide +kernel
theorem dX7_turn_12 : decode cX7_turn 12 = .ok (.iadd, 1) := by decide +kernel
theorem dX7_turn_13 : decode cX7_turn 13 = .ok (.bipush 10, 2) := by decide +kernel
theorem dX7_turn_15 : decode cX7_turn 15 = .ok (.aload_n 0, 1) := by decide +kernel
theorem dX7_turn_16 : decode cX7_turn 16 = .ok (.getfield 66, 3) := by decide +kernel
theorem dX7_turn_19 : decode cX7_turn 19 = .ok (.imul, 1) := by decide +kernel
theorem dX7_turn_20 : decode cX7_turn 20 = .ok (.if_icmp .le 6, 3) := by decide +kernel
theorem dX7_turn_23 : decode cX7_turn 23 = .ok (.bipush (-103), 2) := by decide +kernel
theorem dX7_turn_25 : decode cX7_turn 25 = .ok (.ireturn, 1) := by decide +kernel
theorem dX7_turn_26 : decode cX7_turn 26 = .ok (.aload_n 0, 1) := by decide +kernel
theorem dX7_turn_27 : decode cX7_turn 27 = .ok (.invokevirtual 169, 3) := by decide +kernel
theorem dX7_turn_30 : decode cX7_turn 30 = .ok (.istore_n 1, 1) := by decide +kernel
theorem dX7_turn_31 : decode cX7_turn 31 = .ok (.iconst 0, 1) := by decide +kernel
theorem dX7_turn_32 : decode cX7_turn 32 = .ok (.istore_n 2, 1) := by decide +kernel
theorem dX7_turn_33 : decode cX7_turn 33 = .ok (.iload_n 2, 1) := by decide +kernel
theorem dX7_turn_34 : decode cX7_turn 34 = .ok (.bipush 12, 2) := by decide +kernel
theorem dX7_turn_36 : decode cX7_turn 36 = .ok (.if_icmp .ge 16, 3) := by decide +kernel
theorem dX7_turn_39 : decode cX7_turn 39 = .ok (.aload_n 0, 1) := by decide +kernel
theorem dX7_turn_40 : decode cX7_turn 40 = .ok (.getfield 19, 3) := by decide +kernel
theorem dX7_turn_43 : decode cX7_turn 43 = .ok (.iload_n 2, 1) := by decide +kernel
theorem dX7_turn_44 : decode cX7_turn 44 = .ok (.iconst 0, 1) := by decide +kernel
theorem dX7_turn_45 : decode cX7_turn 45 = .ok (.iastore, 1) := by decide +kernel
theorem dX7_turn_46 : decode cX7_turn 46 = .ok (.iinc 2 1, 3) := by decide +kernel
theorem dX7_turn_49 : decode cX7_turn 49 = .ok (.goto (-16), 3) := by decide +kernel
theorem dX7_turn_52 : decode cX7_turn 52 = .ok (.aload_n 0, 1) := by decide +kernel
theorem dX7_turn_53 : decode cX7_turn 53 = .ok (.dup, 1) := by decide +kernel
theorem dX7_turn_54 : decode cX7_turn 54 = .ok (.getfield 166, 3) := by decide +kernel
theorem dX7_turn_57 : decode cX7_turn 57 = .ok (.iconst 1, 1) := by decide +kernel
theorem dX7_turn_58 : decode cX7_turn 58 = .ok (.iadd, 1) := by decide +kernel
theorem dX7_turn_59 : decode cX7_turn 59 = .ok (.putfield 166, 3) := by decide +kernel
theorem dX7_turn_62 : decode cX7_turn 62 = .ok (.aload_n 0, 1) := by decide +kernel
theorem dX7_turn_63 : decode cX7_turn 63 = .ok (.dup, 1) := by decide +kernel
theorem dX7_turn_64 : decode cX7_turn 64 = .ok (.getfield 172, 3) := by decide +kernel
theorem dX7_turn_67 : decode cX7_turn 67 = .ok (.iload_n 1, 1) := by decide +kernel
theorem dX7_turn_68 : decode cX7_turn 68 = .ok (.iadd, 1) := by decide +kernel
theorem dX7_turn_69 : decode cX7_turn 69 = .ok (.putfield 172, 3) := by decide +kernel
theorem dX7_turn_72 : decode cX7_turn 72 = .ok (.iload_n 1, 1) := by decide +kernel
theorem dX7_turn_73 : decode cX7_turn 73 = .ok (.ireturn, 1) := by decide +kernel
theorem dX7_look_0 : decode cX7_look 0 = .ok (.aload_n 0, 1) := by decide +kernel
theorem dX7_look_1 : decode cX7_look 1 = .ok (.getfield 166, 3) := by decide +kernel
theorem dX7_look_4 : decode cX7_look 4 = .ok (.istore_n 1, 1) := by decide +kernel
theorem dX7_look_5 : decode cX7_look 5 = .ok (.aload_n 0, 1) := by decide +kernel
theorem dX7_look_6 : decode cX7_look 6 = .ok (.iconst 0, 1) := by decide +kernel
theorem dX7_look_7 : decode cX7_look 7 = .ok (.putfield 166, 3) := by decide +kernel
theorem dX7_look_10 : decode cX7_look 10 = .ok (.iload_n 1, 1) := by decide +kernel
theorem dX7_look_11 : decode cX7_look 11 = .ok (.ireturn, 1) := by decide +kernel
theorem dX7_hours_0 : decode cX7_hours 0 = .ok (.iload_n 1, 1) := by decide +kernel
theorem dX7_hours_1 : decode cX7_hours 1 = .ok (.i2l, 1) := by decide +kernel
theorem dX7_hours_2 : decode cX7_hours 2 = .ok (.lconst 1, 1) := by decide +kernel
theorem dX7_hours_3 : decode cX7_hours 3 = .ok (.ldc2_w 175, 3) := by decide +kernel
theorem dX7_hours_6 : decode cX7_hours 6 = .ok (.invokestatic 75, 3) := by decide +kernel
theorem dX7_hours_9 : decode cX7_hours 9 = .ok (.ifCond .ne 6, 3) := by decide +kernel
theorem dX7_hours_12 : decode cX7_hours 12 = .ok (.bipush (-102), 2) := by decide +kernel
theorem dX7_hours_14 : decode cX7_hours 14 = .ok (.ireturn, 1) := by decide +kernel
theorem dX7_hours_15 : decode cX7_hours 15 = .ok (.aload_n 0, 1) := by decide +kernel
theorem dX7_hours_16 : decode cX7_hours 16 = .ok (.getfield 66, 3) := by decide +kernel
theorem dX7_hours_19 : decode cX7_hours 19 = .ok (.istore_n 2, 1) := by decide +kernel
theorem dX7_hours_20 : decode cX7_hours 20 = .ok (.aload_n 0, 1) := by decide +kernel
theorem dX7_hours_21 : decode cX7_hours 21 = .ok (.iload_n 1, 1) := by decide +kernel
theorem dX7_hours_22 : decode cX7_hours 22 = .ok (.putfield 66, 3) := by decide +kernel
theorem dX7_hours_25 : decode cX7_hours 25 = .ok (.iload_n 2, 1) := by decide +kernel
theorem dX7_hours_26 : decode cX7_hours 26 = .ok (.ireturn, 1) := by decide +kernel
theorem dX7_come_0 : decode cX7_come 0 = .ok (.iload_n 1, 1) := by decide +kernel
theorem dX7_come_1 : decode cX7_come 1 = .ok (.invokestatic 110, 3) := by decide +kernel
theorem dX7_come_4 : decode cX7_come 4 = .ok (.ifCond .ne 6, 3) := by decide +kernel
theorem dX7_come_7 : decode cX7_come 7 = .ok (.bipush (-102), 2) := by decide +kernel
theorem dX7_come_9 : decode cX7_come 9 = .ok (.ireturn, 1) := by decide +kernel
theorem dX7_come_10 : decode cX7_come 10 = .ok (.aload_n 0, 1) := by decide +kernel
theorem dX7_come_11 : decode cX7_come 11 = .ok (.getfield 177, 3) := by decide +kernel
theorem dX7_come_14 : decode cX7_come 14 = .ok (.bipush 100, 2) := by decide +kernel
theorem dX7_come_16 : decode cX7_come 16 = .ok (.if_icmp .ne 6, 3) := by decide +kernel
theorem dX7_come_19 : decode cX7_come 19 = .ok (.bipush (-104), 2) := by decide +kernel
theorem dX7_come_21 : decode cX7_come 21 = .ok (.ireturn, 1) := by decide +kernel
theorem dX7_come_22 : decode cX7_come 22 = .ok (.aload_n 0, 1) := by decide +kernel
theorem dX7_come_23 : decode cX7_come 23 = .ok (.getfield 56, 3) := by decide +kernel
theorem dX7_come_26 : decode cX7_come 26 = .ok (.aload_n 0, 1) := by decide +kernel
theorem dX7_come_27 : decode cX7_come 27 = .ok (.getfield 177, 3) := by decide +kernel
theorem dX7_come_30 : decode cX7_come 30 = .ok (.iload_n 1, 1) := by decide +kernel
theorem dX7_come_31 : decode cX7_come 31 = .ok (.iastore, 1) := by decide +kernel
theorem dX7_come_32 : decode cX7_come 32 = .ok (.aload_n 0, 1) := by decide +kernel
theorem dX7_come_33 : decode cX7_come 33 = .ok (.dup, 1) := by decide +kernel
theorem dX7_come_34 : decode cX7_come 34 = .ok (.getfield 177, 3) := by decide +kernel
theorem dX7_come_37 : decode cX7_come 37 = .ok (.iconst 1, 1) := by decide +kernel
theorem dX7_come_38 : decode cX7_come 38 = .ok (.iadd, 1) := by decide +kernel
theorem dX7_come_39 : decode cX7_come 39 = .ok (.putfield 177, 3) := by decide +kernel
theorem dX7_come_42 : decode cX7_come 42 = .ok (.aload_n 0, 1) := by decide +kernel
theorem dX7_come_43 : decode cX7_come 43 = .ok (.getfield 177, 3) := by decide +kernel
theorem dX7_come_46 : decode cX7_come 46 = .ok (.ireturn, 1) := by decide +kernel
theorem dX7_next_0 : decode cX7_next 0 = .ok (.aload_n 0, 1) := by decide +kernel
theorem dX7_next_1 : decode cX7_next 1 = .ok (.getfield 177, 3) := by decide +kernel
theorem dX7_next_4 : decode cX7_next 4 = .ok (.ifCond .ne 7, 3) := by decide +kernel
theorem dX7_next_7 : decode cX7_next 7 = .ok (.iconst (-1), 1) := by decide +kernel
theorem dX7_next_8 : decode cX7_next 8 = .ok (.goto 13, 3) := by decide +kernel
theorem dX7_next_11 : decode cX7_next 11 = .ok (.aload_n 0, 1) := by decide +kernel
theorem dX7_next_12 : decode cX7_next 12 = .ok (.aload_n 0, 1) := by decide +kernel
theorem dX7_next_13 : decode cX7_next 13 = .ok (.getfield 56, 3) := by decide +kernel
theorem dX7_next_16 : decode cX7_next 16 = .ok (.iconst 0, 1) := by decide +kernel
theorem dX7_next_17 : decode cX7_next 17 = .ok (.iaload, 1) := by decide +kernel
theorem dX7_next_18 : decode cX7_next 18 = .ok (.invokevirtual 124, 3) := by decide +kernel
theorem dX7_next_21 : decode cX7_next 21 = .ok (.istore_n 1, 1) := by decide +kernel
theorem dX7_next_22 : decode cX7_next 22 = .ok (.iload_n 1, 1) := by decide +kernel
theorem dX7_next_23 : decode cX7_next 23 = .ok (.iconst (-1), 1) := by decide +kernel
theorem dX7_next_24 : decode cX7_next 24 = .ok (.if_icmp .eq 55, 3) := by decide +kernel
theorem dX7_next_27 : decode cX7_next 27 = .ok (.aload_n 0, 1) := by decide +kernel
theorem dX7_next_28 : decode cX7_next 28 = .ok (.getfield 19, 3) := by decide +kernel
theorem dX7_next_31 : decode cX7_next 31 = .ok (.iload_n 1, 1) := by decide +kernel
theorem dX7_next_32 : decode cX7_next 32 = .ok (.aload_n 0, 1) := by decide +kernel
theorem dX7_next_33 : decode cX7_next 33 = .ok (.getfield 56, 3) := by decide +kernel
theorem dX7_next_36 : decode cX7_next 36 = .ok (.iconst 0, 1) := by decide +kernel
theorem dX7_next_37 : decode cX7_next 37 = .ok (.iaload, 1) := by decide +kernel
theorem dX7_next_38 : decode cX7_next 38 = .ok (.iastore, 1) := by decide +kernel
theorem dX7_next_39 : decode cX7_next 39 = .ok (.aload_n 0, 1) := by decide +kernel
theorem dX7_next_40 : decode cX7_next 40 = .ok (.dup, 1) := by decide +kernel
theorem dX7_next_41 : decode cX7_next 41 = .ok (.getfield 177, 3) := by decide +kernel
theorem dX7_next_44 : decode cX7_next 44 = .ok (.iconst 1, 1) := by decide +kernel
theorem dX7_next_45 : decode cX7_next 45 = .ok (.isub, 1) := by decide +kernel
theorem dX7_next_46 : decode cX7_next 46 = .ok (.putfield 177, 3) := by decide +kernel
theorem dX7_next_49 : decode cX7_next 49 = .ok (.iconst 0, 1) := by decide +kernel
theorem dX7_next_50 : decode cX7_next 50 = .ok (.istore_n 2, 1) := by decide +kernel
theorem dX7_next_51 : decode cX7_next 51 = .ok (.iload_n 2, 1) := by decide +kernel
theorem dX7_next_52 : decode cX7_next 52 = .ok (.aload_n 0, 1) := by decide +kernel
theorem dX7_next_53 : decode cX7_next 53 = .ok (.getfield 177, 3) := by decide +kernel
theorem dX7_next_56 : decode cX7_next 56 = .ok (.if_icmp .ge 23, 3) := by decide +kernel
theorem dX7_next_59 : decode cX7_next 59 = .ok (.aload_n 0, 1) := by decide +kernel
theorem dX7_next_60 : decode cX7_next 60 = .ok (.getfield 56, 3) := by decide +kernel
theorem dX7_next_63 : decode cX7_next 63 = .ok (.iload_n 2, 1) := by decide +kernel
theorem dX7_next_64 : decode cX7_next 64 = .ok (.aload_n 0, 1) := by decide +kernel
theorem dX7_next_65 : decode cX7_next 65 = .ok (.getfield 56, 3) := by decide +kernel
theorem dX7_next_68 : decode cX7_next 68 = .ok (.iload_n 2, 1) := by decide +kernel
theorem dX7_next_69 : decode cX7_next 69 = .ok (.iconst 1, 1) := by decide +kernel
theorem dX7_next_70 : decode cX7_next 70 = .ok (.iadd, 1) := by decide +kernel
theorem dX7_next_71 : decode cX7_next 71 = .ok (.iaload, 1) := by decide +kernel
theorem dX7_next_72 : decode cX7_next 72 = .ok (.iastore, 1) := by decide +kernel
theorem dX7_next_73 : decode cX7_next 73 = .ok (.iinc 2 1, 3) := by decide +kernel
theorem dX7_next_76 : decode cX7_next 76 = .ok (.goto (-25), 3) := by decide +kernel
theorem dX7_next_79 : decode cX7_next 79 = .ok (.iload_n 1, 1) := by decide +kernel
theorem dX7_next_80 : decode cX7_next 80 = .ok (.ireturn, 1) := by decide +kernel
theorem dX7_book_0 : decode cX7_book 0 = .ok (.iload_n 1, 1) := by decide +kernel
theorem dX7_book_1 : decode cX7_book 1 = .ok (.i2l, 1) := by decide +kernel
theorem dX7_book_2 : decode cX7_book 2 = .ok (.lconst 0, 1) := by decide +kernel
theorem dX7_book_3 : decode cX7_book 3 = .ok (.ldc2_w 180, 3) := by decide +kernel
theorem dX7_book_6 : decode cX7_book 6 = .ok (.invokestatic 75, 3) := by decide +kernel
theorem dX7_book_9 : decode cX7_book 9 = .ok (.ifCond .ne 6, 3) := by decide +kernel
theorem dX7_book_12 : decode cX7_book 12 = .ok (.bipush (-102), 2) := by decide +kernel
theorem dX7_book_14 : decode cX7_book 14 = .ok (.ireturn, 1) := by decide +kernel
theorem dX7_book_15 : decode cX7_book 15 = .ok (.aload_n 0, 1) := by decide +kernel
theorem dX7_book_16 : decode cX7_book 16 = .ok (.getfield 172, 3) := by decide +kernel
theorem dX7_book_19 : decode cX7_book 19 = .ok (.istore_n 2, 1) := by decide +kernel
theorem dX7_book_20 : decode cX7_book 20 = .ok (.aload_n 0, 1) := by decide +kernel
theorem dX7_book_21 : decode cX7_book 21 = .ok (.iconst 0, 1) := by decide +kernel
theorem dX7_book_22 : decode cX7_book 22 = .ok (.putfield 172, 3) := by decide +kernel
theorem dX7_book_25 : decode cX7_book 25 = .ok (.iload_n 2, 1) := by decide +kernel
theorem dX7_book_26 : decode cX7_book 26 = .ok (.iload_n 1, 1) := by decide +kernel
theorem dX7_book_27 : decode cX7_book 27 = .ok (.isub, 1) := by decide +kernel
theorem dX7_book_28 : decode cX7_book 28 = .ok (.ireturn, 1) := by decide +kernel
theorem dX7_count_0 : decode cX7_count 0 = .ok (.iload_n 1, 1) := by decide +kernel
theorem dX7_count_1 : decode cX7_count 1 = .ok (.tableswitch 108 0 7 #[47, 52, 57, 62, 67, 72, 77, 103], 47) := by decide +kernel
theorem dX7_count_48 : decode cX7_count 48 = .ok (.aload_n 0, 1) := by decide +kernel
theorem dX7_count_49 : decode cX7_count 49 = .ok (.invokevirtual 87, 3) := by decide +kernel
theorem dX7_count_52 : decode cX7_count 52 = .ok (.ireturn, 1) := by decide +kernel
theorem dX7_count_53 : decode cX7_count 53 = .ok (.aload_n 0, 1) := by decide +kernel
theorem dX7_count_54 : decode cX7_count 54 = .ok (.invokevirtual 169, 3) := by decide +kernel
theorem dX7_count_57 : decode cX7_count 57 = .ok (.ireturn, 1) := by decide +kernel
theorem dX7_count_58 : decode cX7_count 58 = .ok (.aload_n 0, 1) := by decide +kernel
theorem dX7_count_59 : decode cX7_count 59 = .ok (.getfield 177, 3) := by decide +kernel
theorem dX7_count_62 : decode cX7_count 62 = .ok (.ireturn, 1) := by decide +kernel
theorem dX7_count_63 : decode cX7_count 63 = .ok (.aload_n 0, 1) := by decide +kernel
theorem dX7_count_64 : decode cX7_count 64 = .ok (.getfield 143, 3) := by decide +kernel
theorem dX7_count_67 : decode cX7_count 67 = .ok (.ireturn, 1) := by decide +kernel
theorem dX7_count_68 : decode cX7_count 68 = .ok (.aload_n 0, 1) := by decide +kernel
theorem dX7_count_69 : decode cX7_count 69 = .ok (.getfield 166, 3) := by decide +kernel
theorem dX7_count_72 : decode cX7_count 72 = .ok (.ireturn, 1) := by decide +kernel
theorem dX7_count_73 : decode cX7_count 73 = .ok (.aload_n 0, 1) := by decide +kernel
theorem dX7_count_74 : decode cX7_count 74 = .ok (.getfield 172, 3) := by decide +kernel
theorem dX7_count_77 : decode cX7_count 77 = .ok (.ireturn, 1) := by decide +kernel
theorem dX7_count_78 : decode cX7_count 78 = .ok (.iconst 0, 1) := by decide +kernel
theorem dX7_count_79 : decode cX7_count 79 = .ok (.istore_n 2, 1) := by decide +kernel
theorem dX7_count_80 : decode cX7_count 80 = .ok (.iconst 0, 1) := by decide +kernel
theorem dX7_count_81 : decode cX7_count 81 = .ok (.istore_n 3, 1) := by decide +kernel
theorem dX7_count_82 : decode cX7_count 82 = .ok (.iload_n 3, 1) := by decide +kernel
theorem dX7_count_83 : decode cX7_count 83 = .ok (.bipush 12, 2) := by decide +kernel
theorem dX7_count_85 : decode cX7_count 85 = .ok (.if_icmp .ge 17, 3) := by decide +kernel
theorem dX7_count_88 : decode cX7_count 88 = .ok (.iload_n 2, 1) := by decide +kernel
theorem dX7_count_89 : decode cX7_count 89 = .ok (.aload_n 0, 1) := by decide +kernel
theorem dX7_count_90 : decode cX7_count 90 = .ok (.iload_n 3, 1) := by decide +kernel
theorem dX7_count_91 : decode cX7_count 91 = .ok (.invokevirtual 94, 3) := by decide +kernel
theorem dX7_count_94 : decode cX7_count 94 = .ok (.iadd, 1) := by decide +kernel
theorem dX7_count_95 : decode cX7_count 95 = .ok (.istore_n 2, 1) := by decide +kernel
theorem dX7_count_96 : decode cX7_count 96 = .ok (.iinc 3 1, 3) := by decide +kernel
theorem dX7_count_99 : decode cX7_count 99 = .ok (.goto (-17), 3) := by decide +kernel
theorem dX7_count_102 : decode cX7_count 102 = .ok (.iload_n 2, 1) := by decide +kernel
theorem dX7_count_103 : decode cX7_count 103 = .ok (.ireturn, 1) := by decide +kernel
theorem dX7_count_104 : decode cX7_count 104 = .ok (.aload_n 0, 1) := by decide +kernel
theorem dX7_count_105 : decode cX7_count 105 = .ok (.getfield 129, 3) := by decide +kernel
theorem dX7_count_108 : decode cX7_count 108 = .ok (.ireturn, 1) := by decide +kernel
theorem dX7_count_109 : decode cX7_count 109 = .ok (.bipush (-102), 2) := by decide +kernel
theorem dX7_count_111 : decode cX7_count 111 = .ok (.ireturn, 1) := by decide +kernel
theorem dX7_digest_0 : decode cX7_digest 0 = .ok (.ldc2_w 182, 3) := by decide +kernel
theorem dX7_digest_3 : decode cX7_digest 3 = .ok (.lstore_n 1, 1) := by decide +kernel
theorem dX7_digest_4 : decode cX7_digest 4 = .ok (.iconst 0, 1) := by decide +kernel
theorem dX7_digest_5 : decode cX7_digest 5 = .ok (.istore_n 3, 1) := by decide +kernel
theorem dX7_digest_6 : decode cX7_digest 6 = .ok (.iload_n 3, 1) := by decide +kernel
theorem dX7_digest_7 : decode cX7_digest 7 = .ok (.bipush 12, 2) := by decide +kernel
theorem dX7_digest_9 : decode cX7_digest 9 = .ok (.if_icmp .ge 134, 3) := by decide +kernel
theorem dX7_digest_12 : decode cX7_digest 12 = .ok (.ldc2_w 184, 3) := by decide +kernel
theorem dX7_digest_15 : decode cX7_digest 15 = .ok (.lload_n 1, 1) := by decide +kernel
theorem dX7_digest_16 : decode cX7_digest 16 = .ok (.lmul, 1) := by decide +kernel
theorem dX7_digest_17 : decode cX7_digest 17 = .ok (.aload_n 0, 1) := by decide +kernel
theorem dX7_digest_18 : decode cX7_digest 18 = .ok (.getfield 16, 3) := by decide +kernel
theorem dX7_digest_21 : decode cX7_digest 21 = .ok (.iload_n 3, 1) := by decide +kernel
theorem dX7_digest_22 : decode cX7_digest 22 = .ok (.iaload, 1) := by decide +kernel
theorem dX7_digest_23 : decode cX7_digest 23 = .ok (.i2l, 1) := by decide +kernel
theorem dX7_digest_24 : decode cX7_digest 24 = .ok (.ladd, 1) := by decide +kernel
theorem dX7_digest_25 : decode cX7_digest 25 = .ok (.lstore_n 1, 1) := by decide +kernel
theorem dX7_digest_26 : decode cX7_digest 26 = .ok (.aload_n 0, 1) := by decide +kernel
theorem dX7_digest_27 : decode cX7_digest 27 = .ok (.getfield 16, 3) := by decide +kernel
theorem dX7_digest_30 : decode cX7_digest 30 = .ok (.iload_n 3, 1) := by decide +kernel
theorem dX7_digest_31 : decode cX7_digest 31 = .ok (.iaload, 1) := by decide +kernel
theorem dX7_digest_32 : decode cX7_digest 32 = .ok (.ifCond .le 105, 3) := by decide +kernel
theorem dX7_digest_35 : decode cX7_digest 35 = .ok (.ldc2_w 184, 3) := by decide +kernel
theorem dX7_digest_38 : decode cX7_digest 38 = .ok (.lload_n 1, 1) := by decide +kernel
theorem dX7_digest_39 : decode cX7_digest 39 = .ok (.lmul, 1) := by decide +kernel
theorem dX7_digest_40 : decode cX7_digest 40 = .ok (.aload_n 0, 1) := by decide +kernel
theorem dX7_digest_41 : decode cX7_digest 41 = .ok (.getfield 19, 3) := by decide +kernel
theorem dX7_digest_44 : decode cX7_digest 44 = .ok (.iload_n 3, 1) := by decide +kernel
theorem dX7_digest_45 : decode cX7_digest 45 = .ok (.iaload, 1) := by decide +kernel
theorem dX7_digest_46 : decode cX7_digest 46 = .ok (.i2l, 1) := by decide +kernel
theorem dX7_digest_47 : decode cX7_digest 47 = .ok (.ladd, 1) := by decide +kernel
theorem dX7_digest_48 : decode cX7_digest 48 = .ok (.lstore_n 1, 1) := by decide +kernel
theorem dX7_digest_49 : decode cX7_digest 49 = .ok (.ldc2_w 184, 3) := by decide +kernel
theorem dX7_digest_52 : decode cX7_digest 52 = .ok (.lload_n 1, 1) := by decide +kernel
theorem dX7_digest_53 : decode cX7_digest 53 = .ok (.lmul, 1) := by decide +kernel
theorem dX7_digest_54 : decode cX7_digest 54 = .ok (.aload_n 0, 1) := by decide +kernel
theorem dX7_digest_55 : decode cX7_digest 55 = .ok (.getfield 22, 3) := by decide +kernel
theorem dX7_digest_58 : decode cX7_digest 58 = .ok (.iload_n 3, 1) := by decide +kernel
theorem dX7_digest_59 : decode cX7_digest 59 = .ok (.iaload, 1) := by decide +kernel
theorem dX7_digest_60 : decode cX7_digest 60 = .ok (.i2l, 1) := by decide +kernel
theorem dX7_digest_61 : decode cX7_digest 61 = .ok (.ladd, 1) := by decide +kernel
theorem dX7_digest_62 : decode cX7_digest 62 = .ok (.lstore_n 1, 1) := by decide +kernel
theorem dX7_digest_63 : decode cX7_digest 63 = .ok (.iconst 0, 1) := by decide +kernel
theorem dX7_digest_64 : decode cX7_digest 64 = .ok (.istore 4, 2) := by decide +kernel
theorem dX7_digest_66 : decode cX7_digest 66 = .ok (.iload 4, 2) := by decide +kernel
theorem dX7_digest_68 : decode cX7_digest 68 = .ok (.aload_n 0, 1) := by decide +kernel
theorem dX7_digest_69 : decode cX7_digest 69 = .ok (.getfield 22, 3) := by decide +kernel
theorem dX7_digest_72 : decode cX7_digest 72 = .ok (.iload_n 3, 1) := by decide +kernel
theorem dX7_digest_73 : decode cX7_digest 73 = .ok (.iaload, 1) := by decide +kernel
theorem dX7_digest_74 : decode cX7_digest 74 = .ok (.if_icmp .ge 29, 3) := by decide +kernel
theorem dX7_digest_77 : decode cX7_digest 77 = .ok (.ldc2_w 184, 3) := by decide +kernel
theorem dX7_digest_80 : decode cX7_digest 80 = .ok (.lload_n 1, 1) := by decide +kernel
theorem dX7_digest_81 : decode cX7_digest 81 = .ok (.lmul, 1) := by decide +kernel
theorem dX7_digest_82 : decode cX7_digest 82 = .ok (.aload_n 0, 1) := by decide +kernel
theorem dX7_digest_83 : decode cX7_digest 83 = .ok (.getfield 25, 3) := by decide +kernel
theorem dX7_digest_86 : decode cX7_digest 86 = .ok (.bipush 8, 2) := by decide +kernel
theorem dX7_digest_88 : decode cX7_digest 88 = .ok (.iload_n 3, 1) := by decide +kernel
theorem dX7_digest_89 : decode cX7_digest 89 = .ok (.imul, 1) := by decide +kernel
theorem dX7_digest_90 : decode cX7_digest 90 = .ok (.iload 4, 2) := by decide +kernel
theorem dX7_digest_92 : decode cX7_digest 92 = .ok (.iadd, 1) := by decide +kernel
theorem dX7_digest_93 : decode cX7_digest 93 = .ok (.iaload, 1) := by decide +kernel
theorem dX7_digest_94 : decode cX7_digest 94 = .ok (.i2l, 1) := by decide +kernel
theorem dX7_digest_95 : decode cX7_digest 95 = .ok (.ladd, 1) := by decide +kernel
theorem dX7_digest_96 : decode cX7_digest 96 = .ok (.lstore_n 1, 1) := by decide +kernel
theorem dX7_digest_97 : decode cX7_digest 97 = .ok (.iinc 4 1, 3) := by decide +kernel
theorem dX7_digest_100 : decode cX7_digest 100 = .ok (.goto (-34), 3) := by decide +kernel
theorem dX7_digest_103 : decode cX7_digest 103 = .ok (.iconst 0, 1) := by decide +kernel
theorem dX7_digest_104 : decode cX7_digest 104 = .ok (.istore 4, 2) := by decide +kernel
theorem dX7_digest_106 : decode cX7_digest 106 = .ok (.iload 4, 2) := by decide +kernel
theorem dX7_digest_108 : decode cX7_digest 108 = .ok (.iconst 4, 1) := by decide +kernel
theorem dX7_digest_109 : decode cX7_digest 109 = .ok (.if_icmp .ge 28, 3) := by decide +kernel
theorem dX7_digest_112 : decode cX7_digest 112 = .ok (.ldc2_w 184, 3) := by decide +kernel
theorem dX7_digest_115 : decode cX7_digest 115 = .ok (.lload_n 1, 1) := by decide +kernel
theorem dX7_digest_116 : decode cX7_digest 116 = .ok (.lmul, 1) := by decide +kernel
theorem dX7_digest_117 : decode cX7_digest 117 = .ok (.aload_n 0, 1) := by decide +kernel
theorem dX7_digest_118 : decode cX7_digest 118 = .ok (.getfield 28, 3) := by decide +kernel
theorem dX7_digest_121 : decode cX7_digest 121 = .ok (.iconst 4, 1) := by decide +kernel
theorem dX7_digest_122 : decode cX7_digest 122 = .ok (.iload_n 3, 1) := by decide +kernel
theorem dX7_digest_123 : decode cX7_digest 123 = .ok (.imul, 1) := by decide +kernel
theorem dX7_digest_124 : decode cX7_digest 124 = .ok (.iload 4, 2) := by decide +kernel
theorem dX7_digest_126 : decode cX7_digest 126 = .ok (.iadd, 1) := by decide +kernel
theorem dX7_digest_127 : decode cX7_digest 127 = .ok (.iaload, 1) := by decide +kernel
theorem dX7_digest_128 : decode cX7_digest 128 = .ok (.i2l, 1) := by decide +kernel
theorem dX7_digest_129 : decode cX7_digest 129 = .ok (.ladd, 1) := by decide +kernel
theorem dX7_digest_130 : decode cX7_digest 130 = .ok (.lstore_n 1, 1) := by decide +kernel
theorem dX7_digest_131 : decode cX7_digest 131 = .ok (.iinc 4 1, 3) := by decide +kernel
theorem dX7_digest_134 : decode cX7_digest 134 = .ok (.goto (-28), 3) := by decide +kernel
theorem dX7_digest_137 : decode cX7_digest 137 = .ok (.iinc 3 1, 3) := by decide +kernel
theorem dX7_digest_140 : decode cX7_digest 140 = .ok (.goto (-134), 3) := by decide +kernel
theorem dX7_digest_143 : decode cX7_digest 143 = .ok (.ldc2_w 184, 3) := by decide +kernel
theorem dX7_digest_146 : decode cX7_digest 146 = .ok (.lload_n 1, 1) := by decide +kernel
theorem dX7_digest_147 : decode cX7_digest 147 = .ok (.lmul, 1) := by decide +kernel
theorem dX7_digest_148 : decode cX7_digest 148 = .ok (.aload_n 0, 1) := by decide +kernel
theorem dX7_digest_149 : decode cX7_digest 149 = .ok (.getfield 59, 3) := by decide +kernel
theorem dX7_digest_152 : decode cX7_digest 152 = .ok (.i2l, 1) := by decide +kernel
theorem dX7_digest_153 : decode cX7_digest 153 = .ok (.ladd, 1) := by decide +kernel
theorem dX7_digest_154 : decode cX7_digest 154 = .ok (.lstore_n 1, 1) := by decide +kernel
theorem dX7_digest_155 : decode cX7_digest 155 = .ok (.ldc2_w 184, 3) := by decide +kernel
theorem dX7_digest_158 : decode cX7_digest 158 = .ok (.lload_n 1, 1) := by decide +kernel
theorem dX7_digest_159 : decode cX7_digest 159 = .ok (.lmul, 1) := by decide +kernel
theorem dX7_digest_160 : decode cX7_digest 160 = .ok (.aload_n 0, 1) := by decide +kernel
theorem dX7_digest_161 : decode cX7_digest 161 = .ok (.getfield 63, 3) := by decide +kernel
theorem dX7_digest_164 : decode cX7_digest 164 = .ok (.i2l, 1) := by decide +kernel
theorem dX7_digest_165 : decode cX7_digest 165 = .ok (.ladd, 1) := by decide +kernel
theorem dX7_digest_166 : decode cX7_digest 166 = .ok (.lstore_n 1, 1) := by decide +kernel
theorem dX7_digest_167 : decode cX7_digest 167 = .ok (.iconst 0, 1) := by decide +kernel
theorem dX7_digest_168 : decode cX7_digest 168 = .ok (.istore_n 3, 1) := by decide +kernel
theorem dX7_digest_169 : decode cX7_digest 169 = .ok (.iload_n 3, 1) := by decide +kernel
theorem dX7_digest_170 : decode cX7_digest 170 = .ok (.aload_n 0, 1) := by decide +kernel
theorem dX7_digest_171 : decode cX7_digest 171 = .ok (.getfield 143, 3) := by decide +kernel
theorem dX7_digest_174 : decode cX7_digest 174 = .ok (.if_icmp .ge 91, 3) := by decide +kernel
theorem dX7_digest_177 : decode cX7_digest 177 = .ok (.ldc2_w 184, 3) := by decide +kernel
theorem dX7_digest_180 : decode cX7_digest 180 = .ok (.lload_n 1, 1) := by decide +kernel
theorem dX7_digest_181 : decode cX7_digest 181 = .ok (.lmul, 1) := by decide +kernel
theorem dX7_digest_182 : decode cX7_digest 182 = .ok (.aload_n 0, 1) := by decide +kernel
theorem dX7_digest_183 : decode cX7_digest 183 = .ok (.getfield 38, 3) := by decide +kernel
theorem dX7_digest_186 : decode cX7_digest 186 = .ok (.iload_n 3, 1) := by decide +kernel
theorem dX7_digest_187 : decode cX7_digest 187 = .ok (.iaload, 1) := by decide +kernel
theorem dX7_digest_188 : decode cX7_digest 188 = .ok (.i2l, 1) := by decide +kernel
theorem dX7_digest_189 : decode cX7_digest 189 = .ok (.ladd, 1) := by decide +kernel
theorem dX7_digest_190 : decode cX7_digest 190 = .ok (.lstore_n 1, 1) := by decide +kernel
theorem dX7_digest_191 : decode cX7_digest 191 = .ok (.ldc2_w 184, 3) := by decide +kernel
theorem dX7_digest_194 : decode cX7_digest 194 = .ok (.lload_n 1, 1) := by decide +kernel
theorem dX7_digest_195 : decode cX7_digest 195 = .ok (.lmul, 1) := by decide +kernel
theorem dX7_digest_196 : decode cX7_digest 196 = .ok (.aload_n 0, 1) := by decide +kernel
theorem dX7_digest_197 : decode cX7_digest 197 = .ok (.getfield 41, 3) := by decide +kernel
theorem dX7_digest_200 : decode cX7_digest 200 = .ok (.iload_n 3, 1) := by decide +kernel
theorem dX7_digest_201 : decode cX7_digest 201 = .ok (.iaload, 1) := by decide +kernel
theorem dX7_digest_202 : decode cX7_digest 202 = .ok (.i2l, 1) := by decide +kernel
theorem dX7_digest_203 : decode cX7_digest 203 = .ok (.ladd, 1) := by decide +kernel
theorem dX7_digest_204 : decode cX7_digest 204 = .ok (.lstore_n 1, 1) := by decide +kernel
theorem dX7_digest_205 : decode cX7_digest 205 = .ok (.ldc2_w 184, 3) := by decide +kernel
theorem dX7_digest_208 : decode cX7_digest 208 = .ok (.lload_n 1, 1) := by decide +kernel
theorem dX7_digest_209 : decode cX7_digest 209 = .ok (.lmul, 1) := by decide +kernel
theorem dX7_digest_210 : decode cX7_digest 210 = .ok (.aload_n 0, 1) := by decide +kernel
theorem dX7_digest_211 : decode cX7_digest 211 = .ok (.getfield 44, 3) := by decide +kernel
theorem dX7_digest_214 : decode cX7_digest 214 = .ok (.iload_n 3, 1) := by decide +kernel
theorem dX7_digest_215 : decode cX7_digest 215 = .ok (.iaload, 1) := by decide +kernel
theorem dX7_digest_216 : decode cX7_digest 216 = .ok (.i2l, 1) := by decide +kernel
theorem dX7_digest_217 : decode cX7_digest 217 = .ok (.ladd, 1) := by decide +kernel
theorem dX7_digest_218 : decode cX7_digest 218 = .ok (.lstore_n 1, 1) := by decide +kernel
theorem dX7_digest_219 : decode cX7_digest 219 = .ok (.iload_n 3, 1) := by decide +kernel
theorem dX7_digest_220 : decode cX7_digest 220 = .ok (.iconst 1, 1) := by decide +kernel
theorem dX7_digest_221 : decode cX7_digest 221 = .ok (.iadd, 1) := by decide +kernel
theorem dX7_digest_222 : decode cX7_digest 222 = .ok (.istore 4, 2) := by decide +kernel
theorem dX7_digest_224 : decode cX7_digest 224 = .ok (.iload 4, 2) := by decide +kernel
theorem dX7_digest_226 : decode cX7_digest 226 = .ok (.aload_n 0, 1) := by decide +kernel
theorem dX7_digest_227 : decode cX7_digest 227 = .ok (.getfield 143, 3) := by decide +kernel
theorem dX7_digest_230 : decode cX7_digest 230 = .ok (.if_icmp .ge 29, 3) := by decide +kernel
theorem dX7_digest_233 : decode cX7_digest 233 = .ok (.ldc2_w 184, 3) := by decide +kernel
theorem dX7_digest_236 : decode cX7_digest 236 = .ok (.lload_n 1, 1) := by decide +kernel
theorem dX7_digest_237 : decode cX7_digest 237 = .ok (.lmul, 1) := by decide +kernel
theorem dX7_digest_238 : decode cX7_digest 238 = .ok (.aload_n 0, 1) := by decide +kernel
theorem dX7_digest_239 : decode cX7_digest 239 = .ok (.getfield 47, 3) := by decide +kernel
theorem dX7_digest_242 : decode cX7_digest 242 = .ok (.bipush 8, 2) := by decide +kernel
theorem dX7_digest_244 : decode cX7_digest 244 = .ok (.iload_n 3, 1) := by decide +kernel
theorem dX7_digest_245 : decode cX7_digest 245 = .ok (.imul, 1) := by decide +kernel
theorem dX7_digest_246 : decode cX7_digest 246 = .ok (.iload 4, 2) := by decide +kernel
theorem dX7_digest_248 : decode cX7_digest 248 = .ok (.iadd, 1) := by decide +kernel
theorem dX7_digest_249 : decode cX7_digest 249 = .ok (.iaload, 1) := by decide +kernel
theorem dX7_digest_250 : decode cX7_digest 250 = .ok (.i2l, 1) := by decide +kernel
theorem dX7_digest_251 : decode cX7_digest 251 = .ok (.ladd, 1) := by decide +kernel
theorem dX7_digest_252 : decode cX7_digest 252 = .ok (.lstore_n 1, 1) := by decide +kernel
theorem dX7_digest_253 : decode cX7_digest 253 = .ok (.iinc 4 1, 3) := by decide +kernel
theorem dX7_digest_256 : decode cX7_digest 256 = .ok (.goto (-32), 3) := by decide +kernel
theorem dX7_digest_259 : decode cX7_digest 259 = .ok (.iinc 3 1, 3) := by decide +kernel
theorem dX7_digest_262 : decode cX7_digest 262 = .ok (.goto (-93), 3) := by decide +kernel
theorem dX7_digest_265 : decode cX7_digest 265 = .ok (.ldc2_w 184, 3) := by decide +kernel
theorem dX7_digest_268 : decode cX7_digest 268 = .ok (.lload_n 1, 1) := by decide +kernel
theorem dX7_digest_269 : decode cX7_digest 269 = .ok (.lmul, 1) := by decide +kernel
theorem dX7_digest_270 : decode cX7_digest 270 = .ok (.aload_n 0, 1) := by decide +kernel
theorem dX7_digest_271 : decode cX7_digest 271 = .ok (.getfield 66, 3) := by decide +kernel
theorem dX7_digest_274 : decode cX7_digest 274 = .ok (.i2l, 1) := by decide +kernel
theorem dX7_digest_275 : decode cX7_digest 275 = .ok (.ladd, 1) := by decide +kernel
theorem dX7_digest_276 : decode cX7_digest 276 = .ok (.lstore_n 1, 1) := by decide +kernel
theorem dX7_digest_277 : decode cX7_digest 277 = .ok (.ldc2_w 184, 3) := by decide +kernel
theorem dX7_digest_280 : decode cX7_digest 280 = .ok (.lload_n 1, 1) := by decide +kernel
theorem dX7_digest_281 : decode cX7_digest 281 = .ok (.lmul, 1) := by decide +kernel
theorem dX7_digest_282 : decode cX7_digest 282 = .ok (.aload_n 0, 1) := by decide +kernel
theorem dX7_digest_283 : decode cX7_digest 283 = .ok (.getfield 166, 3) := by decide +kernel
theorem dX7_digest_286 : decode cX7_digest 286 = .ok (.i2l, 1) := by decide +kernel
theorem dX7_digest_287 : decode cX7_digest 287 = .ok (.ladd, 1) := by decide +kernel
theorem dX7_digest_288 : decode cX7_digest 288 = .ok (.lstore_n 1, 1) := by decide +kernel
theorem dX7_digest_289 : decode cX7_digest 289 = .ok (.ldc2_w 184, 3) := by decide +kernel
theorem dX7_digest_292 : decode cX7_digest 292 = .ok (.lload_n 1, 1) := by decide +kernel
theorem dX7_digest_293 : decode cX7_digest 293 = .ok (.lmul, 1) := by decide +kernel
theorem dX7_digest_294 : decode cX7_digest 294 = .ok (.aload_n 0, 1) := by decide +kernel
theorem dX7_digest_295 : decode cX7_digest 295 = .ok (.getfield 172, 3) := by decide +kernel
theorem dX7_digest_298 : decode cX7_digest 298 = .ok (.i2l, 1) := by decide +kernel
theorem dX7_digest_299 : decode cX7_digest 299 = .ok (.ladd, 1) := by decide +kernel
theorem dX7_digest_300 : decode cX7_digest 300 = .ok (.lstore_n 1, 1) := by decide +kernel
theorem dX7_digest_301 : decode cX7_digest 301 = .ok (.ldc2_w 184, 3) := by decide +kernel
theorem dX7_digest_304 : decode cX7_digest 304 = .ok (.lload_n 1, 1) := by decide +kernel
theorem dX7_digest_305 : decode cX7_digest 305 = .ok (.lmul, 1) := by decide +kernel
theorem dX7_digest_306 : decode cX7_digest 306 = .ok (.aload_n 0, 1) := by decide +kernel
theorem dX7_digest_307 : decode cX7_digest 307 = .ok (.getfield 129, 3) := by decide +kernel
theorem dX7_digest_310 : decode cX7_digest 310 = .ok (.i2l, 1) := by decide +kernel
theorem dX7_digest_311 : decode cX7_digest 311 = .ok (.ladd, 1) := by decide +kernel
theorem dX7_digest_312 : decode cX7_digest 312 = .ok (.lstore_n 1, 1) := by decide +kernel
theorem dX7_digest_313 : decode cX7_digest 313 = .ok (.iconst 0, 1) := by decide +kernel
theorem dX7_digest_314 : decode cX7_digest 314 = .ok (.istore_n 3, 1) := by decide +kernel
theorem dX7_digest_315 : decode cX7_digest 315 = .ok (.iload_n 3, 1) := by decide +kernel
theorem dX7_digest_316 : decode cX7_digest 316 = .ok (.aload_n 0, 1) := by decide +kernel
theorem dX7_digest_317 : decode cX7_digest 317 = .ok (.getfield 177, 3) := by decide +kernel
theorem dX7_digest_320 : decode cX7_digest 320 = .ok (.if_icmp .ge 23, 3) := by decide +kernel
theorem dX7_digest_323 : decode cX7_digest 323 = .ok (.ldc2_w 184, 3) := by decide +kernel
theorem dX7_digest_326 : decode cX7_digest 326 = .ok (.lload_n 1, 1) := by decide +kernel
theorem dX7_digest_327 : decode cX7_digest 327 = .ok (.lmul, 1) := by decide +kernel
theorem dX7_digest_328 : decode cX7_digest 328 = .ok (.aload_n 0, 1) := by decide +kernel
theorem dX7_digest_329 : decode cX7_digest 329 = .ok (.getfield 56, 3) := by decide +kernel
theorem dX7_digest_332 : decode cX7_digest 332 = .ok (.iload_n 3, 1) := by decide +kernel
theorem dX7_digest_333 : decode cX7_digest 333 = .ok (.iaload, 1) := by decide +kernel
theorem dX7_digest_334 : decode cX7_digest 334 = .ok (.i2l, 1) := by decide +kernel
theorem dX7_digest_335 : decode cX7_digest 335 = .ok (.ladd, 1) := by decide +kernel
theorem dX7_digest_336 : decode cX7_digest 336 = .ok (.lstore_n 1, 1) := by decide +kernel
theorem dX7_digest_337 : decode cX7_digest 337 = .ok (.iinc 3 1, 3) := by decide +kernel
theorem dX7_digest_340 : decode cX7_digest 340 = .ok (.goto (-25), 3) := by decide +kernel
theorem dX7_digest_343 : decode cX7_digest 343 = .ok (.lload_n 1, 1) := by decide +kernel
theorem dX7_digest_344 : decode cX7_digest 344 = .ok (.lreturn, 1) := by decide +kernel
theorem dL_law_0 : decode cL_law 0 = .ok (.new 7, 3) := by decide +kernel
theorem dL_law_3 : decode cL_law 3 = .ok (.dup, 1) := by decide +kernel
theorem dL_law_4 : decode cL_law 4 = .ok (.invokespecial 9, 3) := by decide +kernel
theorem dL_law_7 : decode cL_law 7 = .ok (.astore_n 1, 1) := by decide +kernel
theorem dL_law_8 : decode cL_law 8 = .ok (.new 10, 3) := by decide +kernel
theorem dL_law_11 : decode cL_law 11 = .ok (.dup, 1) := by decide +kernel
theorem dL_law_12 : decode cL_law 12 = .ok (.invokespecial 12, 3) := by decide +kernel
theorem dL_law_15 : decode cL_law 15 = .ok (.astore_n 2, 1) := by decide +kernel
theorem dL_law_16 : decode cL_law 16 = .ok (.iconst 0, 1) := by decide +kernel
theorem dL_law_17 : decode cL_law 17 = .ok (.istore_n 3, 1) := by decide +kernel
theorem dL_law_18 : decode cL_law 18 = .ok (.iload_n 3, 1) := by decide +kernel
theorem dL_law_19 : decode cL_law 19 = .ok (.aload_n 0, 1) := by decide +kernel
theorem dL_law_20 : decode cL_law 20 = .ok (.arraylength, 1) := by decide +kernel
theorem dL_law_21 : decode cL_law 21 = .ok (.iconst 5, 1) := by decide +kernel
theorem dL_law_22 : decode cL_law 22 = .ok (.isub, 1) := by decide +kernel
theorem dL_law_23 : decode cL_law 23 = .ok (.if_icmp .gt 942, 3) := by decide +kernel
theorem dL_law_26 : decode cL_law 26 = .ok (.aload_n 0, 1) := by decide +kernel
theorem dL_law_27 : decode cL_law 27 = .ok (.iload_n 3, 1) := by decide +kernel
theorem dL_law_28 : decode cL_law 28 = .ok (.iaload, 1) := by decide +kernel
theorem dL_law_29 : decode cL_law 29 = .ok (.bipush 31, 2) := by decide +kernel
theorem dL_law_31 : decode cL_law 31 = .ok (.iand, 1) := by decide +kernel
theorem dL_law_32 : decode cL_law 32 = .ok (.tableswitch 927 0 29 #[136, 179, 202, 235, 258, 271, 284, 297, 330, 353, 406, 429, 462, 495, 528, 581, 614, 627, 660, 703, 746, 759, 782, 795, 808, 831, 854, 867, 890, 913], 136) := by decide +kernel
theorem dL_law_168 : decode cL_law 168 = .ok (.aload_n 1, 1) := by decide +kernel
theorem dL_law_169 : decode cL_law 169 = .ok (.aload_n 0, 1) := by decide +kernel
theorem dL_law_170 : decode cL_law 170 = .ok (.iload_n 3, 1) := by decide +kernel
theorem dL_law_171 : decode cL_law 171 = .ok (.iconst 1, 1) := by decide +kernel
theorem dL_law_172 : decode cL_law 172 = .ok (.iadd, 1) := by decide +kernel
theorem dL_law_173 : decode cL_law 173 = .ok (.iaload, 1) := by decide +kernel
theorem dL_law_174 : decode cL_law 174 = .ok (.aload_n 0, 1) := by decide +kernel
theorem dL_law_175 : decode cL_law 175 = .ok (.iload_n 3, 1) := by decide +kernel
theorem dL_law_176 : decode cL_law 176 = .ok (.iconst 2, 1) := by decide +kernel
theorem dL_law_177 : decode cL_law 177 = .ok (.iadd, 1) := by decide +kernel
theorem dL_law_178 : decode cL_law 178 = .ok (.iaload, 1) := by decide +kernel
theorem dL_law_179 : decode cL_law 179 = .ok (.aload_n 0, 1) := by decide +kernel
theorem dL_law_180 : decode cL_law 180 = .ok (.iload_n 3, 1) := by decide +kernel
theorem dL_law_181 : decode cL_law 181 = .ok (.iconst 3, 1) := by decide +kernel
theorem dL_law_182 : decode cL_law 182 = .ok (.iadd, 1) := by decide +kernel
theorem dL_law_183 : decode cL_law 183 = .ok (.iaload, 1) := by decide +kernel
theorem dL_law_184 : decode cL_law 184 = .ok (.invokevirtual 13, 3) := by decide +kernel
theorem dL_law_187 : decode cL_law 187 = .ok (.aload_n 2, 1) := by decide +kernel
theorem dL_law_188 : decode cL_law 188 = .ok (.aload_n 0, 1) := by decide +kernel
theorem dL_law_189 : decode cL_law 189 = .ok (.iload_n 3, 1) := by decide +kernel
theorem dL_law_190 : decode cL_law 190 = .ok (.iconst 1, 1) := by decide +kernel
theorem dL_law_191 : decode cL_law 191 = .ok (.iadd, 1) := by decide +kernel
theorem dL_law_192 : decode cL_law 192 = .ok (.iaload, 1) := by decide +kernel
theorem dL_law_193 : decode cL_law 193 = .ok (.aload_n 0, 1) := by decide +kernel
theorem dL_law_194 : decode cL_law 194 = .ok (.iload_n 3, 1) := by decide +kernel
theorem dL_law_195 : decode cL_law 195 = .ok (.iconst 2, 1) := by decide +kernel
theorem dL_law_196 : decode cL_law 196 = .ok (.iadd, 1) := by decide +kernel
theorem dL_law_197 : decode cL_law 197 = .ok (.iaload, 1) := by decide +kernel
theorem dL_law_198 : decode cL_law 198 = .ok (.aload_n 0, 1) := by decide +kernel
theorem dL_law_199 : decode cL_law 199 = .ok (.iload_n 3, 1) := by decide +kernel
theorem dL_law_200 : decode cL_law 200 = .ok (.iconst 3, 1) := by decide +kernel
theorem dL_law_201 : decode cL_law 201 = .ok (.iadd, 1) := by decide +kernel
theorem dL_law_202 : decode cL_law 202 = .ok (.iaload, 1) := by decide +kernel
theorem dL_law_203 : decode cL_law 203 = .ok (.invokevirtual 17, 3) := by decide +kernel
theorem dL_law_206 : decode cL_law 206 = .ok (.if_icmp .eq 753, 3) := by decide +kernel
theorem dL_law_209 : decode cL_law 209 = .ok (.iconst 0, 1) := by decide +kernel
theorem dL_law_210 : decode cL_law 210 = .ok (.ireturn, 1) := by decide +kernel
theorem dL_law_211 : decode cL_law 211 = .ok (.aload_n 1, 1) := by decide +kernel
theorem dL_law_212 : decode cL_law 212 = .ok (.aload_n 0, 1) := by decide +kernel
theorem dL_law_213 : decode cL_law 213 = .ok (.iload_n 3, 1) := by decide +kernel
theorem dL_law_214 : decode cL_law 214 = .ok (.iconst 1, 1) := by decide +kernel
theorem dL_law_215 : decode cL_law 215 = .ok (.iadd, 1) := by decide +kernel
theorem dL_law_216 : decode cL_law 216 = .ok (.iaload, 1) := by decide +kernel
theorem dL_law_217 : decode cL_law 217 = .ok (.invokevirtual 18, 3) := by decide +kernel
theorem dL_law_220 : decode cL_law 220 = .ok (.aload_n 2, 1) := by decide +kernel
theorem dL_law_221 : decode cL_law 221 = .ok (.aload_n 0, 1) := by decide +kernel
theorem dL_law_222 : decode cL_law 222 = .ok (.iload_n 3, 1) := by decide +kernel
theorem dL_law_223 : decode cL_law 223 = .ok (.iconst 1, 1) := by decide +kernel
theorem dL_law_224 : decode cL_law 224 = .ok (.iadd, 1) := by decide +kernel
theorem dL_law_225 : decode cL_law 225 = .ok (.iaload, 1) := by decide +kernel
theorem dL_law_226 : decode cL_law 226 = .ok (.invokevirtual 22, 3) := by decide +kernel
theorem dL_law_229 : decode cL_law 229 = .ok (.if_icmp .eq 730, 3) := by decide +kernel
theorem dL_law_232 : decode cL_law 232 = .ok (.iconst 0, 1) := by decide +kernel
theorem dL_law_233 : decode cL_law 233 = .ok (.ireturn, 1) := by decide +kernel
theorem dL_law_234 : decode cL_law 234 = .ok (.aload_n 1, 1) := by decide +kernel
theorem dL_law_235 : decode cL_law 235 = .ok (.aload_n 0, 1) := by decide +kernel
theorem dL_law_236 : decode cL_law 236 = .ok (.iload_n 3, 1) := by decide +kernel
theorem dL_law_237 : decode cL_law 237 = .ok (.iconst 1, 1) := by decide +kernel
theorem dL_law_238 : decode cL_law 238 = .ok (.iadd, 1) := by decide +kernel
theorem dL_law_239 : decode cL_law 239 = .ok (.iaload, 1) := by decide +kernel
theorem dL_law_240 : decode cL_law 240 = .ok (.aload_n 0, 1) := by decide +kernel
theorem dL_law_241 : decode cL_law 241 = .ok (.iload_n 3, 1) := by decide +kernel
theorem dL_law_242 : decode cL_law 242 = .ok (.iconst 2, 1) := by decide +kernel
theorem dL_law_243 : decode cL_law 243 = .ok (.iadd, 1) := by decide +kernel
theorem dL_law_244 : decode cL_law 244 = .ok (.iaload, 1) := by decide +kernel
theorem dL_law_245 : decode cL_law 245 = .ok (.invokevirtual 23, 3) := by decide +kernel
theorem dL_law_248 : decode cL_law 248 = .ok (.aload_n 2, 1) := by decide +kernel
theorem dL_law_249 : decode cL_law 249 = .ok (.aload_n 0, 1) := by decide +kernel
theorem dL_law_250 : decode cL_law 250 = .ok (.iload_n 3, 1) := by decide +kernel
theorem dL_law_251 : decode cL_law 251 = .ok (.iconst 1, 1) := by decide +kernel
theorem dL_law_252 : decode cL_law 252 = .ok (.iadd, 1) := by decide +kernel
theorem dL_law_253 : decode cL_law 253 = .ok (.iaload, 1) := by decide +kernel
theorem dL_law_254 : decode cL_law 254 = .ok (.aload_n 0, 1) := by decide +kernel
theorem dL_law_255 : decode cL_law 255 = .ok (.iload_n 3, 1) := by decide +kernel
theorem dL_law_256 : decode cL_law 256 = .ok (.iconst 2, 1) := by decide +kernel
theorem dL_law_257 : decode cL_law 257 = .ok (.iadd, 1) := by decide +kernel
theorem dL_law_258 : decode cL_law 258 = .ok (.iaload, 1) := by decide +kernel
theorem dL_law_259 : decode cL_law 259 = .ok (.invokevirtual 27, 3) := by decide +kernel
theorem dL_law_262 : decode cL_law 262 = .ok (.if_icmp .eq 697, 3) := by decide +kernel
theorem dL_law_265 : decode cL_law 265 = .ok (.iconst 0, 1) := by decide +kernel
theorem dL_law_266 : decode cL_law 266 = .ok (.ireturn, 1) := by decide +kernel
theorem dL_law_267 : decode cL_law 267 = .ok (.aload_n 1, 1) := by decide +kernel
theorem dL_law_268 : decode cL_law 268 = .ok (.aload_n 0, 1) := by decide +kernel
theorem dL_law_269 : decode cL_law 269 = .ok (.iload_n 3, 1) := by decide +kernel
theorem dL_law_270 : decode cL_law 270 = .ok (.iconst 1, 1) := by decide +kernel
theorem dL_law_271 : decode cL_law 271 = .ok (.iadd, 1) := by decide +kernel
theorem dL_law_272 : decode cL_law 272 = .ok (.iaload, 1) := by decide +kernel
theorem dL_law_273 : decode cL_law 273 = .ok (.invokevirtual 28, 3) := by decide +kernel
theorem dL_law_276 : decode cL_law 276 = .ok (.aload_n 2, 1) := by decide +kernel
theorem dL_law_277 : decode cL_law 277 = .ok (.aload_n 0, 1) := by decide +kernel
theorem dL_law_278 : decode cL_law 278 = .ok (.iload_n 3, 1) := by decide +kernel
theorem dL_law_279 : decode cL_law 279 = .ok (.iconst 1, 1) := by decide +kernel
theorem dL_law_280 : decode cL_law 280 = .ok (.iadd, 1) := by decide +kernel
theorem dL_law_281 : decode cL_law 281 = .ok (.iaload, 1) := by decide +kernel
theorem dL_law_282 : decode cL_law 282 = .ok (.invokevirtual 31, 3) := by decide +kernel
theorem dL_law_285 : decode cL_law 285 = .ok (.if_icmp .eq 674, 3) := by decide +kernel
theorem dL_law_288 : decode cL_law 288 = .ok (.iconst 0, 1) := by decide +kernel
theorem dL_law_289 : decode cL_law 289 = .ok (.ireturn, 1) := by decide +kernel
theorem dL_law_290 : decode cL_law 290 = .ok (.aload_n 1, 1) := by decide +kernel
theorem dL_law_291 : decode cL_law 291 = .ok (.invokevirtual 32, 3) := by decide +kernel
theorem dL_law_294 : decode cL_law 294 = .ok (.aload_n 2, 1) := by decide +kernel
theorem dL_law_295 : decode cL_law 295 = .ok (.invokevirtual 36, 3) := by decide +kernel
theorem dL_law_298 : decode cL_law 298 = .ok (.if_icmp .eq 661, 3) := by decide +kernel
theorem dL_law_301 : decode cL_law 301 = .ok (.iconst 0, 1) := by decide +kernel
theorem dL_law_302 : decode cL_law 302 = .ok (.ireturn, 1) := by decide +kernel
theorem dL_law_303 : decode cL_law 303 = .ok (.aload_n 1, 1) := by decide +kernel
theorem dL_law_304 : decode cL_law 304 = .ok (.invokevirtual 37, 3) := by decide +kernel
theorem dL_law_307 : decode cL_law 307 = .ok (.aload_n 2, 1) := by decide +kernel
theorem dL_law_308 : decode cL_law 308 = .ok (.invokevirtual 40, 3) := by decide +kernel
theorem dL_law_311 : decode cL_law 311 = .ok (.if_icmp .eq 648, 3) := by decide +kernel
theorem dL_law_314 : decode cL_law 314 = .ok (.iconst 0, 1) := by decide +kernel
theorem dL_law_315 : decode cL_law 315 = .ok (.ireturn, 1) := by decide +kernel
theorem dL_law_316 : decode cL_law 316 = .ok (.aload_n 1, 1) := by decide +kernel
theorem dL_law_317 : decode cL_law 317 = .ok (.invokevirtual 41, 3) := by decide +kernel
theorem dL_law_320 : decode cL_law 320 = .ok (.aload_n 2, 1) := by decide +kernel
theorem dL_law_321 : decode cL_law 321 = .ok (.invokevirtual 44, 3) := by decide +kernel
theorem dL_law_324 : decode cL_law 324 = .ok (.if_icmp .eq 635, 3) := by decide +kernel
theorem dL_law_327 : decode cL_law 327 = .ok (.iconst 0, 1) := by decide +kernel
theorem dL_law_328 : decode cL_law 328 = .ok (.ireturn, 1) := by decide +kernel
theorem dL_law_329 : decode cL_law 329 = .ok (.aload_n 1, 1) := by decide +kernel
theorem dL_law_330 : decode cL_law 330 = .ok (.aload_n 0, 1) := by decide +kernel
theorem dL_law_331 : decode cL_law 331 = .ok (.iload_n 3, 1) := by decide +kernel
theorem dL_law_332 : decode cL_law 332 = .ok (.iconst 1, 1) := by decide +kernel
theorem dL_law_333 : decode cL_law 333 = .ok (.iadd, 1) := by decide +kernel
theorem dL_law_334 : decode cL_law 334 = .ok (.iaload, 1) := by decide +kernel
theorem dL_law_335 : decode cL_law 335 = .ok (.aload_n 0, 1) := by decide +kernel
theorem dL_law_336 : decode cL_law 336 = .ok (.iload_n 3, 1) := by decide +kernel
theorem dL_law_337 : decode cL_law 337 = .ok (.iconst 2, 1) := by decide +kernel
theorem dL_law_338 : decode cL_law 338 = .ok (.iadd, 1) := by decide +kernel
theorem dL_law_339 : decode cL_law 339 = .ok (.iaload, 1) := by decide +kernel
theorem dL_law_340 : decode cL_law 340 = .ok (.invokevirtual 45, 3) := by decide +kernel
theorem dL_law_343 : decode cL_law 343 = .ok (.aload_n 2, 1) := by decide +kernel
theorem dL_law_344 : decode cL_law 344 = .ok (.aload_n 0, 1) := by decide +kernel
theorem dL_law_345 : decode cL_law 345 = .ok (.iload_n 3, 1) := by decide +kernel
theorem dL_law_346 : decode cL_law 346 = .ok (.iconst 1, 1) := by decide +kernel
theorem dL_law_347 : decode cL_law 347 = .ok (.iadd, 1) := by decide +kernel
theorem dL_law_348 : decode cL_law 348 = .ok (.iaload, 1) := by decide +kernel
theorem dL_law_349 : decode cL_law 349 = .ok (.aload_n 0, 1) := by decide +kernel
theorem dL_law_350 : decode cL_law 350 = .ok (.iload_n 3, 1) := by decide +kernel
theorem dL_law_351 : decode cL_law 351 = .ok (.iconst 2, 1) := by decide +kernel
theorem dL_law_352 : decode cL_law 352 = .ok (.iadd, 1) := by decide +kernel
theorem dL_law_353 : decode cL_law 353 = .ok (.iaload, 1) := by decide +kernel
theorem dL_law_354 : decode cL_law 354 = .ok (.invokevirtual 48, 3) := by decide +kernel
theorem dL_law_357 : decode cL_law 357 = .ok (.if_icmp .eq 602, 3) := by decide +kernel
theorem dL_law_360 : decode cL_law 360 = .ok (.iconst 0, 1) := by decide +kernel
theorem dL_law_361 : decode cL_law 361 = .ok (.ireturn, 1) := by decide +kernel
theorem dL_law_362 : decode cL_law 362 = .ok (.aload_n 1, 1) := by decide +kernel
theorem dL_law_363 : decode cL_law 363 = .ok (.aload_n 0, 1) := by decide +kernel
theorem dL_law_364 : decode cL_law 364 = .ok (.iload_n 3, 1) := by decide +kernel
theorem dL_law_365 : decode cL_law 365 = .ok (.iconst 1, 1) := by decide +kernel
theorem dL_law_366 : decode cL_law 366 = .ok (.iadd, 1) := by decide +kernel
theorem dL_law_367 : decode cL_law 367 = .ok (.iaload, 1) := by decide +kernel
theorem dL_law_368 : decode cL_law 368 = .ok (.invokevirtual 49, 3) := by decide +kernel
theorem dL_law_371 : decode cL_law 371 = .ok (.aload_n 2, 1) := by decide +kernel
theorem dL_law_372 : decode cL_law 372 = .ok (.aload_n 0, 1) := by decide +kernel
theorem dL_law_373 : decode cL_law 373 = .ok (.iload_n 3, 1) := by decide +kernel
theorem dL_law_374 : decode cL_law 374 = .ok (.iconst 1, 1) := by decide +kernel
theorem dL_law_375 : decode cL_law 375 = .ok (.iadd, 1) := by decide +kernel
theorem dL_law_376 : decode cL_law 376 = .ok (.iaload, 1) := by decide +kernel
theorem dL_law_377 : decode cL_law 377 = .ok (.invokevirtual 52, 3) := by decide +kernel
theorem dL_law_380 : decode cL_law 380 = .ok (.if_icmp .eq 579, 3) := by decide +kernel
theorem dL_law_383 : decode cL_law 383 = .ok (.iconst 0, 1) := by decide +kernel
theorem dL_law_384 : decode cL_law 384 = .ok (.ireturn, 1) := by decide +kernel
theorem dL_law_385 : decode cL_law 385 = .ok (.aload_n 1, 1) := by decide +kernel
theorem dL_law_386 : decode cL_law 386 = .ok (.aload_n 0, 1) := by decide +kernel
theorem dL_law_387 : decode cL_law 387 = .ok (.iload_n 3, 1) := by decide +kernel
theorem dL_law_388 : decode cL_law 388 = .ok (.iconst 1, 1) := by decide +kernel
theorem dL_law_389 : decode cL_law 389 = .ok (.iadd, 1) := by decide +kernel
theorem dL_law_390 : decode cL_law 390 = .ok (.iaload, 1) := by decide +kernel
theorem dL_law_391 : decode cL_law 391 = .ok (.aload_n 0, 1) := by decide +kernel
theorem dL_law_392 : decode cL_law 392 = .ok (.iload_n 3, 1) := by decide +kernel
theorem dL_law_393 : decode cL_law 393 = .ok (.iconst 2, 1) := by decide +kernel
theorem dL_law_394 : decode cL_law 394 = .ok (.iadd, 1) := by decide +kernel
theorem dL_law_395 : decode cL_law 395 = .ok (.iaload, 1) := by decide +kernel
theorem dL_law_396 : decode cL_law 396 = .ok (.aload_n 0, 1) := by decide +kernel
theorem dL_law_397 : decode cL_law 397 = .ok (.iload_n 3, 1) := by decide +kernel
theorem dL_law_398 : decode cL_law 398 = .ok (.iconst 3, 1) := by decide +kernel
theorem dL_law_399 : decode cL_law 399 = .ok (.iadd, 1) := by decide +kernel
theorem dL_law_400 : decode cL_law 400 = .ok (.iaload, 1) := by decide +kernel
theorem dL_law_401 : decode cL_law 401 = .ok (.aload_n 0, 1) := by decide +kernel
theorem dL_law_402 : decode cL_law 402 = .ok (.iload_n 3, 1) := by decide +kernel
theorem dL_law_403 : decode cL_law 403 = .ok (.iconst 4, 1) := by decide +kernel
theorem dL_law_404 : decode cL_law 404 = .ok (.iadd, 1) := by decide +kernel
theorem dL_law_405 : decode cL_law 405 = .ok (.iaload, 1) := by decide +kernel
theorem dL_law_406 : decode cL_law 406 = .ok (.invokevirtual 53, 3) := by decide +kernel
theorem dL_law_409 : decode cL_law 409 = .ok (.aload_n 2, 1) := by decide +kernel
theorem dL_law_410 : decode cL_law 410 = .ok (.aload_n 0, 1) := by decide +kernel
theorem dL_law_411 : decode cL_law 411 = .ok (.iload_n 3, 1) := by decide +kernel
theorem dL_law_412 : decode cL_law 412 = .ok (.iconst 1, 1) := by decide +kernel
theorem dL_law_413 : decode cL_law 413 = .ok (.iadd, 1) := by decide +kernel
theorem dL_law_414 : decode cL_law 414 = .ok (.iaload, 1) := by decide +kernel
theorem dL_law_415 : decode cL_law 415 = .ok (.aload_n 0, 1) := by decide +kernel
theorem dL_law_416 : decode cL_law 416 = .ok (.iload_n 3, 1) := by decide +kernel
theorem dL_law_417 : decode cL_law 417 = .ok (.iconst 2, 1) := by decide +kernel
theorem dL_law_418 : decode cL_law 418 = .ok (.iadd, 1) := by decide +kernel
theorem dL_law_419 : decode cL_law 419 = .ok (.iaload, 1) := by decide +kernel
theorem dL_law_420 : decode cL_law 420 = .ok (.aload_n 0, 1) := by decide +kernel
theorem dL_law_421 : decode cL_law 421 = .ok (.iload_n 3, 1) := by decide +kernel
theorem dL_law_422 : decode cL_law 422 = .ok (.iconst 3, 1) := by decide +kernel
theorem dL_law_423 : decode cL_law 423 = .ok (.iadd, 1) := by decide +kernel
theorem dL_law_424 : decode cL_law 424 = .ok (.iaload, 1) := by decide +kernel
theorem dL_law_425 : decode cL_law 425 = .ok (.aload_n 0, 1) := by decide +kernel
theorem dL_law_426 : decode cL_law 426 = .ok (.iload_n 3, 1) := by decide +kernel
theorem dL_law_427 : decode cL_law 427 = .ok (.iconst 4, 1) := by decide +kernel
theorem dL_law_428 : decode cL_law 428 = .ok (.iadd, 1) := by decide +kernel
theorem dL_law_429 : decode cL_law 429 = .ok (.iaload, 1) := by decide +kernel
theorem dL_law_430 : decode cL_law 430 = .ok (.invokevirtual 57, 3) := by decide +kernel
theorem dL_law_433 : decode cL_law 433 = .ok (.if_icmp .eq 526, 3) := by decide +kernel
theorem dL_law_436 : decode cL_law 436 = .ok (.iconst 0, 1) := by decide +kernel
theorem dL_law_437 : decode cL_law 437 = .ok (.ireturn, 1) := by decide +kernel
theorem dL_law_438 : decode cL_law 438 = .ok (.aload_n 1, 1) := by decide +kernel
theorem dL_law_439 : decode cL_law 439 = .ok (.aload_n 0, 1) := by decide +kernel
theorem dL_law_440 : decode cL_law 440 = .ok (.iload_n 3, 1) := by decide +kernel
theorem dL_law_441 : decode cL_law 441 = .ok (.iconst 1, 1) := by decide +kernel
theorem dL_law_442 : decode cL_law 442 = .ok (.iadd, 1) := by decide +kernel
theorem dL_law_443 : decode cL_law 443 = .ok (.iaload, 1) := by decide +kernel
theorem dL_law_444 : decode cL_law 444 = .ok (.invokevirtual 58, 3) := by decide +kernel
theorem dL_law_447 : decode cL_law 447 = .ok (.aload_n 2, 1) := by decide +kernel
theorem dL_law_448 : decode cL_law 448 = .ok (.aload_n 0, 1) := by decide +kernel
theorem dL_law_449 : decode cL_law 449 = .ok (.iload_n 3, 1) := by decide +kernel
theorem dL_law_450 : decode cL_law 450 = .ok (.iconst 1, 1) := by decide +kernel
theorem dL_law_451 : decode cL_law 451 = .ok (.iadd, 1) := by decide +kernel
theorem dL_law_452 : decode cL_law 452 = .ok (.iaload, 1) := by decide +kernel
theorem dL_law_453 : decode cL_law 453 = .ok (.invokevirtual 61, 3) := by decide +kernel
theorem dL_law_456 : decode cL_law 456 = .ok (.if_icmp .eq 503, 3) := by decide +kernel
theorem dL_law_459 : decode cL_law 459 = .ok (.iconst 0, 1) := by decide +kernel
theorem dL_law_460 : decode cL_law 460 = .ok (.ireturn, 1) := by decide +kernel
theorem dL_law_461 : decode cL_law 461 = .ok (.aload_n 1, 1) := by decide +kernel
theorem dL_law_462 : decode cL_law 462 = .ok (.aload_n 0, 1) := by decide +kernel
theorem dL_law_463 : decode cL_law 463 = .ok (.iload_n 3, 1) := by decide +kernel
theorem dL_law_464 : decode cL_law 464 = .ok (.iconst 1, 1) := by decide +kernel
theorem dL_law_465 : decode cL_law 465 = .ok (.iadd, 1) := by decide +kernel
theorem dL_law_466 : decode cL_law 466 = .ok (.iaload, 1) := by decide +kernel
theorem dL_law_467 : decode cL_law 467 = .ok (.aload_n 0, 1) := by decide +kernel
theorem dL_law_468 : decode cL_law 468 = .ok (.iload_n 3, 1) := by decide +kernel
theorem dL_law_469 : decode cL_law 469 = .ok (.iconst 2, 1) := by decide +kernel
theorem dL_law_470 : decode cL_law 470 = .ok (.iadd, 1) := by decide +kernel
theorem dL_law_471 : decode cL_law 471 = .ok (.iaload, 1) := by decide +kernel
theorem dL_law_472 : decode cL_law 472 = .ok (.invokevirtual 62, 3) := by decide +kernel
theorem dL_law_475 : decode cL_law 475 = .ok (.aload_n 2, 1) := by decide +kernel
theorem dL_law_476 : decode cL_law 476 = .ok (.aload_n 0, 1) := by decide +kernel
theorem dL_law_477 : decode cL_law 477 = .ok (.iload_n 3, 1) := by decide +kernel
theorem dL_law_478 : decode cL_law 478 = .ok (.iconst 1, 1) := by decide +kernel
theorem dL_law_479 : decode cL_law 479 = .ok (.iadd, 1) := by decide +kernel
theorem dL_law_480 : decode cL_law 480 = .ok (.iaload, 1) := by decide +kernel
theorem dL_law_481 : decode cL_law 481 = .ok (.aload_n 0, 1) := by decide +kernel
theorem dL_law_482 : decode cL_law 482 = .ok (.iload_n 3, 1) := by decide +kernel
theorem dL_law_483 : decode cL_law 483 = .ok (.iconst 2, 1) := by decide +kernel
theorem dL_law_484 : decode cL_law 484 = .ok (.iadd, 1) := by decide +kernel
theorem dL_law_485 : decode cL_law 485 = .ok (.iaload, 1) := by decide +kernel
theorem dL_law_486 : decode cL_law 486 = .ok (.invokevirtual 65, 3) := by decide +kernel
theorem dL_law_489 : decode cL_law 489 = .ok (.if_icmp .eq 470, 3) := by decide +kernel
theorem dL_law_492 : decode cL_law 492 = .ok (.iconst 0, 1) := by decide +kernel
theorem dL_law_493 : decode cL_law 493 = .ok (.ireturn, 1) := by decide +kernel
theorem dL_law_494 : decode cL_law 494 = .ok (.aload_n 1, 1) := by decide +kernel
theorem dL_law_495 : decode cL_law 495 = .ok (.aload_n 0, 1) := by decide +kernel
theorem dL_law_496 : decode cL_law 496 = .ok (.iload_n 3, 1) := by decide +kernel
theorem dL_law_497 : decode cL_law 497 = .ok (.iconst 1, 1) := by decide +kernel
theorem dL_law_498 : decode cL_law 498 = .ok (.iadd, 1) := by decide +kernel
theorem dL_law_499 : decode cL_law 499 = .ok (.iaload, 1) := by decide +kernel
theorem dL_law_500 : decode cL_law 500 = .ok (.aload_n 0, 1) := by decide +kernel
theorem dL_law_501 : decode cL_law 501 = .ok (.iload_n 3, 1) := by decide +kernel
theorem dL_law_502 : decode cL_law 502 = .ok (.iconst 2, 1) := by decide +kernel
theorem dL_law_503 : decode cL_law 503 = .ok (.iadd, 1) := by decide +kernel
theorem dL_law_504 : decode cL_law 504 = .ok (.iaload, 1) := by decide +kernel
theorem dL_law_505 : decode cL_law 505 = .ok (.invokevirtual 66, 3) := by decide +kernel
theorem dL_law_508 : decode cL_law 508 = .ok (.aload_n 2, 1) := by decide +kernel
theorem dL_law_509 : decode cL_law 509 = .ok (.aload_n 0, 1) := by decide +kernel
theorem dL_law_510 : decode cL_law 510 = .ok (.iload_n 3, 1) := by decide +kernel
theorem dL_law_511 : decode cL_law 511 = .ok (.iconst 1, 1) := by decide +kernel
theorem dL_law_512 : decode cL_law 512 = .ok (.iadd, 1) := by decide +kernel
theorem dL_law_513 : decode cL_law 513 = .ok (.iaload, 1) := by decide +kernel
theorem dL_law_514 : decode cL_law 514 = .ok (.aload_n 0, 1) := by decide +kernel
theorem dL_law_515 : decode cL_law 515 = .ok (.iload_n 3, 1) := by decide +kernel
theorem dL_law_516 : decode cL_law 516 = .ok (.iconst 2, 1) := by decide +kernel
theorem dL_law_517 : decode cL_law 517 = .ok (.iadd, 1) := by decide +kernel
theorem dL_law_518 : decode cL_law 518 = .ok (.iaload, 1) := by decide +kernel
theorem dL_law_519 : decode cL_law 519 = .ok (.invokevirtual 69, 3) := by decide +kernel
theorem dL_law_522 : decode cL_law 522 = .ok (.if_icmp .eq 437, 3) := by decide +kernel
theorem dL_law_525 : decode cL_law 525 = .ok (.iconst 0, 1) := by decide +kernel
theorem dL_law_526 : decode cL_law 526 = .ok (.ireturn, 1) := by decide +kernel
theorem dL_law_527 : decode cL_law 527 = .ok (.aload_n 1, 1) := by decide +kernel
theorem dL_law_528 : decode cL_law 528 = .ok (.aload_n 0, 1) := by decide +kernel
theorem dL_law_529 : decode cL_law 529 = .ok (.iload_n 3, 1) := by decide +kernel
theorem dL_law_530 : decode cL_law 530 = .ok (.iconst 1, 1) := by decide +kernel
theorem dL_law_531 : decode cL_law 531 = .ok (.iadd, 1) := by decide +kernel
theorem dL_law_532 : decode cL_law 532 = .ok (.iaload, 1) := by decide +kernel
theorem dL_law_533 : decode cL_law 533 = .ok (.aload_n 0, 1) := by decide +kernel
theorem dL_law_534 : decode cL_law 534 = .ok (.iload_n 3, 1) := by decide +kernel
theorem dL_law_535 : decode cL_law 535 = .ok (.iconst 2, 1) := by decide +kernel
theorem dL_law_536 : decode cL_law 536 = .ok (.iadd, 1) := by decide +kernel
theorem dL_law_537 : decode cL_law 537 = .ok (.iaload, 1) := by decide +kernel
theorem dL_law_538 : decode cL_law 538 = .ok (.invokevirtual 70, 3) := by decide +kernel
theorem dL_law_541 : decode cL_law 541 = .ok (.aload_n 2, 1) := by decide +kernel
theorem dL_law_542 : decode cL_law 542 = .ok (.aload_n 0, 1) := by decide +kernel
theorem dL_law_543 : decode cL_law 543 = .ok (.iload_n 3, 1) := by decide +kernel
theorem dL_law_544 : decode cL_law 544 = .ok (.iconst 1, 1) := by decide +kernel
theorem dL_law_545 : decode cL_law 545 = .ok (.iadd, 1) := by decide +kernel
theorem dL_law_546 : decode cL_law 546 = .ok (.iaload, 1) := by decide +kernel
theorem dL_law_547 : decode cL_law 547 = .ok (.aload_n 0, 1) := by decide +kernel
theorem dL_law_548 : decode cL_law 548 = .ok (.iload_n 3, 1) := by decide +kernel
theorem dL_law_549 : decode cL_law 549 = .ok (.iconst 2, 1) := by decide +kernel
theorem dL_law_550 : decode cL_law 550 = .ok (.iadd, 1) := by decide +kernel
theorem dL_law_551 : decode cL_law 551 = .ok (.iaload, 1) := by decide +kernel
theorem dL_law_552 : decode cL_law 552 = .ok (.invokevirtual 73, 3) := by decide +kernel
theorem dL_law_555 : decode cL_law 555 = .ok (.if_icmp .eq 404, 3) := by decide +kernel
theorem dL_law_558 : decode cL_law 558 = .ok (.iconst 0, 1) := by decide +kernel
theorem dL_law_559 : decode cL_law 559 = .ok (.ireturn, 1) := by decide +kernel
theorem dL_law_560 : decode cL_law 560 = .ok (.aload_n 1, 1) := by decide +kernel
theorem dL_law_561 : decode cL_law 561 = .ok (.aload_n 0, 1) := by decide +kernel
theorem dL_law_562 : decode cL_law 562 = .ok (.iload_n 3, 1) := by decide +kernel
theorem dL_law_563 : decode cL_law 563 = .ok (.iconst 1, 1) := by decide +kernel
theorem dL_law_564 : decode cL_law 564 = .ok (.iadd, 1) := by decide +kernel
theorem dL_law_565 : decode cL_law 565 = .ok (.iaload, 1) := by decide +kernel
theorem dL_law_566 : decode cL_law 566 = .ok (.aload_n 0, 1) := by decide +kernel
theorem dL_law_567 : decode cL_law 567 = .ok (.iload_n 3, 1) := by decide +kernel
theorem dL_law_568 : decode cL_law 568 = .ok (.iconst 2, 1) := by decide +kernel
theorem dL_law_569 : decode cL_law 569 = .ok (.iadd, 1) := by decide +kernel
theorem dL_law_570 : decode cL_law 570 = .ok (.iaload, 1) := by decide +kernel
theorem dL_law_571 : decode cL_law 571 = .ok (.aload_n 0, 1) := by decide +kernel
theorem dL_law_572 : decode cL_law 572 = .ok (.iload_n 3, 1) := by decide +kernel
theorem dL_law_573 : decode cL_law 573 = .ok (.iconst 3, 1) := by decide +kernel
theorem dL_law_574 : decode cL_law 574 = .ok (.iadd, 1) := by decide +kernel
theorem dL_law_575 : decode cL_law 575 = .ok (.iaload, 1) := by decide +kernel
theorem dL_law_576 : decode cL_law 576 = .ok (.aload_n 0, 1) := by decide +kernel
theorem dL_law_577 : decode cL_law 577 = .ok (.iload_n 3, 1) := by decide +kernel
theorem dL_law_578 : decode cL_law 578 = .ok (.iconst 4, 1) := by decide +kernel
theorem dL_law_579 : decode cL_law 579 = .ok (.iadd, 1) := by decide +kernel
theorem dL_law_580 : decode cL_law 580 = .ok (.iaload, 1) := by decide +kernel
theorem dL_law_581 : decode cL_law 581 = .ok (.invokevirtual 74, 3) := by decide +kernel
theorem dL_law_584 : decode cL_law 584 = .ok (.aload_n 2, 1) := by decide +kernel
theorem dL_law_585 : decode cL_law 585 = .ok (.aload_n 0, 1) := by decide +kernel
theorem dL_law_586 : decode cL_law 586 = .ok (.iload_n 3, 1) := by decide +kernel
theorem dL_law_587 : decode cL_law 587 = .ok (.iconst 1, 1) := by decide +kernel
theorem dL_law_588 : decode cL_law 588 = .ok (.iadd, 1) := by decide +kernel
theorem dL_law_589 : decode cL_law 589 = .ok (.iaload, 1) := by decide +kernel
theorem dL_law_590 : decode cL_law 590 = .ok (.aload_n 0, 1) := by decide +kernel
theorem dL_law_591 : decode cL_law 591 = .ok (.iload_n 3, 1) := by decide +kernel
theorem dL_law_592 : decode cL_law 592 = .ok (.iconst 2, 1) := by decide +kernel
theorem dL_law_593 : decode cL_law 593 = .ok (.iadd, 1) := by decide +kernel
theorem dL_law_594 : decode cL_law 594 = .ok (.iaload, 1) := by decide +kernel
theorem dL_law_595 : decode cL_law 595 = .ok (.aload_n 0, 1) := by decide +kernel
theorem dL_law_596 : decode cL_law 596 = .ok (.iload_n 3, 1) := by decide +kernel
theorem dL_law_597 : decode cL_law 597 = .ok (.iconst 3, 1) := by decide +kernel
theorem dL_law_598 : decode cL_law 598 = .ok (.iadd, 1) := by decide +kernel
theorem dL_law_599 : decode cL_law 599 = .ok (.iaload, 1) := by decide +kernel
theorem dL_law_600 : decode cL_law 600 = .ok (.aload_n 0, 1) := by decide +kernel
theorem dL_law_601 : decode cL_law 601 = .ok (.iload_n 3, 1) := by decide +kernel
theorem dL_law_602 : decode cL_law 602 = .ok (.iconst 4, 1) := by decide +kernel
theorem dL_law_603 : decode cL_law 603 = .ok (.iadd, 1) := by decide +kernel
theorem dL_law_604 : decode cL_law 604 = .ok (.iaload, 1) := by decide +kernel
theorem dL_law_605 : decode cL_law 605 = .ok (.invokevirtual 77, 3) := by decide +kernel
theorem dL_law_608 : decode cL_law 608 = .ok (.if_icmp .eq 351, 3) := by decide +kernel
theorem dL_law_611 : decode cL_law 611 = .ok (.iconst 0, 1) := by decide +kernel
theorem dL_law_612 : decode cL_law 612 = .ok (.ireturn, 1) := by decide +kernel
theorem dL_law_613 : decode cL_law 613 = .ok (.aload_n 1, 1) := by decide +kernel
theorem dL_law_614 : decode cL_law 614 = .ok (.aload_n 0, 1) := by decide +kernel
theorem dL_law_615 : decode cL_law 615 = .ok (.iload_n 3, 1) := by decide +kernel
theorem dL_law_616 : decode cL_law 616 = .ok (.iconst 1, 1) := by decide +kernel
theorem dL_law_617 : decode cL_law 617 = .ok (.iadd, 1) := by decide +kernel
theorem dL_law_618 : decode cL_law 618 = .ok (.iaload, 1) := by decide +kernel
theorem dL_law_619 : decode cL_law 619 = .ok (.aload_n 0, 1) := by decide +kernel
theorem dL_law_620 : decode cL_law 620 = .ok (.iload_n 3, 1) := by decide +kernel
theorem dL_law_621 : decode cL_law 621 = .ok (.iconst 2, 1) := by decide +kernel
theorem dL_law_622 : decode cL_law 622 = .ok (.iadd, 1) := by decide +kernel
theorem dL_law_623 : decode cL_law 623 = .ok (.iaload, 1) := by decide +kernel
theorem dL_law_624 : decode cL_law 624 = .ok (.invokevirtual 78, 3) := by decide +kernel
theorem dL_law_627 : decode cL_law 627 = .ok (.aload_n 2, 1) := by decide +kernel
theorem dL_law_628 : decode cL_law 628 = .ok (.aload_n 0, 1) := by decide +kernel
theorem dL_law_629 : decode cL_law 629 = .ok (.iload_n 3, 1) := by decide +kernel
theorem dL_law_630 : decode cL_law 630 = .ok (.iconst 1, 1) := by decide +kernel
theorem dL_law_631 : decode cL_law 631 = .ok (.iadd, 1) := by decide +kernel
theorem dL_law_632 : decode cL_law 632 = .ok (.iaload, 1) := by decide +kernel
theorem dL_law_633 : decode cL_law 633 = .ok (.aload_n 0, 1) := by decide +kernel
theorem dL_law_634 : decode cL_law 634 = .ok (.iload_n 3, 1) := by decide +kernel
theorem dL_law_635 : decode cL_law 635 = .ok (.iconst 2, 1) := by decide +kernel
theorem dL_law_636 : decode cL_law 636 = .ok (.iadd, 1) := by decide +kernel
theorem dL_law_637 : decode cL_law 637 = .ok (.iaload, 1) := by decide +kernel
theorem dL_law_638 : decode cL_law 638 = .ok (.invokevirtual 81, 3) := by decide +kernel
theorem dL_law_641 : decode cL_law 641 = .ok (.if_icmp .eq 318, 3) := by decide +kernel
theorem dL_law_644 : decode cL_law 644 = .ok (.iconst 0, 1) := by decide +kernel
theorem dL_law_645 : decode cL_law 645 = .ok (.ireturn, 1) := by decide +kernel
theorem dL_law_646 : decode cL_law 646 = .ok (.aload_n 1, 1) := by decide +kernel
theorem dL_law_647 : decode cL_law 647 = .ok (.invokevirtual 82, 3) := by decide +kernel
theorem dL_law_650 : decode cL_law 650 = .ok (.aload_n 2, 1) := by decide +kernel
theorem dL_law_651 : decode cL_law 651 = .ok (.invokevirtual 85, 3) := by decide +kernel
theorem dL_law_654 : decode cL_law 654 = .ok (.if_icmp .eq 305, 3) := by decide +kernel
theorem dL_law_657 : decode cL_law 657 = .ok (.iconst 0, 1) := by decide +kernel
theorem dL_law_658 : decode cL_law 658 = .ok (.ireturn, 1) := by decide +kernel
theorem dL_law_659 : decode cL_law 659 = .ok (.aload_n 1, 1) := by decide +kernel
theorem dL_law_660 : decode cL_law 660 = .ok (.aload_n 0, 1) := by decide +kernel
theorem dL_law_661 : decode cL_law 661 = .ok (.iload_n 3, 1) := by decide +kernel
theorem dL_law_662 : decode cL_law 662 = .ok (.iconst 1, 1) := by decide +kernel
theorem dL_law_663 : decode cL_law 663 = .ok (.iadd, 1) := by decide +kernel
theorem dL_law_664 : decode cL_law 664 = .ok (.iaload, 1) := by decide +kernel
theorem dL_law_665 : decode cL_law 665 = .ok (.aload_n 0, 1) := by decide +kernel
theorem dL_law_666 : decode cL_law 666 = .ok (.iload_n 3, 1) := by decide +kernel
theorem dL_law_667 : decode cL_law 667 = .ok (.iconst 2, 1) := by decide +kernel
theorem dL_law_668 : decode cL_law 668 = .ok (.iadd, 1) := by decide +kernel
theorem dL_law_669 : decode cL_law 669 = .ok (.iaload, 1) := by decide +kernel
theorem dL_law_670 : decode cL_law 670 = .ok (.invokevirtual 86, 3) := by decide +kernel
theorem dL_law_673 : decode cL_law 673 = .ok (.aload_n 2, 1) := by decide +kernel
theorem dL_law_674 : decode cL_law 674 = .ok (.aload_n 0, 1) := by decide +kernel
theorem dL_law_675 : decode cL_law 675 = .ok (.iload_n 3, 1) := by decide +kernel
theorem dL_law_676 : decode cL_law 676 = .ok (.iconst 1, 1) := by decide +kernel
theorem dL_law_677 : decode cL_law 677 = .ok (.iadd, 1) := by decide +kernel
theorem dL_law_678 : decode cL_law 678 = .ok (.iaload, 1) := by decide +kernel
theorem dL_law_679 : decode cL_law 679 = .ok (.aload_n 0, 1) := by decide +kernel
theorem dL_law_680 : decode cL_law 680 = .ok (.iload_n 3, 1) := by decide +kernel
theorem dL_law_681 : decode cL_law 681 = .ok (.iconst 2, 1) := by decide +kernel
theorem dL_law_682 : decode cL_law 682 = .ok (.iadd, 1) := by decide +kernel
theorem dL_law_683 : decode cL_law 683 = .ok (.iaload, 1) := by decide +kernel
theorem dL_law_684 : decode cL_law 684 = .ok (.invokevirtual 89, 3) := by decide +kernel
theorem dL_law_687 : decode cL_law 687 = .ok (.if_icmp .eq 272, 3) := by decide +kernel
theorem dL_law_690 : decode cL_law 690 = .ok (.iconst 0, 1) := by decide +kernel
theorem dL_law_691 : decode cL_law 691 = .ok (.ireturn, 1) := by decide +kernel
theorem dL_law_692 : decode cL_law 692 = .ok (.aload_n 1, 1) := by decide +kernel
theorem dL_law_693 : decode cL_law 693 = .ok (.aload_n 0, 1) := by decide +kernel
theorem dL_law_694 : decode cL_law 694 = .ok (.iload_n 3, 1) := by decide +kernel
theorem dL_law_695 : decode cL_law 695 = .ok (.iconst 1, 1) := by decide +kernel
theorem dL_law_696 : decode cL_law 696 = .ok (.iadd, 1) := by decide +kernel
theorem dL_law_697 : decode cL_law 697 = .ok (.iaload, 1) := by decide +kernel
theorem dL_law_698 : decode cL_law 698 = .ok (.aload_n 0, 1) := by decide +kernel
theorem dL_law_699 : decode cL_law 699 = .ok (.iload_n 3, 1) := by decide +kernel
theorem dL_law_700 : decode cL_law 700 = .ok (.iconst 2, 1) := by decide +kernel
theorem dL_law_701 : decode cL_law 701 = .ok (.iadd, 1) := by decide +kernel
theorem dL_law_702 : decode cL_law 702 = .ok (.iaload, 1) := by decide +kernel
theorem dL_law_703 : decode cL_law 703 = .ok (.aload_n 0, 1) := by decide +kernel
theorem dL_law_704 : decode cL_law 704 = .ok (.iload_n 3, 1) := by decide +kernel
theorem dL_law_705 : decode cL_law 705 = .ok (.iconst 3, 1) := by decide +kernel
theorem dL_law_706 : decode cL_law 706 = .ok (.iadd, 1) := by decide +kernel
theorem dL_law_707 : decode cL_law 707 = .ok (.iaload, 1) := by decide +kernel
theorem dL_law_708 : decode cL_law 708 = .ok (.invokevirtual 90, 3) := by decide +kernel
theorem dL_law_711 : decode cL_law 711 = .ok (.aload_n 2, 1) := by decide +kernel
theorem dL_law_712 : decode cL_law 712 = .ok (.aload_n 0, 1) := by decide +kernel
theorem dL_law_713 : decode cL_law 713 = .ok (.iload_n 3, 1) := by decide +kernel
theorem dL_law_714 : decode cL_law 714 = .ok (.iconst 1, 1) := by decide +kernel
theorem dL_law_715 : decode cL_law 715 = .ok (.iadd, 1) := by decide +kernel
theorem dL_law_716 : decode cL_law 716 = .ok (.iaload, 1) := by decide +kernel
theorem dL_law_717 : decode cL_law 717 = .ok (.aload_n 0, 1) := by decide +kernel
theorem dL_law_718 : decode cL_law 718 = .ok (.iload_n 3, 1) := by decide +kernel
theorem dL_law_719 : decode cL_law 719 = .ok (.iconst 2, 1) := by decide +kernel
theorem dL_law_720 : decode cL_law 720 = .ok (.iadd, 1) := by decide +kernel
theorem dL_law_721 : decode cL_law 721 = .ok (.iaload, 1) := by decide +kernel
theorem dL_law_722 : decode cL_law 722 = .ok (.aload_n 0, 1) := by decide +kernel
theorem dL_law_723 : decode cL_law 723 = .ok (.iload_n 3, 1) := by decide +kernel
theorem dL_law_724 : decode cL_law 724 = .ok (.iconst 3, 1) := by decide +kernel
theorem dL_law_725 : decode cL_law 725 = .ok (.iadd, 1) := by decide +kernel
theorem dL_law_726 : decode cL_law 726 = .ok (.iaload, 1) := by decide +kernel
theorem dL_law_727 : decode cL_law 727 = .ok (.invokevirtual 93, 3) := by decide +kernel
theorem dL_law_730 : decode cL_law 730 = .ok (.if_icmp .eq 229, 3) := by decide +kernel
theorem dL_law_733 : decode cL_law 733 = .ok (.iconst 0, 1) := by decide +kernel
theorem dL_law_734 : decode cL_law 734 = .ok (.ireturn, 1) := by decide +kernel
theorem dL_law_735 : decode cL_law 735 = .ok (.aload_n 1, 1) := by decide +kernel
theorem dL_law_736 : decode cL_law 736 = .ok (.aload_n 0, 1) := by decide +kernel
theorem dL_law_737 : decode cL_law 737 = .ok (.iload_n 3, 1) := by decide +kernel
theorem dL_law_738 : decode cL_law 738 = .ok (.iconst 1, 1) := by decide +kernel
theorem dL_law_739 : decode cL_law 739 = .ok (.iadd, 1) := by decide +kernel
theorem dL_law_740 : decode cL_law 740 = .ok (.iaload, 1) := by decide +kernel
theorem dL_law_741 : decode cL_law 741 = .ok (.aload_n 0, 1) := by decide +kernel
theorem dL_law_742 : decode cL_law 742 = .ok (.iload_n 3, 1) := by decide +kernel
theorem dL_law_743 : decode cL_law 743 = .ok (.iconst 2, 1) := by decide +kernel
theorem dL_law_744 : decode cL_law 744 = .ok (.iadd, 1) := by decide +kernel
theorem dL_law_745 : decode cL_law 745 = .ok (.iaload, 1) := by decide +kernel
theorem dL_law_746 : decode cL_law 746 = .ok (.aload_n 0, 1) := by decide +kernel
theorem dL_law_747 : decode cL_law 747 = .ok (.iload_n 3, 1) := by decide +kernel
theorem dL_law_748 : decode cL_law 748 = .ok (.iconst 3, 1) := by decide +kernel
theorem dL_law_749 : decode cL_law 749 = .ok (.iadd, 1) := by decide +kernel
theorem dL_law_750 : decode cL_law 750 = .ok (.iaload, 1) := by decide +kernel
theorem dL_law_751 : decode cL_law 751 = .ok (.invokevirtual 94, 3) := by decide +kernel
theorem dL_law_754 : decode cL_law 754 = .ok (.aload_n 2, 1) := by decide +kernel
theorem dL_law_755 : decode cL_law 755 = .ok (.aload_n 0, 1) := by decide +kernel
theorem dL_law_756 : decode cL_law 756 = .ok (.iload_n 3, 1) := by decide +kernel
theorem dL_law_757 : decode cL_law 757 = .ok (.iconst 1, 1) := by decide +kernel
theorem dL_law_758 : decode cL_law 758 = .ok (.iadd, 1) := by decide +kernel
theorem dL_law_759 : decode cL_law 759 = .ok (.iaload, 1) := by decide +kernel
theorem dL_law_760 : decode cL_law 760 = .ok (.aload_n 0, 1) := by decide +kernel
theorem dL_law_761 : decode cL_law 761 = .ok (.iload_n 3, 1) := by decide +kernel
theorem dL_law_762 : decode cL_law 762 = .ok (.iconst 2, 1) := by decide +kernel
theorem dL_law_763 : decode cL_law 763 = .ok (.iadd, 1) := by decide +kernel
theorem dL_law_764 : decode cL_law 764 = .ok (.iaload, 1) := by decide +kernel
theorem dL_law_765 : decode cL_law 765 = .ok (.aload_n 0, 1) := by decide +kernel
theorem dL_law_766 : decode cL_law 766 = .ok (.iload_n 3, 1) := by decide +kernel
theorem dL_law_767 : decode cL_law 767 = .ok (.iconst 3, 1) := by decide +kernel
theorem dL_law_768 : decode cL_law 768 = .ok (.iadd, 1) := by decide +kernel
theorem dL_law_769 : decode cL_law 769 = .ok (.iaload, 1) := by decide +kernel
theorem dL_law_770 : decode cL_law 770 = .ok (.invokevirtual 97, 3) := by decide +kernel
theorem dL_law_773 : decode cL_law 773 = .ok (.if_icmp .eq 186, 3) := by decide +kernel
theorem dL_law_776 : decode cL_law 776 = .ok (.iconst 0, 1) := by decide +kernel
theorem dL_law_777 : decode cL_law 777 = .ok (.ireturn, 1) := by decide +kernel
theorem dL_law_778 : decode cL_law 778 = .ok (.aload_n 1, 1) := by decide +kernel
theorem dL_law_779 : decode cL_law 779 = .ok (.invokevirtual 98, 3) := by decide +kernel
theorem dL_law_782 : decode cL_law 782 = .ok (.aload_n 2, 1) := by decide +kernel
theorem dL_law_783 : decode cL_law 783 = .ok (.invokevirtual 101, 3) := by decide +kernel
theorem dL_law_786 : decode cL_law 786 = .ok (.if_icmp .eq 173, 3) := by decide +kernel
theorem dL_law_789 : decode cL_law 789 = .ok (.iconst 0, 1) := by decide +kernel
theorem dL_law_790 : decode cL_law 790 = .ok (.ireturn, 1) := by decide +kernel
theorem dL_law_791 : decode cL_law 791 = .ok (.aload_n 1, 1) := by decide +kernel
theorem dL_law_792 : decode cL_law 792 = .ok (.aload_n 0, 1) := by decide +kernel
theorem dL_law_793 : decode cL_law 793 = .ok (.iload_n 3, 1) := by decide +kernel
theorem dL_law_794 : decode cL_law 794 = .ok (.iconst 1, 1) := by decide +kernel
theorem dL_law_795 : decode cL_law 795 = .ok (.iadd, 1) := by decide +kernel
theorem dL_law_796 : decode cL_law 796 = .ok (.iaload, 1) := by decide +kernel
theorem dL_law_797 : decode cL_law 797 = .ok (.invokevirtual 102, 3) := by decide +kernel
theorem dL_law_800 : decode cL_law 800 = .ok (.aload_n 2, 1) := by decide +kernel
theorem dL_law_801 : decode cL_law 801 = .ok (.aload_n 0, 1) := by decide +kernel
theorem dL_law_802 : decode cL_law 802 = .ok (.iload_n 3, 1) := by decide +kernel
theorem dL_law_803 : decode cL_law 803 = .ok (.iconst 1, 1) := by decide +kernel
theorem dL_law_804 : decode cL_law 804 = .ok (.iadd, 1) := by decide +kernel
theorem dL_law_805 : decode cL_law 805 = .ok (.iaload, 1) := by decide +kernel
theorem dL_law_806 : decode cL_law 806 = .ok (.invokevirtual 105, 3) := by decide +kernel
theorem dL_law_809 : decode cL_law 809 = .ok (.if_icmp .eq 150, 3) := by decide +kernel
theorem dL_law_812 : decode cL_law 812 = .ok (.iconst 0, 1) := by decide +kernel
theorem dL_law_813 : decode cL_law 813 = .ok (.ireturn, 1) := by decide +kernel
theorem dL_law_814 : decode cL_law 814 = .ok (.aload_n 1, 1) := by decide +kernel
theorem dL_law_815 : decode cL_law 815 = .ok (.invokevirtual 106, 3) := by decide +kernel
theorem dL_law_818 : decode cL_law 818 = .ok (.aload_n 2, 1) := by decide +kernel
theorem dL_law_819 : decode cL_law 819 = .ok (.invokevirtual 109, 3) := by decide +kernel
theorem dL_law_822 : decode cL_law 822 = .ok (.if_icmp .eq 137, 3) := by decide +kernel
theorem dL_law_825 : decode cL_law 825 = .ok (.iconst 0, 1) := by decide +kernel
theorem dL_law_826 : decode cL_law 826 = .ok (.ireturn, 1) := by decide +kernel
theorem dL_law_827 : decode cL_law 827 = .ok (.aload_n 1, 1) := by decide +kernel
theorem dL_law_828 : decode cL_law 828 = .ok (.invokevirtual 110, 3) := by decide +kernel
theorem dL_law_831 : decode cL_law 831 = .ok (.aload_n 2, 1) := by decide +kernel
theorem dL_law_832 : decode cL_law 832 = .ok (.invokevirtual 113, 3) := by decide +kernel
theorem dL_law_835 : decode cL_law 835 = .ok (.if_icmp .eq 124, 3) := by decide +kernel
theorem dL_law_838 : decode cL_law 838 = .ok (.iconst 0, 1) := by decide +kernel
theorem dL_law_839 : decode cL_law 839 = .ok (.ireturn, 1) := by decide +kernel
theorem dL_law_840 : decode cL_law 840 = .ok (.aload_n 1, 1) := by decide +kernel
theorem dL_law_841 : decode cL_law 841 = .ok (.aload_n 0, 1) := by decide +kernel
theorem dL_law_842 : decode cL_law 842 = .ok (.iload_n 3, 1) := by decide +kernel
theorem dL_law_843 : decode cL_law 843 = .ok (.iconst 1, 1) := by decide +kernel
theorem dL_law_844 : decode cL_law 844 = .ok (.iadd, 1) := by decide +kernel
theorem dL_law_845 : decode cL_law 845 = .ok (.iaload, 1) := by decide +kernel
theorem dL_law_846 : decode cL_law 846 = .ok (.invokevirtual 114, 3) := by decide +kernel
theorem dL_law_849 : decode cL_law 849 = .ok (.aload_n 2, 1) := by decide +kernel
theorem dL_law_850 : decode cL_law 850 = .ok (.aload_n 0, 1) := by decide +kernel
theorem dL_law_851 : decode cL_law 851 = .ok (.iload_n 3, 1) := by decide +kernel
theorem dL_law_852 : decode cL_law 852 = .ok (.iconst 1, 1) := by decide +kernel
theorem dL_law_853 : decode cL_law 853 = .ok (.iadd, 1) := by decide +kernel
theorem dL_law_854 : decode cL_law 854 = .ok (.iaload, 1) := by decide +kernel
theorem dL_law_855 : decode cL_law 855 = .ok (.invokevirtual 117, 3) := by decide +kernel
theorem dL_law_858 : decode cL_law 858 = .ok (.if_icmp .eq 101, 3) := by decide +kernel
theorem dL_law_861 : decode cL_law 861 = .ok (.iconst 0, 1) := by decide +kernel
theorem dL_law_862 : decode cL_law 862 = .ok (.ireturn, 1) := by decide +kernel
theorem dL_law_863 : decode cL_law 863 = .ok (.aload_n 1, 1) := by decide +kernel
theorem dL_law_864 : decode cL_law 864 = .ok (.aload_n 0, 1) := by decide +kernel
theorem dL_law_865 : decode cL_law 865 = .ok (.iload_n 3, 1) := by decide +kernel
theorem dL_law_866 : decode cL_law 866 = .ok (.iconst 1, 1) := by decide +kernel
theorem dL_law_867 : decode cL_law 867 = .ok (.iadd, 1) := by decide +kernel
theorem dL_law_868 : decode cL_law 868 = .ok (.iaload, 1) := by decide +kernel
theorem dL_law_869 : decode cL_law 869 = .ok (.invokevirtual 118, 3) := by decide +kernel
theorem dL_law_872 : decode cL_law 872 = .ok (.aload_n 2, 1) := by decide +kernel
theorem dL_law_873 : decode cL_law 873 = .ok (.aload_n 0, 1) := by decide +kernel
theorem dL_law_874 : decode cL_law 874 = .ok (.iload_n 3, 1) := by decide +kernel
theorem dL_law_875 : decode cL_law 875 = .ok (.iconst 1, 1) := by decide +kernel
theorem dL_law_876 : decode cL_law 876 = .ok (.iadd, 1) := by decide +kernel
theorem dL_law_877 : decode cL_law 877 = .ok (.iaload, 1) := by decide +kernel
theorem dL_law_878 : decode cL_law 878 = .ok (.invokevirtual 121, 3) := by decide +kernel
theorem dL_law_881 : decode cL_law 881 = .ok (.if_icmp .eq 78, 3) := by decide +kernel
theorem dL_law_884 : decode cL_law 884 = .ok (.iconst 0, 1) := by decide +kernel
theorem dL_law_885 : decode cL_law 885 = .ok (.ireturn, 1) := by decide +kernel
theorem dL_law_886 : decode cL_law 886 = .ok (.aload_n 1, 1) := by decide +kernel
theorem dL_law_887 : decode cL_law 887 = .ok (.invokevirtual 122, 3) := by decide +kernel
theorem dL_law_890 : decode cL_law 890 = .ok (.aload_n 2, 1) := by decide +kernel
theorem dL_law_891 : decode cL_law 891 = .ok (.invokevirtual 125, 3) := by decide +kernel
theorem dL_law_894 : decode cL_law 894 = .ok (.if_icmp .eq 65, 3) := by decide +kernel
theorem dL_law_897 : decode cL_law 897 = .ok (.iconst 0, 1) := by decide +kernel
theorem dL_law_898 : decode cL_law 898 = .ok (.ireturn, 1) := by decide +kernel
theorem dL_law_899 : decode cL_law 899 = .ok (.aload_n 1, 1) := by decide +kernel
theorem dL_law_900 : decode cL_law 900 = .ok (.aload_n 0, 1) := by decide +kernel
theorem dL_law_901 : decode cL_law 901 = .ok (.iload_n 3, 1) := by decide +kernel
theorem dL_law_902 : decode cL_law 902 = .ok (.iconst 1, 1) := by decide +kernel
theorem dL_law_903 : decode cL_law 903 = .ok (.iadd, 1) := by decide +kernel
theorem dL_law_904 : decode cL_law 904 = .ok (.iaload, 1) := by decide +kernel
theorem dL_law_905 : decode cL_law 905 = .ok (.invokevirtual 126, 3) := by decide +kernel
theorem dL_law_908 : decode cL_law 908 = .ok (.aload_n 2, 1) := by decide +kernel
theorem dL_law_909 : decode cL_law 909 = .ok (.aload_n 0, 1) := by decide +kernel
theorem dL_law_910 : decode cL_law 910 = .ok (.iload_n 3, 1) := by decide +kernel
theorem dL_law_911 : decode cL_law 911 = .ok (.iconst 1, 1) := by decide +kernel
theorem dL_law_912 : decode cL_law 912 = .ok (.iadd, 1) := by decide +kernel
theorem dL_law_913 : decode cL_law 913 = .ok (.iaload, 1) := by decide +kernel
theorem dL_law_914 : decode cL_law 914 = .ok (.invokevirtual 129, 3) := by decide +kernel
theorem dL_law_917 : decode cL_law 917 = .ok (.if_icmp .eq 42, 3) := by decide +kernel
theorem dL_law_920 : decode cL_law 920 = .ok (.iconst 0, 1) := by decide +kernel
theorem dL_law_921 : decode cL_law 921 = .ok (.ireturn, 1) := by decide +kernel
theorem dL_law_922 : decode cL_law 922 = .ok (.aload_n 1, 1) := by decide +kernel
theorem dL_law_923 : decode cL_law 923 = .ok (.aload_n 0, 1) := by decide +kernel
theorem dL_law_924 : decode cL_law 924 = .ok (.iload_n 3, 1) := by decide +kernel
theorem dL_law_925 : decode cL_law 925 = .ok (.iconst 1, 1) := by decide +kernel
theorem dL_law_926 : decode cL_law 926 = .ok (.iadd, 1) := by decide +kernel
theorem dL_law_927 : decode cL_law 927 = .ok (.iaload, 1) := by decide +kernel
theorem dL_law_928 : decode cL_law 928 = .ok (.invokevirtual 130, 3) := by decide +kernel
theorem dL_law_931 : decode cL_law 931 = .ok (.aload_n 2, 1) := by decide +kernel
theorem dL_law_932 : decode cL_law 932 = .ok (.aload_n 0, 1) := by decide +kernel
theorem dL_law_933 : decode cL_law 933 = .ok (.iload_n 3, 1) := by decide +kernel
theorem dL_law_934 : decode cL_law 934 = .ok (.iconst 1, 1) := by decide +kernel
theorem dL_law_935 : decode cL_law 935 = .ok (.iadd, 1) := by decide +kernel
theorem dL_law_936 : decode cL_law 936 = .ok (.iaload, 1) := by decide +kernel
theorem dL_law_937 : decode cL_law 937 = .ok (.invokevirtual 133, 3) := by decide +kernel
theorem dL_law_940 : decode cL_law 940 = .ok (.if_icmp .eq 19, 3) := by decide +kernel
theorem dL_law_943 : decode cL_law 943 = .ok (.iconst 0, 1) := by decide +kernel
theorem dL_law_944 : decode cL_law 944 = .ok (.ireturn, 1) := by decide +kernel
theorem dL_law_945 : decode cL_law 945 = .ok (.aload_n 1, 1) := by decide +kernel
theorem dL_law_946 : decode cL_law 946 = .ok (.invokevirtual 134, 3) := by decide +kernel
theorem dL_law_949 : decode cL_law 949 = .ok (.aload_n 2, 1) := by decide +kernel
theorem dL_law_950 : decode cL_law 950 = .ok (.invokevirtual 138, 3) := by decide +kernel
theorem dL_law_953 : decode cL_law 953 = .ok (.lcmp, 1) := by decide +kernel
theorem dL_law_954 : decode cL_law 954 = .ok (.ifCond .eq 5, 3) := by decide +kernel
theorem dL_law_957 : decode cL_law 957 = .ok (.iconst 0, 1) := by decide +kernel
theorem dL_law_958 : decode cL_law 958 = .ok (.ireturn, 1) := by decide +kernel
theorem dL_law_959 : decode cL_law 959 = .ok (.iinc 3 5, 3) := by decide +kernel
theorem dL_law_962 : decode cL_law 962 = .ok (.goto (-944), 3) := by decide +kernel
theorem dL_law_965 : decode cL_law 965 = .ok (.iconst 1, 1) := by decide +kernel
theorem dL_law_966 : decode cL_law 966 = .ok (.ireturn, 1) := by decide +kernel
