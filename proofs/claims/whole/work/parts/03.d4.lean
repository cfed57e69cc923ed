theorem dX9_far_46 : decode cX9_far 46 = .ok (.bipush (-6), 2) := by decide +kernel
theorem dX9_far_48 : decode cX9_far 48 = .ok (.putfield 56, 3) := by decide +kernel
theorem dX9_far_51 : decode cX9_far 51 = .ok (.iconst 0, 1) := by decide +kernel
theorem dX9_far_52 : decode cX9_far 52 = .ok (.istore 5, 2) := by decide +kernel
theorem dX9_far_54 : decode cX9_far 54 = .ok (.iconst 0, 1) := by decide +kernel
theorem dX9_far_55 : decode cX9_far 55 = .ok (.istore 6, 2) := by decide +kernel
theorem dX9_far_57 : decode cX9_far 57 = .ok (.iload 6, 2) := by decide +kernel
theorem dX9_far_59 : decode cX9_far 59 = .ok (.sipush 256, 3) := by decide +kernel
theorem dX9_far_62 : decode cX9_far 62 = .ok (.if_icmp .ge 97, 3) := by decide +kernel
theorem dX9_far_65 : decode cX9_far 65 = .ok (.iconst 0, 1) := by decide +kernel
theorem dX9_far_66 : decode cX9_far 66 = .ok (.istore 7, 2) := by decide +kernel
theorem dX9_far_68 : decode cX9_far 68 = .ok (.iload 7, 2) := by decide +kernel
theorem dX9_far_70 : decode cX9_far 70 = .ok (.iconst 4, 1) := by decide +kernel
theorem dX9_far_71 : decode cX9_far 71 = .ok (.if_icmp .ge 82, 3) := by decide +kernel
theorem dX9_far_74 : decode cX9_far 74 = .ok (.iload 7, 2) := by decide +kernel
theorem dX9_far_76 : decode cX9_far 76 = .ok (.iload 6, 2) := by decide +kernel
theorem dX9_far_78 : decode cX9_far 78 = .ok (.iload_n 2, 1) := by decide +kernel
theorem dX9_far_79 : decode cX9_far 79 = .ok (.invokestatic 128, 3) := by decide +kernel
theorem dX9_far_82 : decode cX9_far 82 = .ok (.isub, 1) := by decide +kernel
theorem dX9_far_83 : decode cX9_far 83 = .ok (.istore 8, 2) := by decide +kernel
theorem dX9_far_85 : decode cX9_far 85 = .ok (.aload_n 0, 1) := by decide +kernel
theorem dX9_far_86 : decode cX9_far 86 = .ok (.getfield 38, 3) := by decide +kernel
theorem dX9_far_89 : decode cX9_far 89 = .ok (.iload 6, 2) := by decide +kernel
theorem dX9_far_91 : decode cX9_far 91 = .ok (.iload_n 2, 1) := by decide +kernel
theorem dX9_far_92 : decode cX9_far 92 = .ok (.iload 7, 2) := by decide +kernel
theorem dX9_far_94 : decode cX9_far 94 = .ok (.invokestatic 143, 3) := by decide +kernel
theorem dX9_far_97 : decode cX9_far 97 = .ok (.iaload, 1) := by decide +kernel
theorem dX9_far_98 : decode cX9_far 98 = .ok (.iload_n 3, 1) := by decide +kernel
theorem dX9_far_99 : decode cX9_far 99 = .ok (.invokestatic 128, 3) := by decide +kernel
theorem dX9_far_102 : decode cX9_far 102 = .ok (.aload_n 0, 1) := by decide +kernel
theorem dX9_far_103 : decode cX9_far 103 = .ok (.getfield 38, 3) := by decide +kernel
theorem dX9_far_106 : decode cX9_far 106 = .ok (.iload 6, 2) := by decide +kernel
theorem dX9_far_108 : decode cX9_far 108 = .ok (.iaload, 1) := by decide +kernel
theorem dX9_far_109 : decode cX9_far 109 = .ok (.iload_n 3, 1) := by decide +kernel
theorem dX9_far_110 : decode cX9_far 110 = .ok (.invokestatic 128, 3) := by decide +kernel
theorem dX9_far_113 : decode cX9_far 113 = .ok (.isub, 1) := by decide +kernel
theorem dX9_far_114 : decode cX9_far 114 = .ok (.istore 9, 2) := by decide +kernel
theorem dX9_far_116 : decode cX9_far 116 = .ok (.iload 8, 2) := by decide +kernel
theorem dX9_far_118 : decode cX9_far 118 = .ok (.iload 4, 2) := by decide +kernel
theorem dX9_far_120 : decode cX9_far 120 = .ok (.if_icmp .gt 23, 3) := by decide +kernel
theorem dX9_far_123 : decode cX9_far 123 = .ok (.iload 8, 2) := by decide +kernel
theorem dX9_far_125 : decode cX9_far 125 = .ok (.iload 4, 2) := by decide +kernel
theorem dX9_far_127 : decode cX9_far 127 = .ok (.ineg, 1) := by decide +kernel
theorem dX9_far_128 : decode cX9_far 128 = .ok (.if_icmp .lt 15, 3) := by decide +kernel
theorem dX9_far_131 : decode cX9_far 131 = .ok (.iload 9, 2) := by decide +kernel
theorem dX9_far_133 : decode cX9_far 133 = .ok (.iload 5, 2) := by decide +kernel
theorem dX9_far_135 : decode cX9_far 135 = .ok (.if_icmp .le 8, 3) := by decide +kernel
theorem dX9_far_138 : decode cX9_far 138 = .ok (.iload 9, 2) := by decide +kernel
theorem dX9_far_140 : decode cX9_far 140 = .ok (.goto 5, 3) := by decide +kernel
theorem dX9_far_143 : decode cX9_far 143 = .ok (.iload 5, 2) := by decide +kernel
theorem dX9_far_145 : decode cX9_far 145 = .ok (.istore 5, 2) := by decide +kernel
theorem dX9_far_147 : decode cX9_far 147 = .ok (.iinc 7 1, 3) := by decide +kernel
theorem dX9_far_150 : decode cX9_far 150 = .ok (.goto (-82), 3) := by decide +kernel
theorem dX9_far_153 : decode cX9_far 153 = .ok (.iinc 6 1, 3) := by decide +kernel
theorem dX9_far_156 : decode cX9_far 156 = .ok (.goto (-99), 3) := by decide +kernel
theorem dX9_far_159 : decode cX9_far 159 = .ok (.iload 5, 2) := by decide +kernel
theorem dX9_far_161 : decode cX9_far 161 = .ok (.ireturn, 1) := by decide +kernel
theorem dX9_unlikeLines_0 : decode cX9_unlikeLines 0 = .ok (.iconst 0, 1) := by decide +kernel
theorem dX9_unlikeLines_1 : decode cX9_unlikeLines 1 = .ok (.istore_n 3, 1) := by decide +kernel
theorem dX9_unlikeLines_2 : decode cX9_unlikeLines 2 = .ok (.iconst 0, 1) := by decide +kernel
theorem dX9_unlikeLines_3 : decode cX9_unlikeLines 3 = .ok (.istore 4, 2) := by decide +kernel
theorem dX9_unlikeLines_5 : decode cX9_unlikeLines 5 = .ok (.iload 4, 2) := by decide +kernel
theorem dX9_unlikeLines_7 : decode cX9_unlikeLines 7 = .ok (.bipush 12, 2) := by decide +kernel
theorem dX9_unlikeLines_9 : decode cX9_unlikeLines 9 = .ok (.if_icmp .ge 166, 3) := by decide +kernel
theorem dX9_unlikeLines_12 : decode cX9_unlikeLines 12 = .ok (.iload 4, 2) := by decide +kernel
theorem dX9_unlikeLines_14 : decode cX9_unlikeLines 14 = .ok (.aload_n 0, 1) := by decide +kernel
theorem dX9_unlikeLines_15 : decode cX9_unlikeLines 15 = .ok (.getfield 22, 3) := by decide +kernel
theorem dX9_unlikeLines_18 : decode cX9_unlikeLines 18 = .ok (.iload_n 1, 1) := by decide +kernel
theorem dX9_unlikeLines_19 : decode cX9_unlikeLines 19 = .ok (.iaload, 1) := by decide +kernel
theorem dX9_unlikeLines_20 : decode cX9_unlikeLines 20 = .ok (.if_icmp .ge 7, 3) := by decide +kernel
theorem dX9_unlikeLines_23 : decode cX9_unlikeLines 23 = .ok (.iconst 1, 1) := by decide +kernel
theorem dX9_unlikeLines_24 : decode cX9_unlikeLines 24 = .ok (.goto 4, 3) := by decide +kernel
theorem dX9_unlikeLines_27 : decode cX9_unlikeLines 27 = .ok (.iconst 0, 1) := by decide +kernel
theorem dX9_unlikeLines_28 : decode cX9_unlikeLines 28 = .ok (.istore 5, 2) := by decide +kernel
theorem dX9_unlikeLines_30 : decode cX9_unlikeLines 30 = .ok (.iload 4, 2) := by decide +kernel
theorem dX9_unlikeLines_32 : decode cX9_unlikeLines 32 = .ok (.aload_n 0, 1) := by decide +kernel
theorem dX9_unlikeLines_33 : decode cX9_unlikeLines 33 = .ok (.getfield 22, 3) := by decide +kernel
theorem dX9_unlikeLines_36 : decode cX9_unlikeLines 36 = .ok (.iload_n 2, 1) := by decide +kernel
theorem dX9_unlikeLines_37 : decode cX9_unlikeLines 37 = .ok (.iaload, 1) := by decide +kernel
theorem dX9_unlikeLines_38 : decode cX9_unlikeLines 38 = .ok (.if_icmp .ge 7, 3) := by decide +kernel
theorem dX9_unlikeLines_41 : decode cX9_unlikeLines 41 = .ok (.iconst 1, 1) := by decide +kernel
theorem dX9_unlikeLines_42 : decode cX9_unlikeLines 42 = .ok (.goto 4, 3) := by decide +kernel
theorem dX9_unlikeLines_45 : decode cX9_unlikeLines 45 = .ok (.iconst 0, 1) := by decide +kernel
theorem dX9_unlikeLines_46 : decode cX9_unlikeLines 46 = .ok (.istore 6, 2) := by decide +kernel
theorem dX9_unlikeLines_48 : decode cX9_unlikeLines 48 = .ok (.bipush 12, 2) := by decide +kernel
theorem dX9_unlikeLines_50 : decode cX9_unlikeLines 50 = .ok (.iload_n 1, 1) := by decide +kernel
theorem dX9_unlikeLines_51 : decode cX9_unlikeLines 51 = .ok (.imul, 1) := by decide +kernel
theorem dX9_unlikeLines_52 : decode cX9_unlikeLines 52 = .ok (.iload 4, 2) := by decide +kernel
theorem dX9_unlikeLines_54 : decode cX9_unlikeLines 54 = .ok (.iadd, 1) := by decide +kernel
theorem dX9_unlikeLines_55 : decode cX9_unlikeLines 55 = .ok (.istore 7, 2) := by decide +kernel
theorem dX9_unlikeLines_57 : decode cX9_unlikeLines 57 = .ok (.bipush 12, 2) := by decide +kernel
theorem dX9_unlikeLines_59 : decode cX9_unlikeLines 59 = .ok (.iload_n 2, 1) := by decide +kernel
theorem dX9_unlikeLines_60 : decode cX9_unlikeLines 60 = .ok (.imul, 1) := by decide +kernel
theorem dX9_unlikeLines_61 : decode cX9_unlikeLines 61 = .ok (.iload 4, 2) := by decide +kernel
theorem dX9_unlikeLines_63 : decode cX9_unlikeLines 63 = .ok (.iadd, 1) := by decide +kernel
theorem dX9_unlikeLines_64 : decode cX9_unlikeLines 64 = .ok (.istore 8, 2) := by decide +kernel
theorem dX9_unlikeLines_66 : decode cX9_unlikeLines 66 = .ok (.iload 5, 2) := by decide +kernel
theorem dX9_unlikeLines_68 : decode cX9_unlikeLines 68 = .ok (.iload 6, 2) := by decide +kernel
theorem dX9_unlikeLines_70 : decode cX9_unlikeLines 70 = .ok (.if_icmp .ne 80, 3) := by decide +kernel
theorem dX9_unlikeLines_73 : decode cX9_unlikeLines 73 = .ok (.iload 5, 2) := by decide +kernel
theorem dX9_unlikeLines_75 : decode cX9_unlikeLines 75 = .ok (.ifCond .eq 71, 3) := by decide +kernel
theorem dX9_unlikeLines_78 : decode cX9_unlikeLines 78 = .ok (.aload_n 0, 1) := by decide +kernel
theorem dX9_unlikeLines_79 : decode cX9_unlikeLines 79 = .ok (.getfield 7, 3) := by decide +kernel
theorem dX9_unlikeLines_82 : decode cX9_unlikeLines 82 = .ok (.iload 7, 2) := by decide +kernel
theorem dX9_unlikeLines_84 : decode cX9_unlikeLines 84 = .ok (.iaload, 1) := by decide +kernel
theorem dX9_unlikeLines_85 : decode cX9_unlikeLines 85 = .ok (.aload_n 0, 1) := by decide +kernel
theorem dX9_unlikeLines_86 : decode cX9_unlikeLines 86 = .ok (.getfield 7, 3) := by decide +kernel
theorem dX9_unlikeLines_89 : decode cX9_unlikeLines 89 = .ok (.iload 8, 2) := by decide +kernel
theorem dX9_unlikeLines_91 : decode cX9_unlikeLines 91 = .ok (.iaload, 1) := by decide +kernel
theorem dX9_unlikeLines_92 : decode cX9_unlikeLines 92 = .ok (.if_icmp .ne 58, 3) := by decide +kernel
theorem dX9_unlikeLines_95 : decode cX9_unlikeLines 95 = .ok (.aload_n 0, 1) := by decide +kernel
theorem dX9_unlikeLines_96 : decode cX9_unlikeLines 96 = .ok (.getfield 13, 3) := by decide +kernel
theorem dX9_unlikeLines_99 : decode cX9_unlikeLines 99 = .ok (.iload 7, 2) := by decide +kernel
theorem dX9_unlikeLines_101 : decode cX9_unlikeLines 101 = .ok (.iaload, 1) := by decide +kernel
theorem dX9_unlikeLines_102 : decode cX9_unlikeLines 102 = .ok (.aload_n 0, 1) := by decide +kernel
theorem dX9_unlikeLines_103 : decode cX9_unlikeLines 103 = .ok (.getfield 13, 3) := by decide +kernel
theorem dX9_unlikeLines_106 : decode cX9_unlikeLines 106 = .ok (.iload 8, 2) := by decide +kernel
theorem dX9_unlikeLines_108 : decode cX9_unlikeLines 108 = .ok (.iaload, 1) := by decide +kernel
theorem dX9_unlikeLines_109 : decode cX9_unlikeLines 109 = .ok (.if_icmp .ne 41, 3) := by decide +kernel
theorem dX9_unlikeLines_112 : decode cX9_unlikeLines 112 = .ok (.aload_n 0, 1) := by decide +kernel
theorem dX9_unlikeLines_113 : decode cX9_unlikeLines 113 = .ok (.getfield 16, 3) := by decide +kernel
theorem dX9_unlikeLines_116 : decode cX9_unlikeLines 116 = .ok (.iload 7, 2) := by decide +kernel
theorem dX9_unlikeLines_118 : decode cX9_unlikeLines 118 = .ok (.iaload, 1) := by decide +kernel
theorem dX9_unlikeLines_119 : decode cX9_unlikeLines 119 = .ok (.aload_n 0, 1) := by decide +kernel
theorem dX9_unlikeLines_120 : decode cX9_unlikeLines 120 = .ok (.getfield 16, 3) := by decide +kernel
theorem dX9_unlikeLines_123 : decode cX9_unlikeLines 123 = .ok (.iload 8, 2) := by decide +kernel
theorem dX9_unlikeLines_125 : decode cX9_unlikeLines 125 = .ok (.iaload, 1) := by decide +kernel
theorem dX9_unlikeLines_126 : decode cX9_unlikeLines 126 = .ok (.if_icmp .ne 24, 3) := by decide +kernel
theorem dX9_unlikeLines_129 : decode cX9_unlikeLines 129 = .ok (.aload_n 0, 1) := by decide +kernel
theorem dX9_unlikeLines_130 : decode cX9_unlikeLines 130 = .ok (.getfield 19, 3) := by decide +kernel
theorem dX9_unlikeLines_133 : decode cX9_unlikeLines 133 = .ok (.iload 7, 2) := by decide +kernel
theorem dX9_unlikeLines_135 : decode cX9_unlikeLines 135 = .ok (.iaload, 1) := by decide +kernel
theorem dX9_unlikeLines_136 : decode cX9_unlikeLines 136 = .ok (.aload_n 0, 1) := by decide +kernel
theorem dX9_unlikeLines_137 : decode cX9_unlikeLines 137 = .ok (.getfield 19, 3) := by decide +kernel
theorem dX9_unlikeLines_140 : decode cX9_unlikeLines 140 = .ok (.iload 8, 2) := by decide +kernel
theorem dX9_unlikeLines_142 : decode cX9_unlikeLines 142 = .ok (.iaload, 1) := by decide +kernel
theorem dX9_unlikeLines_143 : decode cX9_unlikeLines 143 = .ok (.if_icmp .ne 7, 3) := by decide +kernel
theorem dX9_unlikeLines_146 : decode cX9_unlikeLines 146 = .ok (.iconst 1, 1) := by decide +kernel
theorem dX9_unlikeLines_147 : decode cX9_unlikeLines 147 = .ok (.goto 4, 3) := by decide +kernel
theorem dX9_unlikeLines_150 : decode cX9_unlikeLines 150 = .ok (.iconst 0, 1) := by decide +kernel
theorem dX9_unlikeLines_151 : decode cX9_unlikeLines 151 = .ok (.istore 9, 2) := by decide +kernel
theorem dX9_unlikeLines_153 : decode cX9_unlikeLines 153 = .ok (.iload_n 3, 1) := by decide +kernel
theorem dX9_unlikeLines_154 : decode cX9_unlikeLines 154 = .ok (.iload 9, 2) := by decide +kernel
theorem dX9_unlikeLines_156 : decode cX9_unlikeLines 156 = .ok (.ifCond .eq 7, 3) := by decide +kernel
theorem dX9_unlikeLines_159 : decode cX9_unlikeLines 159 = .ok (.iconst 0, 1) := by decide +kernel
theorem dX9_unlikeLines_160 : decode cX9_unlikeLines 160 = .ok (.goto 7, 3) := by decide +kernel
theorem dX9_unlikeLines_163 : decode cX9_unlikeLines 163 = .ok (.iconst 1, 1) := by decide +kernel
theorem dX9_unlikeLines_164 : decode cX9_unlikeLines 164 = .ok (.iload 4, 2) := by decide +kernel
theorem dX9_unlikeLines_166 : decode cX9_unlikeLines 166 = .ok (.ishl, 1) := by decide +kernel
theorem dX9_unlikeLines_167 : decode cX9_unlikeLines 167 = .ok (.ior, 1) := by decide +kernel
theorem dX9_unlikeLines_168 : decode cX9_unlikeLines 168 = .ok (.istore_n 3, 1) := by decide +kernel
theorem dX9_unlikeLines_169 : decode cX9_unlikeLines 169 = .ok (.iinc 4 1, 3) := by decide +kernel
theorem dX9_unlikeLines_172 : decode cX9_unlikeLines 172 = .ok (.goto (-167), 3) := by decide +kernel
theorem dX9_unlikeLines_175 : decode cX9_unlikeLines 175 = .ok (.iload_n 3, 1) := by decide +kernel
theorem dX9_unlikeLines_176 : decode cX9_unlikeLines 176 = .ok (.ireturn, 1) := by decide +kernel
theorem dX9_changed_0 : decode cX9_changed 0 = .ok (.iload_n 1, 1) := by decide +kernel
theorem dX9_changed_1 : decode cX9_changed 1 = .ok (.invokestatic 111, 3) := by decide +kernel
theorem dX9_changed_4 : decode cX9_changed 4 = .ok (.ifCond .eq 10, 3) := by decide +kernel
theorem dX9_changed_7 : decode cX9_changed 7 = .ok (.iload_n 2, 1) := by decide +kernel
theorem dX9_changed_8 : decode cX9_changed 8 = .ok (.invokestatic 111, 3) := by decide +kernel
theorem dX9_changed_11 : decode cX9_changed 11 = .ok (.ifCond .ne 5, 3) := by decide +kernel
theorem dX9_changed_14 : decode cX9_changed 14 = .ok (.iconst (-1), 1) := by decide +kernel
theorem dX9_changed_15 : decode cX9_changed 15 = .ok (.ireturn, 1) := by decide +kernel
theorem dX9_changed_16 : decode cX9_changed 16 = .ok (.iload_n 3, 1) := by decide +kernel
theorem dX9_changed_17 : decode cX9_changed 17 = .ok (.i2l, 1) := by decide +kernel
theorem dX9_changed_18 : decode cX9_changed 18 = .ok (.lconst 0, 1) := by decide +kernel
theorem dX9_changed_19 : decode cX9_changed 19 = .ok (.ldc2_w 270, 3) := by decide +kernel
theorem dX9_changed_22 : decode cX9_changed 22 = .ok (.invokestatic 101, 3) := by decide +kernel
theorem dX9_changed_25 : decode cX9_changed 25 = .ok (.ifCond .ne 6, 3) := by decide +kernel
theorem dX9_changed_28 : decode cX9_changed 28 = .ok (.bipush (-2), 2) := by decide +kernel
theorem dX9_changed_30 : decode cX9_changed 30 = .ok (.ireturn, 1) := by decide +kernel
theorem dX9_changed_31 : decode cX9_changed 31 = .ok (.iload_n 3, 1) := by decide +kernel
theorem dX9_changed_32 : decode cX9_changed 32 = .ok (.iconst 2, 1) := by decide +kernel
theorem dX9_changed_33 : decode cX9_changed 33 = .ok (.if_icmp .ne 10, 3) := by decide +kernel
theorem dX9_changed_36 : decode cX9_changed 36 = .ok (.aload_n 0, 1) := by decide +kernel
theorem dX9_changed_37 : decode cX9_changed 37 = .ok (.iload_n 1, 1) := by decide +kernel
theorem dX9_changed_38 : decode cX9_changed 38 = .ok (.iload_n 2, 1) := by decide +kernel
theorem dX9_changed_39 : decode cX9_changed 39 = .ok (.invokevirtual 319, 3) := by decide +kernel
theorem dX9_changed_42 : decode cX9_changed 42 = .ok (.ireturn, 1) := by decide +kernel
theorem dX9_changed_43 : decode cX9_changed 43 = .ok (.aload_n 0, 1) := by decide +kernel
theorem dX9_changed_44 : decode cX9_changed 44 = .ok (.iload_n 1, 1) := by decide +kernel
theorem dX9_changed_45 : decode cX9_changed 45 = .ok (.iload_n 2, 1) := by decide +kernel
theorem dX9_changed_46 : decode cX9_changed 46 = .ok (.invokevirtual 233, 3) := by decide +kernel
theorem dX9_changed_49 : decode cX9_changed 49 = .ok (.aload_n 0, 1) := by decide +kernel
theorem dX9_changed_50 : decode cX9_changed 50 = .ok (.bipush (-6), 2) := by decide +kernel
theorem dX9_changed_52 : decode cX9_changed 52 = .ok (.putfield 56, 3) := by decide +kernel
theorem dX9_changed_55 : decode cX9_changed 55 = .ok (.iconst 0, 1) := by decide +kernel
theorem dX9_changed_56 : decode cX9_changed 56 = .ok (.istore 4, 2) := by decide +kernel
theorem dX9_changed_58 : decode cX9_changed 58 = .ok (.bipush (-6), 2) := by decide +kernel
theorem dX9_changed_60 : decode cX9_changed 60 = .ok (.istore 5, 2) := by decide +kernel
theorem dX9_changed_62 : decode cX9_changed 62 = .ok (.iconst 0, 1) := by decide +kernel
theorem dX9_changed_63 : decode cX9_changed 63 = .ok (.istore 6, 2) := by decide +kernel
theorem dX9_changed_65 : decode cX9_changed 65 = .ok (.iload 6, 2) := by decide +kernel
theorem dX9_changed_67 : decode cX9_changed 67 = .ok (.sipush 256, 3) := by decide +kernel
theorem dX9_changed_70 : decode cX9_changed 70 = .ok (.if_icmp .ge 127, 3) := by decide +kernel
theorem dX9_changed_73 : decode cX9_changed 73 = .ok (.sipush 256, 3) := by decide +kernel
theorem dX9_changed_76 : decode cX9_changed 76 = .ok (.iload 6, 2) := by decide +kernel
theorem dX9_changed_78 : decode cX9_changed 78 = .ok (.iadd, 1) := by decide +kernel
theorem dX9_changed_79 : decode cX9_changed 79 = .ok (.istore 7, 2) := by decide +kernel
theorem dX9_changed_81 : decode cX9_changed 81 = .ok (.aload_n 0, 1) := by decide +kernel
theorem dX9_changed_82 : decode cX9_changed 82 = .ok (.getfield 38, 3) := by decide +kernel
theorem dX9_changed_85 : decode cX9_changed 85 = .ok (.iload 6, 2) := by decide +kernel
theorem dX9_changed_87 : decode cX9_changed 87 = .ok (.iaload, 1) := by decide +kernel
theorem dX9_changed_88 : decode cX9_changed 88 = .ok (.aload_n 0, 1) := by decide +kernel
theorem dX9_changed_89 : decode cX9_changed 89 = .ok (.getfield 38, 3) := by decide +kernel
theorem dX9_changed_92 : decode cX9_changed 92 = .ok (.iload 7, 2) := by decide +kernel
theorem dX9_changed_94 : decode cX9_changed 94 = .ok (.iaload, 1) := by decide +kernel
theorem dX9_changed_95 : decode cX9_changed 95 = .ok (.if_icmp .ne 59, 3) := by decide +kernel
theorem dX9_changed_98 : decode cX9_changed 98 = .ok (.aload_n 0, 1) := by decide +kernel
theorem dX9_changed_99 : decode cX9_changed 99 = .ok (.getfield 35, 3) := by decide +kernel
theorem dX9_changed_102 : decode cX9_changed 102 = .ok (.iload 6, 2) := by decide +kernel
theorem dX9_changed_104 : decode cX9_changed 104 = .ok (.iaload, 1) := by decide +kernel
theorem dX9_changed_105 : decode cX9_changed 105 = .ok (.aload_n 0, 1) := by decide +kernel
theorem dX9_changed_106 : decode cX9_changed 106 = .ok (.getfield 35, 3) := by decide +kernel
theorem dX9_changed_109 : decode cX9_changed 109 = .ok (.iload 7, 2) := by decide +kernel
theorem dX9_changed_111 : decode cX9_changed 111 = .ok (.iaload, 1) := by decide +kernel
theorem dX9_changed_112 : decode cX9_changed 112 = .ok (.if_icmp .ne 42, 3) := by decide +kernel
theorem dX9_changed_115 : decode cX9_changed 115 = .ok (.aload_n 0, 1) := by decide +kernel
theorem dX9_changed_116 : decode cX9_changed 116 = .ok (.getfield 44, 3) := by decide +kernel
theorem dX9_changed_119 : decode cX9_changed 119 = .ok (.iload 6, 2) := by decide +kernel
theorem dX9_changed_121 : decode cX9_changed 121 = .ok (.iaload, 1) := by decide +kernel
theorem dX9_changed_122 : decode cX9_changed 122 = .ok (.aload_n 0, 1) := by decide +kernel
theorem dX9_changed_123 : decode cX9_changed 123 = .ok (.getfield 44, 3) := by decide +kernel
theorem dX9_changed_126 : decode cX9_changed 126 = .ok (.iload 7, 2) := by decide +kernel
theorem dX9_changed_128 : decode cX9_changed 128 = .ok (.iaload, 1) := by decide +kernel
theorem dX9_changed_129 : decode cX9_changed 129 = .ok (.if_icmp .ne 25, 3) := by decide +kernel
theorem dX9_changed_132 : decode cX9_changed 132 = .ok (.aload_n 0, 1) := by decide +kernel
theorem dX9_changed_133 : decode cX9_changed 133 = .ok (.iload 6, 2) := by decide +kernel
theorem dX9_changed_135 : decode cX9_changed 135 = .ok (.iload 7, 2) := by decide +kernel
theorem dX9_changed_137 : decode cX9_changed 137 = .ok (.aload_n 0, 1) := by decide +kernel
theorem dX9_changed_138 : decode cX9_changed 138 = .ok (.getfield 44, 3) := by decide +kernel
theorem dX9_changed_141 : decode cX9_changed 141 = .ok (.iload 6, 2) := by decide +kernel
theorem dX9_changed_143 : decode cX9_changed 143 = .ok (.iaload, 1) := by decide +kernel
theorem dX9_changed_144 : decode cX9_changed 144 = .ok (.invokevirtual 206, 3) := by decide +kernel
theorem dX9_changed_147 : decode cX9_changed 147 = .ok (.ifCond .eq 7, 3) := by decide +kernel
theorem dX9_changed_150 : decode cX9_changed 150 = .ok (.iconst 1, 1) := by decide +kernel
theorem dX9_changed_151 : decode cX9_changed 151 = .ok (.goto 4, 3) := by decide +kernel
theorem dX9_changed_154 : decode cX9_changed 154 = .ok (.iconst 0, 1) := by decide +kernel
theorem dX9_changed_155 : decode cX9_changed 155 = .ok (.istore 8, 2) := by decide +kernel
theorem dX9_changed_157 : decode cX9_changed 157 = .ok (.iload 8, 2) := by decide +kernel
theorem dX9_changed_159 : decode cX9_changed 159 = .ok (.ifCond .ne 13, 3) := by decide +kernel
theorem dX9_changed_162 : decode cX9_changed 162 = .ok (.iload 4, 2) := by decide +kernel
theorem dX9_changed_164 : decode cX9_changed 164 = .ok (.ifCond .ne 8, 3) := by decide +kernel
theorem dX9_changed_167 : decode cX9_changed 167 = .ok (.iload 6, 2) := by decide +kernel
theorem dX9_changed_169 : decode cX9_changed 169 = .ok (.goto 5, 3) := by decide +kernel
theorem dX9_changed_172 : decode cX9_changed 172 = .ok (.iload 5, 2) := by decide +kernel
theorem dX9_changed_174 : decode cX9_changed 174 = .ok (.istore 5, 2) := by decide +kernel
theorem dX9_changed_176 : decode cX9_changed 176 = .ok (.iload 4, 2) := by decide +kernel
theorem dX9_changed_178 : decode cX9_changed 178 = .ok (.iload 8, 2) := by decide +kernel
theorem dX9_changed_180 : decode cX9_changed 180 = .ok (.ifCond .eq 7, 3) := by decide +kernel
theorem dX9_changed_183 : decode cX9_changed 183 = .ok (.iconst 0, 1) := by decide +kernel
theorem dX9_changed_184 : decode cX9_changed 184 = .ok (.goto 4, 3) := by decide +kernel
theorem dX9_changed_187 : decode cX9_changed 187 = .ok (.iconst 1, 1) := by decide +kernel
theorem dX9_changed_188 : decode cX9_changed 188 = .ok (.iadd, 1) := by decide +kernel
theorem dX9_changed_189 : decode cX9_changed 189 = .ok (.istore 4, 2) := by decide +kernel
theorem dX9_changed_191 : decode cX9_changed 191 = .ok (.iinc 6 1, 3) := by decide +kernel
theorem dX9_changed_194 : decode cX9_changed 194 = .ok (.goto (-129), 3) := by decide +kernel
theorem dX9_changed_197 : decode cX9_changed 197 = .ok (.iload_n 3, 1) := by decide +kernel
theorem dX9_changed_198 : decode cX9_changed 198 = .ok (.ifCond .ne 8, 3) := by decide +kernel
theorem dX9_changed_201 : decode cX9_changed 201 = .ok (.iload 4, 2) := by decide +kernel
theorem dX9_changed_203 : decode cX9_changed 203 = .ok (.goto 5, 3) := by decide +kernel
theorem dX9_changed_206 : decode cX9_changed 206 = .ok (.iload 5, 2) := by decide +kernel
theorem dX9_changed_208 : decode cX9_changed 208 = .ok (.ireturn, 1) := by decide +kernel
theorem dX9_come_0 : decode cX9_come 0 = .ok (.sipush 256, 3) := by decide +kernel
theorem dX9_come_3 : decode cX9_come 3 = .ok (.bipush 13, 2) := by decide +kernel
theorem dX9_come_5 : decode cX9_come 5 = .ok (.iload_n 1, 1) := by decide +kernel
theorem dX9_come_6 : decode cX9_come 6 = .ok (.imul, 1) := by decide +kernel
theorem dX9_come_7 : decode cX9_come 7 = .ok (.iload_n 2, 1) := by decide +kernel
theorem dX9_come_8 : decode cX9_come 8 = .ok (.iadd, 1) := by decide +kernel
theorem dX9_come_9 : decode cX9_come 9 = .ok (.imul, 1) := by decide +kernel
theorem dX9_come_10 : decode cX9_come 10 = .ok (.iload_n 3, 1) := by decide +kernel
theorem dX9_come_11 : decode cX9_come 11 = .ok (.iadd, 1) := by decide +kernel
theorem dX9_come_12 : decode cX9_come 12 = .ok (.istore 4, 2) := by decide +kernel
theorem dX9_come_14 : decode cX9_come 14 = .ok (.aload_n 0, 1) := by decide +kernel
theorem dX9_come_15 : decode cX9_come 15 = .ok (.getfield 83, 3) := by decide +kernel
theorem dX9_come_18 : decode cX9_come 18 = .ok (.iload 4, 2) := by decide +kernel
theorem dX9_come_20 : decode cX9_come 20 = .ok (.baload, 1) := by decide +kernel
theorem dX9_come_21 : decode cX9_come 21 = .ok (.ifCond .ne 32, 3) := by decide +kernel
theorem dX9_come_24 : decode cX9_come 24 = .ok (.aload_n 0, 1) := by decide +kernel
theorem dX9_come_25 : decode cX9_come 25 = .ok (.getfield 83, 3) := by decide +kernel
theorem dX9_come_28 : decode cX9_come 28 = .ok (.iload 4, 2) := by decide +kernel
theorem dX9_come_30 : decode cX9_come 30 = .ok (.iconst 1, 1) := by decide +kernel
theorem dX9_come_31 : decode cX9_come 31 = .ok (.bastore, 1) := by decide +kernel
theorem dX9_come_32 : decode cX9_come 32 = .ok (.aload_n 0, 1) := by decide +kernel
theorem dX9_come_33 : decode cX9_come 33 = .ok (.getfield 86, 3) := by decide +kernel
theorem dX9_come_36 : decode cX9_come 36 = .ok (.aload_n 0, 1) := by decide +kernel
theorem dX9_come_37 : decode cX9_come 37 = .ok (.getfield 322, 3) := by decide +kernel
theorem dX9_come_40 : decode cX9_come 40 = .ok (.iload 4, 2) := by decide +kernel
theorem dX9_come_42 : decode cX9_come 42 = .ok (.iastore, 1) := by decide +kernel
theorem dX9_come_43 : decode cX9_come 43 = .ok (.aload_n 0, 1) := by decide +kernel
theorem dX9_come_44 : decode cX9_come 44 = .ok (.dup, 1) := by decide +kernel
theorem dX9_come_45 : decode cX9_come 45 = .ok (.getfield 322, 3) := by decide +kernel
theorem dX9_come_48 : decode cX9_come 48 = .ok (.iconst 1, 1) := by decide +kernel
theorem dX9_come_49 : decode cX9_come 49 = .ok (.iadd, 1) := by decide +kernel
theorem dX9_come_50 : decode cX9_come 50 = .ok (.putfield 322, 3) := by decide +kernel
theorem dX9_come_53 : decode cX9_come 53 = .ok (.return_, 1) := by decide +kernel
theorem dX9_findOrders_0 : decode cX9_findOrders 0 = .ok (.aload_n 0, 1) := by decide +kernel
theorem dX9_findOrders_1 : decode cX9_findOrders 1 = .ok (.iload_n 1, 1) := by decide +kernel
theorem dX9_findOrders_2 : decode cX9_findOrders 2 = .ok (.invokevirtual 151, 3) := by decide +kernel
theorem dX9_findOrders_5 : decode cX9_findOrders 5 = .ok (.aload_n 0, 1) := by decide +kernel
theorem dX9_findOrders_6 : decode cX9_findOrders 6 = .ok (.iload_n 2, 1) := by decide +kernel
theorem dX9_findOrders_7 : decode cX9_findOrders 7 = .ok (.invokevirtual 151, 3) := by decide +kernel
theorem dX9_findOrders_10 : decode cX9_findOrders 10 = .ok (.iconst 0, 1) := by decide +kernel
theorem dX9_findOrders_11 : decode cX9_findOrders 11 = .ok (.istore 4, 2) := by decide +kernel
theorem dX9_findOrders_13 : decode cX9_findOrders 13 = .ok (.iload 4, 2) := by decide +kernel
theorem dX9_findOrders_15 : decode cX9_findOrders 15 = .ok (.ldc 82, 2) := by decide +kernel
theorem dX9_findOrders_17 : decode cX9_findOrders 17 = .ok (.if_icmp .ge 17, 3) := by decide +kernel
theorem dX9_findOrders_20 : decode cX9_findOrders 20 = .ok (.aload_n 0, 1) := by decide +kernel
theorem dX9_findOrders_21 : decode cX9_findOrders 21 = .ok (.getfield 83, 3) := by decide +kernel
theorem dX9_findOrders_24 : decode cX9_findOrders 24 = .ok (.iload 4, 2) := by decide +kernel
theorem dX9_findOrders_26 : decode cX9_findOrders 26 = .ok (.iconst 0, 1) := by decide +kernel
theorem dX9_findOrders_27 : decode cX9_findOrders 27 = .ok (.bastore, 1) := by decide +kernel
theorem dX9_findOrders_28 : decode cX9_findOrders 28 = .ok (.iinc 4 1, 3) := by decide +kernel
theorem dX9_findOrders_31 : decode cX9_findOrders 31 = .ok (.goto (-18), 3) := by decide +kernel
theorem dX9_findOrders_34 : decode cX9_findOrders 34 = .ok (.aload_n 0, 1) := by decide +kernel
theorem dX9_findOrders_35 : decode cX9_findOrders 35 = .ok (.iconst 0, 1) := by decide +kernel
theorem dX9_findOrders_36 : decode cX9_findOrders 36 = .ok (.putfield 322, 3) := by decide +kernel
theorem dX9_findOrders_39 : decode cX9_findOrders 39 = .ok (.aload_n 0, 1) := by decide +kernel
theorem dX9_findOrders_40 : decode cX9_findOrders 40 = .ok (.aload_n 0, 1) := by decide +kernel
theorem dX9_findOrders_41 : decode cX9_findOrders 41 = .ok (.iload_n 1, 1) := by decide +kernel
theorem dX9_findOrders_42 : decode cX9_findOrders 42 = .ok (.iconst 0, 1) := by decide +kernel
theorem dX9_findOrders_43 : decode cX9_findOrders 43 = .ok (.invokevirtual 134, 3) := by decide +kernel
theorem dX9_findOrders_46 : decode cX9_findOrders 46 = .ok (.aload_n 0, 1) := by decide +kernel
theorem dX9_findOrders_47 : decode cX9_findOrders 47 = .ok (.iload_n 2, 1) := by decide +kernel
theorem dX9_findOrders_48 : decode cX9_findOrders 48 = .ok (.iconst 0, 1) := by decide +kernel
theorem dX9_findOrders_49 : decode cX9_findOrders 49 = .ok (.invokevirtual 134, 3) := by decide +kernel
theorem dX9_findOrders_52 : decode cX9_findOrders 52 = .ok (.iload_n 3, 1) := by decide +kernel
theorem dX9_findOrders_53 : decode cX9_findOrders 53 = .ok (.invokevirtual 325, 3) := by decide +kernel
theorem dX9_findOrders_56 : decode cX9_findOrders 56 = .ok (.iconst 0, 1) := by decide +kernel
theorem dX9_findOrders_57 : decode cX9_findOrders 57 = .ok (.istore 4, 2) := by decide +kernel
theorem dX9_findOrders_59 : decode cX9_findOrders 59 = .ok (.iload 4, 2) := by decide +kernel
theorem dX9_findOrders_61 : decode cX9_findOrders 61 = .ok (.aload_n 0, 1) := by decide +kernel
theorem dX9_findOrders_62 : decode cX9_findOrders 62 = .ok (.getfield 322, 3) := by decide +kernel
theorem dX9_findOrders_65 : decode cX9_findOrders 65 = .ok (.if_icmp .ge 114, 3) := by decide +kernel
theorem dX9_findOrders_68 : decode cX9_findOrders 68 = .ok (.aload_n 0, 1) := by decide +kernel
theorem dX9_findOrders_69 : decode cX9_findOrders 69 = .ok (.getfield 86, 3) := by decide +kernel
theorem dX9_findOrders_72 : decode cX9_findOrders 72 = .ok (.iload 4, 2) := by decide +kernel
theorem dX9_findOrders_74 : decode cX9_findOrders 74 = .ok (.iaload, 1) := by decide +kernel
theorem dX9_findOrders_75 : decode cX9_findOrders 75 = .ok (.sipush 256, 3) := by decide +kernel
theorem dX9_findOrders_78 : decode cX9_findOrders 78 = .ok (.idiv, 1) := by decide +kernel
theorem dX9_findOrders_79 : decode cX9_findOrders 79 = .ok (.bipush 13, 2) := by decide +kernel
theorem dX9_findOrders_81 : decode cX9_findOrders 81 = .ok (.idiv, 1) := by decide +kernel
theorem dX9_findOrders_82 : decode cX9_findOrders 82 = .ok (.istore 5, 2) := by decide +kernel
theorem dX9_findOrders_84 : decode cX9_findOrders 84 = .ok (.aload_n 0, 1) := by decide +kernel
theorem dX9_findOrders_85 : decode cX9_findOrders 85 = .ok (.getfield 86, 3) := by decide +kernel
theorem dX9_findOrders_88 : decode cX9_findOrders 88 = .ok (.iload 4, 2) := by decide +kernel
theorem dX9_findOrders_90 : decode cX9_findOrders 90 = .ok (.iaload, 1) := by decide +kernel
theorem dX9_findOrders_91 : decode cX9_findOrders 91 = .ok (.sipush 256, 3) := by decide +kernel
theorem dX9_findOrders_94 : decode cX9_findOrders 94 = .ok (.idiv, 1) := by decide +kernel
theorem dX9_findOrders_95 : decode cX9_findOrders 95 = .ok (.bipush 13, 2) := by decide +kernel
theorem dX9_findOrders_97 : decode cX9_findOrders 97 = .ok (.irem, 1) := by decide +kernel
theorem dX9_findOrders_98 : decode cX9_findOrders 98 = .ok (.istore 6, 2) := by decide +kernel
theorem dX9_findOrders_100 : decode cX9_findOrders 100 = .ok (.aload_n 0, 1) := by decide +kernel
theorem dX9_findOrders_101 : decode cX9_findOrders 101 = .ok (.getfield 86, 3) := by decide +kernel
theorem dX9_findOrders_104 : decode cX9_findOrders 104 = .ok (.iload 4, 2) := by decide +kernel
theorem dX9_findOrders_106 : decode cX9_findOrders 106 = .ok (.iaload, 1) := by decide +kernel
theorem dX9_findOrders_107 : decode cX9_findOrders 107 = .ok (.sipush 256, 3) := by decide +kernel
theorem dX9_findOrders_110 : decode cX9_findOrders 110 = .ok (.irem, 1) := by decide +kernel
theorem dX9_findOrders_111 : decode cX9_findOrders 111 = .ok (.istore 7, 2) := by decide +kernel
theorem dX9_findOrders_113 : decode cX9_findOrders 113 = .ok (.iload 5, 2) := by decide +kernel
theorem dX9_findOrders_115 : decode cX9_findOrders 115 = .ok (.bipush 12, 2) := by decide +kernel
theorem dX9_findOrders_117 : decode cX9_findOrders 117 = .ok (.if_icmp .ge 26, 3) := by decide +kernel
theorem dX9_findOrders_120 : decode cX9_findOrders 120 = .ok (.aload_n 0, 1) := by decide +kernel
theorem dX9_findOrders_121 : decode cX9_findOrders 121 = .ok (.iload_n 1, 1) := by decide +kernel
theorem dX9_findOrders_122 : decode cX9_findOrders 122 = .ok (.iload 5, 2) := by decide +kernel
theorem dX9_findOrders_124 : decode cX9_findOrders 124 = .ok (.iload 7, 2) := by decide +kernel
theorem dX9_findOrders_126 : decode cX9_findOrders 126 = .ok (.invokevirtual 154, 3) := by decide +kernel
theorem dX9_findOrders_129 : decode cX9_findOrders 129 = .ok (.aload_n 0, 1) := by decide +kernel
theorem dX9_findOrders_130 : decode cX9_findOrders 130 = .ok (.aload_n 0, 1) := by decide +kernel
theorem dX9_findOrders_131 : decode cX9_findOrders 131 = .ok (.getfield 137, 3) := by decide +kernel
theorem dX9_findOrders_134 : decode cX9_findOrders 134 = .ok (.iload 6, 2) := by decide +kernel
theorem dX9_findOrders_136 : decode cX9_findOrders 136 = .ok (.aload_n 0, 1) := by decide +kernel
theorem dX9_findOrders_137 : decode cX9_findOrders 137 = .ok (.getfield 131, 3) := by decide +kernel
theorem dX9_findOrders_140 : decode cX9_findOrders 140 = .ok (.invokevirtual 325, 3) := by decide +kernel
theorem dX9_findOrders_143 : decode cX9_findOrders 143 = .ok (.iload 6, 2) := by decide +kernel
theorem dX9_findOrders_145 : decode cX9_findOrders 145 = .ok (.bipush 12, 2) := by decide +kernel
theorem dX9_findOrders_147 : decode cX9_findOrders 147 = .ok (.if_icmp .ge 26, 3) := by decide +kernel
theorem dX9_findOrders_150 : decode cX9_findOrders 150 = .ok (.aload_n 0, 1) := by decide +kernel
theorem dX9_findOrders_151 : decode cX9_findOrders 151 = .ok (.iload_n 2, 1) := by decide +kernel
theorem dX9_findOrders_152 : decode cX9_findOrders 152 = .ok (.iload 6, 2) := by decide +kernel
theorem dX9_findOrders_154 : decode cX9_findOrders 154 = .ok (.iload 7, 2) := by decide +kernel
theorem dX9_findOrders_156 : decode cX9_findOrders 156 = .ok (.invokevirtual 154, 3) := by decide +kernel
theorem dX9_findOrders_159 : decode cX9_findOrders 159 = .ok (.aload_n 0, 1) := by decide +kernel
theorem dX9_findOrders_160 : decode cX9_findOrders 160 = .ok (.iload 5, 2) := by decide +kernel
theorem dX9_findOrders_162 : decode cX9_findOrders 162 = .ok (.aload_n 0, 1) := by decide +kernel
theorem dX9_findOrders_163 : decode cX9_findOrders 163 = .ok (.getfield 137, 3) := by decide +kernel
theorem dX9_findOrders_166 : decode cX9_findOrders 166 = .ok (.aload_n 0, 1) := by decide +kernel
theorem dX9_findOrders_167 : decode cX9_findOrders 167 = .ok (.getfield 131, 3) := by decide +kernel
theorem dX9_findOrders_170 : decode cX9_findOrders 170 = .ok (.invokevirtual 325, 3) := by decide +kernel
theorem dX9_findOrders_173 : decode cX9_findOrders 173 = .ok (.iinc 4 1, 3) := by decide +kernel
theorem dX9_findOrders_176 : decode cX9_findOrders 176 = .ok (.goto (-117), 3) := by decide +kernel
theorem dX9_findOrders_179 : decode cX9_findOrders 179 = .ok (.return_, 1) := by decide +kernel
theorem dX9_orders_0 : decode cX9_orders 0 = .ok (.iload_n 1, 1) := by decide +kernel
theorem dX9_orders_1 : decode cX9_orders 1 = .ok (.invokestatic 111, 3) := by decide +kernel
theorem dX9_orders_4 : decode cX9_orders 4 = .ok (.ifCond .eq 10, 3) := by decide +kernel
theorem dX9_orders_7 : decode cX9_orders 7 = .ok (.iload_n 2, 1) := by decide +kernel
theorem dX9_orders_8 : decode cX9_orders 8 = .ok (.invokestatic 111, 3) := by decide +kernel
theorem dX9_orders_11 : decode cX9_orders 11 = .ok (.ifCond .ne 5, 3) := by decide +kernel
theorem dX9_orders_14 : decode cX9_orders 14 = .ok (.iconst (-1), 1) := by decide +kernel
theorem dX9_orders_15 : decode cX9_orders 15 = .ok (.ireturn, 1) := by decide +kernel
theorem dX9_orders_16 : decode cX9_orders 16 = .ok (.iload_n 3, 1) := by decide +kernel
theorem dX9_orders_17 : decode cX9_orders 17 = .ok (.invokestatic 162, 3) := by decide +kernel
theorem dX9_orders_20 : decode cX9_orders 20 = .ok (.ifCond .eq 29, 3) := by decide +kernel
theorem dX9_orders_23 : decode cX9_orders 23 = .ok (.iload 4, 2) := by decide +kernel
theorem dX9_orders_25 : decode cX9_orders 25 = .ok (.i2l, 1) := by decide +kernel
theorem dX9_orders_26 : decode cX9_orders 26 = .ok (.lconst 0, 1) := by decide +kernel
theorem dX9_orders_27 : decode cX9_orders 27 = .ok (.lconst 1, 1) := by decide +kernel
theorem dX9_orders_28 : decode cX9_orders 28 = .ok (.invokestatic 101, 3) := by decide +kernel
theorem dX9_orders_31 : decode cX9_orders 31 = .ok (.ifCond .ne 21, 3) := by decide +kernel
theorem dX9_orders_34 : decode cX9_orders 34 = .ok (.iload 4, 2) := by decide +kernel
theorem dX9_orders_36 : decode cX9_orders 36 = .ok (.i2l, 1) := by decide +kernel
theorem dX9_orders_37 : decode cX9_orders 37 = .ok (.ldc2_w 165, 3) := by decide +kernel
theorem dX9_orders_40 : decode cX9_orders 40 = .ok (.ldc2_w 328, 3) := by decide +kernel
theorem dX9_orders_43 : decode cX9_orders 43 = .ok (.invokestatic 101, 3) := by decide +kernel
theorem dX9_orders_46 : decode cX9_orders 46 = .ok (.ifCond .ne 6, 3) := by decide +kernel
theorem dX9_orders_49 : decode cX9_orders 49 = .ok (.bipush (-2), 2) := by decide +kernel
theorem dX9_orders_51 : decode cX9_orders 51 = .ok (.ireturn, 1) := by decide +kernel
theorem dX9_orders_52 : decode cX9_orders 52 = .ok (.aload_n 0, 1) := by decide +kernel
theorem dX9_orders_53 : decode cX9_orders 53 = .ok (.iload_n 1, 1) := by decide +kernel
theorem dX9_orders_54 : decode cX9_orders 54 = .ok (.iload_n 2, 1) := by decide +kernel
theorem dX9_orders_55 : decode cX9_orders 55 = .ok (.iload_n 3, 1) := by decide +kernel
theorem dX9_orders_56 : decode cX9_orders 56 = .ok (.invokevirtual 330, 3) := by decide +kernel
theorem dX9_orders_59 : decode cX9_orders 59 = .ok (.ldc_w 333, 3) := by decide +kernel
theorem dX9_orders_62 : decode cX9_orders 62 = .ok (.istore 5, 2) := by decide +kernel
theorem dX9_orders_64 : decode cX9_orders 64 = .ok (.iload 4, 2) := by decide +kernel
theorem dX9_orders_66 : decode cX9_orders 66 = .ok (.bipush 9, 2) := by decide +kernel
theorem dX9_orders_68 : decode cX9_orders 68 = .ok (.if_icmp .le 25, 3) := by decide +kernel
theorem dX9_orders_71 : decode cX9_orders 71 = .ok (.aload_n 0, 1) := by decide +kernel
theorem dX9_orders_72 : decode cX9_orders 72 = .ok (.getfield 83, 3) := by decide +kernel
theorem dX9_orders_75 : decode cX9_orders 75 = .ok (.iload 5, 2) := by decide +kernel
theorem dX9_orders_77 : decode cX9_orders 77 = .ok (.iload 4, 2) := by decide +kernel
theorem dX9_orders_79 : decode cX9_orders 79 = .ok (.iadd, 1) := by decide +kernel
theorem dX9_orders_80 : decode cX9_orders 80 = .ok (.bipush 10, 2) := by decide +kernel
theorem dX9_orders_82 : decode cX9_orders 82 = .ok (.isub, 1) := by decide +kernel
theorem dX9_orders_83 : decode cX9_orders 83 = .ok (.baload, 1) := by decide +kernel
theorem dX9_orders_84 : decode cX9_orders 84 = .ok (.ifCond .eq 7, 3) := by decide +kernel
theorem dX9_orders_87 : decode cX9_orders 87 = .ok (.iconst 1, 1) := by decide +kernel
theorem dX9_orders_88 : decode cX9_orders 88 = .ok (.goto 4, 3) := by decide +kernel
theorem dX9_orders_91 : decode cX9_orders 91 = .ok (.iconst 0, 1) := by decide +kernel
theorem dX9_orders_92 : decode cX9_orders 92 = .ok (.ireturn, 1) := by decide +kernel
theorem dX9_orders_93 : decode cX9_orders 93 = .ok (.iconst 0, 1) := by decide +kernel
theorem dX9_orders_94 : decode cX9_orders 94 = .ok (.istore 6, 2) := by decide +kernel
theorem dX9_orders_96 : decode cX9_orders 96 = .ok (.bipush (-6), 2) := by decide +kernel
theorem dX9_orders_98 : decode cX9_orders 98 = .ok (.istore 7, 2) := by decide +kernel
theorem dX9_orders_100 : decode cX9_orders 100 = .ok (.sipush 255, 3) := by decide +kernel
theorem dX9_orders_103 : decode cX9_orders 103 = .ok (.istore 8, 2) := by decide +kernel
theorem dX9_orders_105 : decode cX9_orders 105 = .ok (.iload 8, 2) := by decide +kernel
theorem dX9_orders_107 : decode cX9_orders 107 = .ok (.ifCond .lt 54, 3) := by decide +kernel
theorem dX9_orders_110 : decode cX9_orders 110 = .ok (.aload_n 0, 1) := by decide +kernel
theorem dX9_orders_111 : decode cX9_orders 111 = .ok (.getfield 83, 3) := by decide +kernel
theorem dX9_orders_114 : decode cX9_orders 114 = .ok (.iload 5, 2) := by decide +kernel
theorem dX9_orders_116 : decode cX9_orders 116 = .ok (.iload 8, 2) := by decide +kernel
theorem dX9_orders_118 : decode cX9_orders 118 = .ok (.iadd, 1) := by decide +kernel
theorem dX9_orders_119 : decode cX9_orders 119 = .ok (.baload, 1) := by decide +kernel
theorem dX9_orders_120 : decode cX9_orders 120 = .ok (.ifCond .eq 8, 3) := by decide +kernel
theorem dX9_orders_123 : decode cX9_orders 123 = .ok (.iload 8, 2) := by decide +kernel
theorem dX9_orders_125 : decode cX9_orders 125 = .ok (.goto 5, 3) := by decide +kernel
theorem dX9_orders_128 : decode cX9_orders 128 = .ok (.iload 7, 2) := by decide +kernel
theorem dX9_orders_130 : decode cX9_orders 130 = .ok (.istore 7, 2) := by decide +kernel
theorem dX9_orders_132 : decode cX9_orders 132 = .ok (.iload 6, 2) := by decide +kernel
theorem dX9_orders_134 : decode cX9_orders 134 = .ok (.aload_n 0, 1) := by decide +kernel
theorem dX9_orders_135 : decode cX9_orders 135 = .ok (.getfield 83, 3) := by decide +kernel
theorem dX9_orders_138 : decode cX9_orders 138 = .ok (.iload 5, 2) := by decide +kernel
theorem dX9_orders_140 : decode cX9_orders 140 = .ok (.iload 8, 2) := by decide +kernel
theorem dX9_orders_142 : decode cX9_orders 142 = .ok (.iadd, 1) := by decide +kernel
theorem dX9_orders_143 : decode cX9_orders 143 = .ok (.baload, 1) := by decide +kernel
theorem dX9_orders_144 : decode cX9_orders 144 = .ok (.ifCond .eq 7, 3) := by decide +kernel
theorem dX9_orders_147 : decode cX9_orders 147 = .ok (.iconst 1, 1) := by decide +kernel
theorem dX9_orders_148 : decode cX9_orders 148 = .ok (.goto 4, 3) := by decide +kernel
theorem dX9_orders_151 : decode cX9_orders 151 = .ok (.iconst 0, 1) := by decide +kernel
theorem dX9_orders_152 : decode cX9_orders 152 = .ok (.iadd, 1) := by decide +kernel
theorem dX9_orders_153 : decode cX9_orders 153 = .ok (.istore 6, 2) := by decide +kernel
theorem dX9_orders_155 : decode cX9_orders 155 = .ok (.iinc 8 (-1), 3) := by decide +kernel
theorem dX9_orders_158 : decode cX9_orders 158 = .ok (.goto (-53), 3) := by decide +kernel
theorem dX9_orders_161 : decode cX9_orders 161 = .ok (.iload 4, 2) := by decide +kernel
theorem dX9_orders_163 : decode cX9_orders 163 = .ok (.ifCond .ne 8, 3) := by decide +kernel
theorem dX9_orders_166 : decode cX9_orders 166 = .ok (.iload 6, 2) := by decide +kernel
theorem dX9_orders_168 : decode cX9_orders 168 = .ok (.goto 5, 3) := by decide +kernel
theorem dX9_orders_171 : decode cX9_orders 171 = .ok (.iload 7, 2) := by decide +kernel
theorem dX9_orders_173 : decode cX9_orders 173 = .ok (.ireturn, 1) := by decide +kernel
theorem dX9_told_0 : decode cX9_told 0 = .ok (.iload_n 1, 1) := by decide +kernel
theorem dX9_told_1 : decode cX9_told 1 = .ok (.i2l, 1) := by decide +kernel
theorem dX9_told_2 : decode cX9_told 2 = .ok (.ldc2_w 165, 3) := by decide +kernel
theorem dX9_told_5 : decode cX9_told 5 = .ok (.ldc2_w 334, 3) := by decide +kernel
theorem dX9_told_8 : decode cX9_told 8 = .ok (.invokestatic 101, 3) := by decide +kernel
theorem dX9_told_11 : decode cX9_told 11 = .ok (.ifCond .eq 13, 3) := by decide +kernel
theorem dX9_told_14 : decode cX9_told 14 = .ok (.aload_n 0, 1) := by decide +kernel
theorem dX9_told_15 : decode cX9_told 15 = .ok (.getfield 22, 3) := by decide +kernel
theorem dX9_told_18 : decode cX9_told 18 = .ok (.iload_n 1, 1) := by decide +kernel
theorem dX9_told_19 : decode cX9_told 19 = .ok (.bipush 10, 2) := by decide +kernel
theorem dX9_told_21 : decode cX9_told 21 = .ok (.isub, 1) := by decide +kernel
theorem dX9_told_22 : decode cX9_told 22 = .ok (.iaload, 1) := by decide +kernel
theorem dX9_told_23 : decode cX9_told 23 = .ok (.ireturn, 1) := by decide +kernel
theorem dX9_told_24 : decode cX9_told 24 = .ok (.iload_n 1, 1) := by decide +kernel
theorem dX9_told_25 : decode cX9_told 25 = .ok (.i2l, 1) := by decide +kernel
theorem dX9_told_26 : decode cX9_told 26 = .ok (.ldc2_w 336, 3) := by decide +kernel
theorem dX9_told_29 : decode cX9_told 29 = .ok (.ldc2_w 338, 3) := by decide +kernel
theorem dX9_told_32 : decode cX9_told 32 = .ok (.invokestatic 101, 3) := by decide +kernel
theorem dX9_told_35 : decode cX9_told 35 = .ok (.ifCond .eq 13, 3) := by decide +kernel
theorem dX9_told_38 : decode cX9_told 38 = .ok (.aload_n 0, 1) := by decide +kernel
theorem dX9_told_39 : decode cX9_told 39 = .ok (.getfield 25, 3) := by decide +kernel
theorem dX9_told_42 : decode cX9_told 42 = .ok (.iload_n 1, 1) := by decide +kernel
theorem dX9_told_43 : decode cX9_told 43 = .ok (.bipush 20, 2) := by decide +kernel
theorem dX9_told_45 : decode cX9_told 45 = .ok (.isub, 1) := by decide +kernel
theorem dX9_told_46 : decode cX9_told 46 = .ok (.iaload, 1) := by decide +kernel
theorem dX9_told_47 : decode cX9_told 47 = .ok (.ireturn, 1) := by decide +kernel
theorem dX9_told_48 : decode cX9_told 48 = .ok (.iload_n 1, 1) := by decide +kernel
theorem dX9_told_49 : decode cX9_told 49 = .ok (.ifCond .ne 10, 3) := by decide +kernel
theorem dX9_told_52 : decode cX9_told 52 = .ok (.aload_n 0, 1) := by decide +kernel
theorem dX9_told_53 : decode cX9_told 53 = .ok (.getfield 188, 3) := by decide +kernel
theorem dX9_told_56 : decode cX9_told 56 = .ok (.goto 20, 3) := by decide +kernel
theorem dX9_told_59 : decode cX9_told 59 = .ok (.iload_n 1, 1) := by decide +kernel
theorem dX9_told_60 : decode cX9_told 60 = .ok (.iconst 1, 1) := by decide +kernel
theorem dX9_told_61 : decode cX9_told 61 = .ok (.if_icmp .ne 13, 3) := by decide +kernel
theorem dX9_told_64 : decode cX9_told 64 = .ok (.aload_n 0, 1) := by decide +kernel
theorem dX9_told_65 : decode cX9_told 65 = .ok (.getfield 53, 3) := by decide +kernel
theorem dX9_told_68 : decode cX9_told 68 = .ok (.bipush 6, 2) := by decide +kernel
theorem dX9_told_70 : decode cX9_told 70 = .ok (.iaload, 1) := by decide +kernel
theorem dX9_told_71 : decode cX9_told 71 = .ok (.goto 5, 3) := by decide +kernel
theorem dX9_told_74 : decode cX9_told 74 = .ok (.bipush (-2), 2) := by decide +kernel
theorem dX9_told_76 : decode cX9_told 76 = .ok (.ireturn, 1) := by decide +kernel
theorem dJ6_bitCount_0f7a4_0 : decode cJ6_bitCount_0f7a4 0 = .ok (.iload_n 0, 1) := by decide +kernel
theorem dJ6_bitCount_0f7a4_1 : decode cJ6_bitCount_0f7a4 1 = .ok (.iload_n 0, 1) := by decide +kernel
theorem dJ6_bitCount_0f7a4_2 : decode cJ6_bitCount_0f7a4 2 = .ok (.iconst 1, 1) := by decide +kernel
theorem dJ6_bitCount_0f7a4_3 : decode cJ6_bitCount_0f7a4 3 = .ok (.iushr, 1) := by decide +kernel
theorem dJ6_bitCount_0f7a4_4 : decode cJ6_bitCount_0f7a4 4 = .ok (.ldc_w 265, 3) := by decide +kernel
theorem dJ6_bitCount_0f7a4_7 : decode cJ6_bitCount_0f7a4 7 = .ok (.iand, 1) := by decide +kernel
theorem dJ6_bitCount_0f7a4_8 : decode cJ6_bitCount_0f7a4 8 = .ok (.isub, 1) := by decide +kernel
theorem dJ6_bitCount_0f7a4_9 : decode cJ6_bitCount_0f7a4 9 = .ok (.istore_n 0, 1) := by decide +kernel
theorem dJ6_bitCount_0f7a4_10 : decode cJ6_bitCount_0f7a4 10 = .ok (.iload_n 0, 1) := by decide +kernel
theorem dJ6_bitCount_0f7a4_11 : decode cJ6_bitCount_0f7a4 11 = .ok (.ldc_w 266, 3) := by decide +kernel
theorem dJ6_bitCount_0f7a4_14 : decode cJ6_bitCount_0f7a4 14 = .ok (.iand, 1) := by decide +kernel
theorem dJ6_bitCount_0f7a4_15 : decode cJ6_bitCount_0f7a4 15 = .ok (.iload_n 0, 1) := by decide +kernel
theorem dJ6_bitCount_0f7a4_16 : decode cJ6_bitCount_0f7a4 16 = .ok (.iconst 2, 1) := by decide +kernel
theorem dJ6_bitCount_0f7a4_17 : decode cJ6_bitCount_0f7a4 17 = .ok (.iushr, 1) := by decide +kernel
theorem dJ6_bitCount_0f7a4_18 : decode cJ6_bitCount_0f7a4 18 = .ok (.ldc_w 266, 3) := by decide +kernel
theorem dJ6_bitCount_0f7a4_21 : decode cJ6_bitCount_0f7a4 21 = .ok (.iand, 1) := by decide +kernel
theorem dJ6_bitCount_0f7a4_22 : decode cJ6_bitCount_0f7a4 22 = .ok (.iadd, 1) := by decide +kernel
theorem dJ6_bitCount_0f7a4_23 : decode cJ6_bitCount_0f7a4 23 = .ok (.istore_n 0, 1) := by decide +kernel
theorem dJ6_bitCount_0f7a4_24 : decode cJ6_bitCount_0f7a4 24 = .ok (.iload_n 0, 1) := by decide +kernel
theorem dJ6_bitCount_0f7a4_25 : decode cJ6_bitCount_0f7a4 25 = .ok (.iload_n 0, 1) := by decide +kernel
theorem dJ6_bitCount_0f7a4_26 : decode cJ6_bitCount_0f7a4 26 = .ok (.iconst 4, 1) := by decide +kernel
theorem dJ6_bitCount_0f7a4_27 : decode cJ6_bitCount_0f7a4 27 = .ok (.iushr, 1) := by decide +kernel
theorem dJ6_bitCount_0f7a4_28 : decode cJ6_bitCount_0f7a4 28 = .ok (.iadd, 1) := by decide +kernel
theorem dJ6_bitCount_0f7a4_29 : decode cJ6_bitCount_0f7a4 29 = .ok (.ldc_w 267, 3) := by decide +kernel
theorem dJ6_bitCount_0f7a4_32 : decode cJ6_bitCount_0f7a4 32 = .ok (.iand, 1) := by decide +kernel
theorem dJ6_bitCount_0f7a4_33 : decode cJ6_bitCount_0f7a4 33 = .ok (.istore_n 0, 1) := by decide +kernel
theorem dJ6_bitCount_0f7a4_34 : decode cJ6_bitCount_0f7a4 34 = .ok (.iload_n 0, 1) := by decide +kernel
theorem dJ6_bitCount_0f7a4_35 : decode cJ6_bitCount_0f7a4 35 = .ok (.iload_n 0, 1) := by decide +kernel
theorem dJ6_bitCount_0f7a4_36 : decode cJ6_bitCount_0f7a4 36 = .ok (.bipush 8, 2) := by decide +kernel
theorem dJ6_bitCount_0f7a4_38 : decode cJ6_bitCount_0f7a4 38 = .ok (.iushr, 1) := by decide +kernel
theorem dJ6_bitCount_0f7a4_39 : decode cJ6_bitCount_0f7a4 39 = .ok (.iadd, 1) := by decide +kernel
theorem dJ6_bitCount_0f7a4_40 : decode cJ6_bitCount_0f7a4 40 = .ok (.istore_n 0, 1) := by decide +kernel
theorem dJ6_bitCount_0f7a4_41 : decode cJ6_bitCount_0f7a4 41 = .ok (.iload_n 0, 1) := by decide +kernel
theorem dJ6_bitCount_0f7a4_42 : decode cJ6_bitCount_0f7a4 42 = .ok (.iload_n 0, 1) := by decide +kernel
theorem dJ6_bitCount_0f7a4_43 : decode cJ6_bitCount_0f7a4 43 = .ok (.bipush 16, 2) := by decide +kernel
theorem dJ6_bitCount_0f7a4_45 : decode cJ6_bitCount_0f7a4 45 = .ok (.iushr, 1) := by decide +kernel
theorem dJ6_bitCount_0f7a4_46 : decode cJ6_bitCount_0f7a4 46 = .ok (.iadd, 1) := by decide +kernel
theorem dJ6_bitCount_0f7a4_47 : decode cJ6_bitCount_0f7a4 47 = .ok (.istore_n 0, 1) := by decide +kernel
theorem dJ6_bitCount_0f7a4_48 : decode cJ6_bitCount_0f7a4 48 = .ok (.iload_n 0, 1) := by decide +kernel
theorem dJ6_bitCount_0f7a4_49 : decode cJ6_bitCount_0f7a4 49 = .ok (.bipush 63, 2) := by decide +kernel
theorem dJ6_bitCount_0f7a4_51 : decode cJ6_bitCount_0f7a4 51 = .ok (.iand, 1) := by decide +kernel
theorem dJ6_bitCount_0f7a4_52 : decode cJ6_bitCount_0f7a4 52 = .ok (.ireturn, 1) := by decide +kernel
theorem dJ7_fill_d0a16_0 : decode cJ7_fill_d0a16 0 = .ok (.iconst 0, 1) := by decide +kernel
theorem dJ7_fill_d0a16_1 : decode cJ7_fill_d0a16 1 = .ok (.istore_n 3, 1) := by decide +kernel
theorem dJ7_fill_d0a16_2 : decode cJ7_fill_d0a16 2 = .ok (.aload_n 0, 1) := by decide +kernel
theorem dJ7_fill_d0a16_3 : decode cJ7_fill_d0a16 3 = .ok (.arraylength, 1) := by decide +kernel
theorem dJ7_fill_d0a16_4 : decode cJ7_fill_d0a16 4 = .ok (.istore 4, 2) := by decide +kernel
theorem dJ7_fill_d0a16_6 : decode cJ7_fill_d0a16 6 = .ok (.iload_n 3, 1) := by decide +kernel
theorem dJ7_fill_d0a16_7 : decode cJ7_fill_d0a16 7 = .ok (.iload 4, 2) := by decide +kernel
theorem dJ7_fill_d0a16_9 : decode cJ7_fill_d0a16 9 = .ok (.if_icmp .ge 13, 3) := by decide +kernel
theorem dJ7_fill_d0a16_12 : decode cJ7_fill_d0a16 12 = .ok (.aload_n 0, 1) := by decide +kernel
theorem dJ7_fill_d0a16_13 : decode cJ7_fill_d0a16 13 = .ok (.iload_n 3, 1) := by decide +kernel
theorem dJ7_fill_d0a16_14 : decode cJ7_fill_d0a16 14 = .ok (.lload_n 1, 1) := by decide +kernel
theorem dJ7_fill_d0a16_15 : decode cJ7_fill_d0a16 15 = .ok (.lastore, 1) := by decide +kernel
theorem dJ7_fill_d0a16_16 : decode cJ7_fill_d0a16 16 = .ok (.iinc 3 1, 3) := by decide +kernel
theorem dJ7_fill_d0a16_19 : decode cJ7_fill_d0a16 19 = .ok (.goto (-13), 3) := by decide +kernel
theorem dJ7_fill_d0a16_22 : decode cJ7_fill_d0a16 22 = .ok (.return_, 1) := by decide +kernel
theorem dJ7_fill_53178_0 : decode cJ7_fill_53178 0 = .ok (.iconst 0, 1) := by decide +kernel
theorem dJ7_fill_53178_1 : decode cJ7_fill_53178 1 = .ok (.istore_n 2, 1) := by decide +kernel
theorem dJ7_fill_53178_2 : decode cJ7_fill_53178 2 = .ok (.aload_n 0, 1) := by decide +kernel
theorem dJ7_fill_53178_3 : decode cJ7_fill_53178 3 = .ok (.arraylength, 1) := by decide +kernel
theorem dJ7_fill_53178_4 : decode cJ7_fill_53178 4 = .ok (.istore_n 3, 1) := by decide +kernel
theorem dJ7_fill_53178_5 : decode cJ7_fill_53178 5 = .ok (.iload_n 2, 1) := by decide +kernel
theorem dJ7_fill_53178_6 : decode cJ7_fill_53178 6 = .ok (.iload_n 3, 1) := by decide +kernel
theorem dJ7_fill_53178_7 : decode cJ7_fill_53178 7 = .ok (.if_icmp .ge 13, 3) := by decide +kernel
theorem dJ7_fill_53178_10 : decode cJ7_fill_53178 10 = .ok (.aload_n 0, 1) := by decide +kernel
theorem dJ7_fill_53178_11 : decode cJ7_fill_53178 11 = .ok (.iload_n 2, 1) := by decide +kernel
theorem dJ7_fill_53178_12 : decode cJ7_fill_53178 12 = .ok (.iload_n 1, 1) := by decide +kernel
theorem dJ7_fill_53178_13 : decode cJ7_fill_53178 13 = .ok (.iastore, 1) := by decide +kernel
theorem dJ7_fill_53178_14 : decode cJ7_fill_53178 14 = .ok (.iinc 2 1, 3) := by decide +kernel
theorem dJ7_fill_53178_17 : decode cJ7_fill_53178 17 = .ok (.goto (-12), 3) := by decide +kernel
theorem dJ7_fill_53178_20 : decode cJ7_fill_53178 20 = .ok (.return_, 1) := by decide +kernel
theorem dJ9_abs_0f7a4_0 : decode cJ9_abs_0f7a4 0 = .ok (.iload_n 0, 1) := by decide +kernel
theorem dJ9_abs_0f7a4_1 : decode cJ9_abs_0f7a4 1 = .ok (.ifCond .ge 8, 3) := by decide +kernel
theorem dJ9_abs_0f7a4_4 : decode cJ9_abs_0f7a4 4 = .ok (.iload_n 0, 1) := by decide +kernel
theorem dJ9_abs_0f7a4_5 : decode cJ9_abs_0f7a4 5 = .ok (.ineg, 1) := by decide +kernel
theorem dJ9_abs_0f7a4_6 : decode cJ9_abs_0f7a4 6 = .ok (.goto 4, 3) := by decide +kernel
theorem dJ9_abs_0f7a4_9 : decode cJ9_abs_0f7a4 9 = .ok (.iload_n 0, 1) := by decide +kernel
theorem dJ9_abs_0f7a4_10 : decode cJ9_abs_0f7a4 10 = .ok (.ireturn, 1) := by decide +kernel
theorem dJ9_max_7cf53_0 : decode cJ9_max_7cf53 0 = .ok (.iload_n 0, 1) := by decide +kernel
theorem dJ9_max_7cf53_1 : decode cJ9_max_7cf53 1 = .ok (.iload_n 1, 1) := by decide +kernel
theorem dJ9_max_7cf53_2 : decode cJ9_max_7cf53 2 = .ok (.if_icmp .lt 7, 3) := by decide +kernel
theorem dJ9_max_7cf53_5 : decode cJ9_max_7cf53 5 = .ok (.iload_n 0, 1) := by decide +kernel
theorem dJ9_max_7cf53_6 : decode cJ9_max_7cf53 6 = .ok (.goto 4, 3) := by decide +kernel
theorem dJ9_max_7cf53_9 : decode cJ9_max_7cf53 9 = .ok (.iload_n 1, 1) := by decide +kernel
theorem dJ9_max_7cf53_10 : decode cJ9_max_7cf53 10 = .ok (.ireturn, 1) := by decide +kernel
theorem dJ9_min_7cf53_0 : decode cJ9_min_7cf53 0 = .ok (.iload_n 0, 1) := by decide +kernel
theorem dJ9_min_7cf53_1 : decode cJ9_min_7cf53 1 = .ok (.iload_n 1, 1) := by decide +kernel
theorem dJ9_min_7cf53_2 : decode cJ9_min_7cf53 2 = .ok (.if_icmp .gt 7, 3) := by decide +kernel
theorem dJ9_min_7cf53_5 : decode cJ9_min_7cf53 5 = .ok (.iload_n 0, 1) := by decide +kernel
theorem dJ9_min_7cf53_6 : decode cJ9_min_7cf53 6 = .ok (.goto 4, 3) := by decide +kernel
theorem dJ9_min_7cf53_9 : decode cJ9_min_7cf53 9 = .ok (.iload_n 1, 1) := by decide +kernel
theorem dJ9_min_7cf53_10 : decode cJ9_min_7cf53 10 = .ok (.ireturn, 1) := by decide +kernel
theorem dL_law_0 : decode cL_law 0 = .ok (.new 7, 3) := by decide +kernel
theorem dL_law_3 : decode cL_law 3 = .ok (.dup, 1) := by decide +kernel
theorem dL_law_4 : decode cL_law 4 = .ok (.invokespecial 9, 3) := by decide +kernel
theorem dL_law_7 : decode cL_law 7 = .ok (.astore_n 1, 1) := by decide +kernel
theorem dL_law_8 : decode cL_law 8 = .ok (.new 10, 3) := by decide +kernel
theorem dL_law_11 : decode cL_law 11 = .ok (.dup, 1) := by decide +kernel
theorem dL_law_12 : decode cL_law 12 = .ok (.invokespecial 12, 3) := by decide +kernel
theorem dL_law_15 : decode cL_law 15 = .ok (.astore_n 2, 1) := by decide +kernel
theorem dL_law_16 : decode cL_law 16 = .ok (.iconst 0, 1) := by decide +kernel
theorem dL_law_17 : decode cL_law 17 = .ok (.istore_n 3, 1) := by decide +kernel
theorem dL_law_18 : decode cL_law 18 = .ok (.iload_n 3, 1) := by decide +kernel
theorem dL_law_19 : decode cL_law 19 = .ok (.aload_n 0, 1) := by decide +kernel
theorem dL_law_20 : decode cL_law 20 = .ok (.arraylength, 1) := by decide +kernel
theorem dL_law_21 : decode cL_law 21 = .ok (.bipush 7, 2) := by decide +kernel
theorem dL_law_23 : decode cL_law 23 = .ok (.isub, 1) := by decide +kernel
theorem dL_law_24 : decode cL_law 24 = .ok (.if_icmp .gt 1125, 3) := by decide +kernel
theorem dL_law_27 : decode cL_law 27 = .ok (.aload_n 0, 1) := by decide +kernel
theorem dL_law_28 : decode cL_law 28 = .ok (.iload_n 3, 1) := by decide +kernel
theorem dL_law_29 : decode cL_law 29 = .ok (.iaload, 1) := by decide +kernel
theorem dL_law_30 : decode cL_law 30 = .ok (.bipush 31, 2) := by decide +kernel
theorem dL_law_32 : decode cL_law 32 = .ok (.iand, 1) := by decide +kernel
theorem dL_law_33 : decode cL_law 33 = .ok (.tableswitch 1110 0 22 #[107, 170, 245, 268, 301, 344, 367, 380, 393, 406, 481, 534, 587, 630, 683, 746, 789, 832, 875, 938, 991, 1034, 1087], 107) := by decide +kernel
theorem dL_law_140 : decode cL_law 140 = .ok (.aload_n 1, 1) := by decide +kernel
theorem dL_law_141 : decode cL_law 141 = .ok (.aload_n 0, 1) := by decide +kernel
theorem dL_law_142 : decode cL_law 142 = .ok (.iload_n 3, 1) := by decide +kernel
theorem dL_law_143 : decode cL_law 143 = .ok (.iconst 1, 1) := by decide +kernel
theorem dL_law_144 : decode cL_law 144 = .ok (.iadd, 1) := by decide +kernel
theorem dL_law_145 : decode cL_law 145 = .ok (.iaload, 1) := by decide +kernel
theorem dL_law_146 : decode cL_law 146 = .ok (.aload_n 0, 1) := by decide +kernel
theorem dL_law_147 : decode cL_law 147 = .ok (.iload_n 3, 1) := by decide +kernel
theorem dL_law_148 : decode cL_law 148 = .ok (.iconst 2, 1) := by decide +kernel
theorem dL_law_149 : decode cL_law 149 = .ok (.iadd, 1) := by decide +kernel
theorem dL_law_150 : decode cL_law 150 = .ok (.iaload, 1) := by decide +kernel
theorem dL_law_151 : decode cL_law 151 = .ok (.aload_n 0, 1) := by decide +kernel
theorem dL_law_152 : decode cL_law 152 = .ok (.iload_n 3, 1) := by decide +kernel
theorem dL_law_153 : decode cL_law 153 = .ok (.iconst 3, 1) := by decide +kernel
theorem dL_law_154 : decode cL_law 154 = .ok (.iadd, 1) := by decide +kernel
theorem dL_law_155 : decode cL_law 155 = .ok (.iaload, 1) := by decide +kernel
theorem dL_law_156 : decode cL_law 156 = .ok (.aload_n 0, 1) := by decide +kernel
theorem dL_law_157 : decode cL_law 157 = .ok (.iload_n 3, 1) := by decide +kernel
theorem dL_law_158 : decode cL_law 158 = .ok (.iconst 4, 1) := by decide +kernel
theorem dL_law_159 : decode cL_law 159 = .ok (.iadd, 1) := by decide +kernel
theorem dL_law_160 : decode cL_law 160 = .ok (.iaload, 1) := by decide +kernel
theorem dL_law_161 : decode cL_law 161 = .ok (.aload_n 0, 1) := by decide +kernel
theorem dL_law_162 : decode cL_law 162 = .ok (.iload_n 3, 1) := by decide +kernel
theorem dL_law_163 : decode cL_law 163 = .ok (.iconst 5, 1) := by decide +kernel
theorem dL_law_164 : decode cL_law 164 = .ok (.iadd, 1) := by decide +kernel
theorem dL_law_165 : decode cL_law 165 = .ok (.iaload, 1) := by decide +kernel
theorem dL_law_166 : decode cL_law 166 = .ok (.invokevirtual 13, 3) := by decide +kernel
theorem dL_law_169 : decode cL_law 169 = .ok (.aload_n 2, 1) := by decide +kernel
theorem dL_law_170 : decode cL_law 170 = .ok (.aload_n 0, 1) := by decide +kernel
theorem dL_law_171 : decode cL_law 171 = .ok (.iload_n 3, 1) := by decide +kernel
theorem dL_law_172 : decode cL_law 172 = .ok (.iconst 1, 1) := by decide +kernel
theorem dL_law_173 : decode cL_law 173 = .ok (.iadd, 1) := by decide +kernel
theorem dL_law_174 : decode cL_law 174 = .ok (.iaload, 1) := by decide +kernel
theorem dL_law_175 : decode cL_law 175 = .ok (.aload_n 0, 1) := by decide +kernel
theorem dL_law_176 : decode cL_law 176 = .ok (.iload_n 3, 1) := by decide +kernel
theorem dL_law_177 : decode cL_law 177 = .ok (.iconst 2, 1) := by decide +kernel
theorem dL_law_178 : decode cL_law 178 = .ok (.iadd, 1) := by decide +kernel
theorem dL_law_179 : decode cL_law 179 = .ok (.iaload, 1) := by decide +kernel
theorem dL_law_180 : decode cL_law 180 = .ok (.aload_n 0, 1) := by decide +kernel
theorem dL_law_181 : decode cL_law 181 = .ok (.iload_n 3, 1) := by decide +kernel
theorem dL_law_182 : decode cL_law 182 = .ok (.iconst 3, 1) := by decide +kernel
theorem dL_law_183 : decode cL_law 183 = .ok (.iadd, 1) := by decide +kernel
theorem dL_law_184 : decode cL_law 184 = .ok (.iaload, 1) := by decide +kernel
theorem dL_law_185 : decode cL_law 185 = .ok (.aload_n 0, 1) := by decide +kernel
theorem dL_law_186 : decode cL_law 186 = .ok (.iload_n 3, 1) := by decide +kernel
theorem dL_law_187 : decode cL_law 187 = .ok (.iconst 4, 1) := by decide +kernel
theorem dL_law_188 : decode cL_law 188 = .ok (.iadd, 1) := by decide +kernel
theorem dL_law_189 : decode cL_law 189 = .ok (.iaload, 1) := by decide +kernel
theorem dL_law_190 : decode cL_law 190 = .ok (.aload_n 0, 1) := by decide +kernel
theorem dL_law_191 : decode cL_law 191 = .ok (.iload_n 3, 1) := by decide +kernel
theorem dL_law_192 : decode cL_law 192 = .ok (.iconst 5, 1) := by decide +kernel
theorem dL_law_193 : decode cL_law 193 = .ok (.iadd, 1) := by decide +kernel
theorem dL_law_194 : decode cL_law 194 = .ok (.iaload, 1) := by decide +kernel
theorem dL_law_195 : decode cL_law 195 = .ok (.invokevirtual 17, 3) := by decide +kernel
theorem dL_law_198 : decode cL_law 198 = .ok (.if_icmp .eq 945, 3) := by decide +kernel
theorem dL_law_201 : decode cL_law 201 = .ok (.iconst 0, 1) := by decide +kernel
theorem dL_law_202 : decode cL_law 202 = .ok (.ireturn, 1) := by decide +kernel
theorem dL_law_203 : decode cL_law 203 = .ok (.aload_n 1, 1) := by decide +kernel
theorem dL_law_204 : decode cL_law 204 = .ok (.aload_n 0, 1) := by decide +kernel
theorem dL_law_205 : decode cL_law 205 = .ok (.iload_n 3, 1) := by decide +kernel
theorem dL_law_206 : decode cL_law 206 = .ok (.iconst 1, 1) := by decide +kernel
theorem dL_law_207 : decode cL_law 207 = .ok (.iadd, 1) := by decide +kernel
theorem dL_law_208 : decode cL_law 208 = .ok (.iaload, 1) := by decide +kernel
theorem dL_law_209 : decode cL_law 209 = .ok (.aload_n 0, 1) := by decide +kernel
theorem dL_law_210 : decode cL_law 210 = .ok (.iload_n 3, 1) := by decide +kernel
theorem dL_law_211 : decode cL_law 211 = .ok (.iconst 2, 1) := by decide +kernel
theorem dL_law_212 : decode cL_law 212 = .ok (.iadd, 1) := by decide +kernel
theorem dL_law_213 : decode cL_law 213 = .ok (.iaload, 1) := by decide +kernel
theorem dL_law_214 : decode cL_law 214 = .ok (.aload_n 0, 1) := by decide +kernel
theorem dL_law_215 : decode cL_law 215 = .ok (.iload_n 3, 1) := by decide +kernel
theorem dL_law_216 : decode cL_law 216 = .ok (.iconst 3, 1) := by decide +kernel
theorem dL_law_217 : decode cL_law 217 = .ok (.iadd, 1) := by decide +kernel
theorem dL_law_218 : decode cL_law 218 = .ok (.iaload, 1) := by decide +kernel
theorem dL_law_219 : decode cL_law 219 = .ok (.aload_n 0, 1) := by decide +kernel
theorem dL_law_220 : decode cL_law 220 = .ok (.iload_n 3, 1) := by decide +kernel
theorem dL_law_221 : decode cL_law 221 = .ok (.iconst 4, 1) := by decide +kernel
theorem dL_law_222 : decode cL_law 222 = .ok (.iadd, 1) := by decide +kernel
theorem dL_law_223 : decode cL_law 223 = .ok (.iaload, 1) := by decide +kernel
theorem dL_law_224 : decode cL_law 224 = .ok (.aload_n 0, 1) := by decide +kernel
theorem dL_law_225 : decode cL_law 225 = .ok (.iload_n 3, 1) := by decide +kernel
theorem dL_law_226 : decode cL_law 226 = .ok (.iconst 5, 1) := by decide +kernel
theorem dL_law_227 : decode cL_law 227 = .ok (.iadd, 1) := by decide +kernel
theorem dL_law_228 : decode cL_law 228 = .ok (.iaload, 1) := by decide +kernel
theorem dL_law_229 : decode cL_law 229 = .ok (.aload_n 0, 1) := by decide +kernel
theorem dL_law_230 : decode cL_law 230 = .ok (.iload_n 3, 1) := by decide +kernel
theorem dL_law_231 : decode cL_law 231 = .ok (.bipush 6, 2) := by decide +kernel
theorem dL_law_233 : decode cL_law 233 = .ok (.iadd, 1) := by decide +kernel
theorem dL_law_234 : decode cL_law 234 = .ok (.iaload, 1) := by decide +kernel
theorem dL_law_235 : decode cL_law 235 = .ok (.invokevirtual 18, 3) := by decide +kernel
theorem dL_law_238 : decode cL_law 238 = .ok (.aload_n 2, 1) := by decide +kernel
theorem dL_law_239 : decode cL_law 239 = .ok (.aload_n 0, 1) := by decide +kernel
theorem dL_law_240 : decode cL_law 240 = .ok (.iload_n 3, 1) := by decide +kernel
theorem dL_law_241 : decode cL_law 241 = .ok (.iconst 1, 1) := by decide +kernel
theorem dL_law_242 : decode cL_law 242 = .ok (.iadd, 1) := by decide +kernel
theorem dL_law_243 : decode cL_law 243 = .ok (.iaload, 1) := by decide +kernel
theorem dL_law_244 : decode cL_law 244 = .ok (.aload_n 0, 1) := by decide +kernel
theorem dL_law_245 : decode cL_law 245 = .ok (.iload_n 3, 1) := by decide +kernel
theorem dL_law_246 : decode cL_law 246 = .ok (.iconst 2, 1) := by decide +kernel
theorem dL_law_247 : decode cL_law 247 = .ok (.iadd, 1) := by decide +kernel
theorem dL_law_248 : decode cL_law 248 = .ok (.iaload, 1) := by decide +kernel
theorem dL_law_249 : decode cL_law 249 = .ok (.aload_n 0, 1) := by decide +kernel
theorem dL_law_250 : decode cL_law 250 = .ok (.iload_n 3, 1) := by decide +kernel
theorem dL_law_251 : decode cL_law 251 = .ok (.iconst 3, 1) := by decide +kernel
theorem dL_law_252 : decode cL_law 252 = .ok (.iadd, 1) := by decide +kernel
theorem dL_law_253 : decode cL_law 253 = .ok (.iaload, 1) := by decide +kernel
theorem dL_law_254 : decode cL_law 254 = .ok (.aload_n 0, 1) := by decide +kernel
theorem dL_law_255 : decode cL_law 255 = .ok (.iload_n 3, 1) := by decide +kernel
theorem dL_law_256 : decode cL_law 256 = .ok (.iconst 4, 1) := by decide +kernel
theorem dL_law_257 : decode cL_law 257 = .ok (.iadd, 1) := by decide +kernel
theorem dL_law_258 : decode cL_law 258 = .ok (.iaload, 1) := by decide +kernel
theorem dL_law_259 : decode cL_law 259 = .ok (.aload_n 0, 1) := by decide +kernel
theorem dL_law_260 : decode cL_law 260 = .ok (.iload_n 3, 1) := by decide +kernel
theorem dL_law_261 : decode cL_law 261 = .ok (.iconst 5, 1) := by decide +kernel
theorem dL_law_262 : decode cL_law 262 = .ok (.iadd, 1) := by decide +kernel
theorem dL_law_263 : decode cL_law 263 = .ok (.iaload, 1) := by decide +kernel
theorem dL_law_264 : decode cL_law 264 = .ok (.aload_n 0, 1) := by decide +kernel
theorem dL_law_265 : decode cL_law 265 = .ok (.iload_n 3, 1) := by decide +kernel
theorem dL_law_266 : decode cL_law 266 = .ok (.bipush 6, 2) := by decide +kernel
theorem dL_law_268 : decode cL_law 268 = .ok (.iadd, 1) := by decide +kernel
theorem dL_law_269 : decode cL_law 269 = .ok (.iaload, 1) := by decide +kernel
theorem dL_law_270 : decode cL_law 270 = .ok (.invokevirtual 22, 3) := by decide +kernel
theorem dL_law_273 : decode cL_law 273 = .ok (.if_icmp .eq 870, 3) := by decide +kernel
theorem dL_law_276 : decode cL_law 276 = .ok (.iconst 0, 1) := by decide +kernel
theorem dL_law_277 : decode cL_law 277 = .ok (.ireturn, 1) := by decide +kernel
theorem dL_law_278 : decode cL_law 278 = .ok (.aload_n 1, 1) := by decide +kernel
theorem dL_law_279 : decode cL_law 279 = .ok (.aload_n 0, 1) := by decide +kernel
theorem dL_law_280 : decode cL_law 280 = .ok (.iload_n 3, 1) := by decide +kernel
theorem dL_law_281 : decode cL_law 281 = .ok (.iconst 1, 1) := by decide +kernel
theorem dL_law_282 : decode cL_law 282 = .ok (.iadd, 1) := by decide +kernel
theorem dL_law_283 : decode cL_law 283 = .ok (.iaload, 1) := by decide +kernel
theorem dL_law_284 : decode cL_law 284 = .ok (.invokevirtual 23, 3) := by decide +kernel
theorem dL_law_287 : decode cL_law 287 = .ok (.aload_n 2, 1) := by decide +kernel
theorem dL_law_288 : decode cL_law 288 = .ok (.aload_n 0, 1) := by decide +kernel
theorem dL_law_289 : decode cL_law 289 = .ok (.iload_n 3, 1) := by decide +kernel
theorem dL_law_290 : decode cL_law 290 = .ok (.iconst 1, 1) := by decide +kernel
theorem dL_law_291 : decode cL_law 291 = .ok (.iadd, 1) := by decide +kernel
theorem dL_law_292 : decode cL_law 292 = .ok (.iaload, 1) := by decide +kernel
theorem dL_law_293 : decode cL_law 293 = .ok (.invokevirtual 27, 3) := by decide +kernel
theorem dL_law_296 : decode cL_law 296 = .ok (.if_icmp .eq 847, 3) := by decide +kernel
theorem dL_law_299 : decode cL_law 299 = .ok (.iconst 0, 1) := by decide +kernel
theorem dL_law_300 : decode cL_law 300 = .ok (.ireturn, 1) := by decide +kernel
theorem dL_law_301 : decode cL_law 301 = .ok (.aload_n 1, 1) := by decide +kernel
theorem dL_law_302 : decode cL_law 302 = .ok (.aload_n 0, 1) := by decide +kernel
theorem dL_law_303 : decode cL_law 303 = .ok (.iload_n 3, 1) := by decide +kernel
theorem dL_law_304 : decode cL_law 304 = .ok (.iconst 1, 1) := by decide +kernel
theorem dL_law_305 : decode cL_law 305 = .ok (.iadd, 1) := by decide +kernel
theorem dL_law_306 : decode cL_law 306 = .ok (.iaload, 1) := by decide +kernel
theorem dL_law_307 : decode cL_law 307 = .ok (.aload_n 0, 1) := by decide +kernel
theorem dL_law_308 : decode cL_law 308 = .ok (.iload_n 3, 1) := by decide +kernel
theorem dL_law_309 : decode cL_law 309 = .ok (.iconst 2, 1) := by decide +kernel
theorem dL_law_310 : decode cL_law 310 = .ok (.iadd, 1) := by decide +kernel
theorem dL_law_311 : decode cL_law 311 = .ok (.iaload, 1) := by decide +kernel
theorem dL_law_312 : decode cL_law 312 = .ok (.invokevirtual 28, 3) := by decide +kernel
theorem dL_law_315 : decode cL_law 315 = .ok (.aload_n 2, 1) := by decide +kernel
theorem dL_law_316 : decode cL_law 316 = .ok (.aload_n 0, 1) := by decide +kernel
theorem dL_law_317 : decode cL_law 317 = .ok (.iload_n 3, 1) := by decide +kernel
theorem dL_law_318 : decode cL_law 318 = .ok (.iconst 1, 1) := by decide +kernel
theorem dL_law_319 : decode cL_law 319 = .ok (.iadd, 1) := by decide +kernel
theorem dL_law_320 : decode cL_law 320 = .ok (.iaload, 1) := by decide +kernel
theorem dL_law_321 : decode cL_law 321 = .ok (.aload_n 0, 1) := by decide +kernel
theorem dL_law_322 : decode cL_law 322 = .ok (.iload_n 3, 1) := by decide +kernel
theorem dL_law_323 : decode cL_law 323 = .ok (.iconst 2, 1) := by decide +kernel
theorem dL_law_324 : decode cL_law 324 = .ok (.iadd, 1) := by decide +kernel
theorem dL_law_325 : decode cL_law 325 = .ok (.iaload, 1) := by decide +kernel
theorem dL_law_326 : decode cL_law 326 = .ok (.invokevirtual 32, 3) := by decide +kernel
theorem dL_law_329 : decode cL_law 329 = .ok (.if_icmp .eq 814, 3) := by decide +kernel
theorem dL_law_332 : decode cL_law 332 = .ok (.iconst 0, 1) := by decide +kernel
theorem dL_law_333 : decode cL_law 333 = .ok (.ireturn, 1) := by decide +kernel
theorem dL_law_334 : decode cL_law 334 = .ok (.aload_n 1, 1) := by decide +kernel
theorem dL_law_335 : decode cL_law 335 = .ok (.aload_n 0, 1) := by decide +kernel
theorem dL_law_336 : decode cL_law 336 = .ok (.iload_n 3, 1) := by decide +kernel
theorem dL_law_337 : decode cL_law 337 = .ok (.iconst 1, 1) := by decide +kernel
theorem dL_law_338 : decode cL_law 338 = .ok (.iadd, 1) := by decide +kernel
theorem dL_law_339 : decode cL_law 339 = .ok (.iaload, 1) := by decide +kernel
theorem dL_law_340 : decode cL_law 340 = .ok (.aload_n 0, 1) := by decide +kernel
theorem dL_law_341 : decode cL_law 341 = .ok (.iload_n 3, 1) := by decide +kernel
theorem dL_law_342 : decode cL_law 342 = .ok (.iconst 2, 1) := by decide +kernel
theorem dL_law_343 : decode cL_law 343 = .ok (.iadd, 1) := by decide +kernel
theorem dL_law_344 : decode cL_law 344 = .ok (.iaload, 1) := by decide +kernel
theorem dL_law_345 : decode cL_law 345 = .ok (.aload_n 0, 1) := by decide +kernel
theorem dL_law_346 : decode cL_law 346 = .ok (.iload_n 3, 1) := by decide +kernel
theorem dL_law_347 : decode cL_law 347 = .ok (.iconst 3, 1) := by decide +kernel
theorem dL_law_348 : decode cL_law 348 = .ok (.iadd, 1) := by decide +kernel
theorem dL_law_349 : decode cL_law 349 = .ok (.iaload, 1) := by decide +kernel
theorem dL_law_350 : decode cL_law 350 = .ok (.invokevirtual 33, 3) := by decide +kernel
theorem dL_law_353 : decode cL_law 353 = .ok (.aload_n 2, 1) := by decide +kernel
theorem dL_law_354 : decode cL_law 354 = .ok (.aload_n 0, 1) := by decide +kernel
theorem dL_law_355 : decode cL_law 355 = .ok (.iload_n 3, 1) := by decide +kernel
theorem dL_law_356 : decode cL_law 356 = .ok (.iconst 1, 1) := by decide +kernel
theorem dL_law_357 : decode cL_law 357 = .ok (.iadd, 1) := by decide +kernel
theorem dL_law_358 : decode cL_law 358 = .ok (.iaload, 1) := by decide +kernel
theorem dL_law_359 : decode cL_law 359 = .ok (.aload_n 0, 1) := by decide +kernel
theorem dL_law_360 : decode cL_law 360 = .ok (.iload_n 3, 1) := by decide +kernel
theorem dL_law_361 : decode cL_law 361 = .ok (.iconst 2, 1) := by decide +kernel
theorem dL_law_362 : decode cL_law 362 = .ok (.iadd, 1) := by decide +kernel
theorem dL_law_363 : decode cL_law 363 = .ok (.iaload, 1) := by decide +kernel
theorem dL_law_364 : decode cL_law 364 = .ok (.aload_n 0, 1) := by decide +kernel
theorem dL_law_365 : decode cL_law 365 = .ok (.iload_n 3, 1) := by decide +kernel
theorem dL_law_366 : decode cL_law 366 = .ok (.iconst 3, 1) := by decide +kernel
theorem dL_law_367 : decode cL_law 367 = .ok (.iadd, 1) := by decide +kernel
theorem dL_law_368 : decode cL_law 368 = .ok (.iaload, 1) := by decide +kernel
theorem dL_law_369 : decode cL_law 369 = .ok (.invokevirtual 37, 3) := by decide +kernel
theorem dL_law_372 : decode cL_law 372 = .ok (.if_icmp .eq 771, 3) := by decide +kernel
theorem dL_law_375 : decode cL_law 375 = .ok (.iconst 0, 1) := by decide +kernel
theorem dL_law_376 : decode cL_law 376 = .ok (.ireturn, 1) := by decide +kernel
theorem dL_law_377 : decode cL_law 377 = .ok (.aload_n 1, 1) := by decide +kernel
theorem dL_law_378 : decode cL_law 378 = .ok (.aload_n 0, 1) := by decide +kernel
theorem dL_law_379 : decode cL_law 379 = .ok (.iload_n 3, 1) := by decide +kernel
theorem dL_law_380 : decode cL_law 380 = .ok (.iconst 1, 1) := by decide +kernel
theorem dL_law_381 : decode cL_law 381 = .ok (.iadd, 1) := by decide +kernel
theorem dL_law_382 : decode cL_law 382 = .ok (.iaload, 1) := by decide +kernel
theorem dL_law_383 : decode cL_law 383 = .ok (.invokevirtual 38, 3) := by decide +kernel
theorem dL_law_386 : decode cL_law 386 = .ok (.aload_n 2, 1) := by decide +kernel
theorem dL_law_387 : decode cL_law 387 = .ok (.aload_n 0, 1) := by decide +kernel
theorem dL_law_388 : decode cL_law 388 = .ok (.iload_n 3, 1) := by decide +kernel
theorem dL_law_389 : decode cL_law 389 = .ok (.iconst 1, 1) := by decide +kernel
theorem dL_law_390 : decode cL_law 390 = .ok (.iadd, 1) := by decide +kernel
theorem dL_law_391 : decode cL_law 391 = .ok (.iaload, 1) := by decide +kernel
theorem dL_law_392 : decode cL_law 392 = .ok (.invokevirtual 41, 3) := by decide +kernel
theorem dL_law_395 : decode cL_law 395 = .ok (.if_icmp .eq 748, 3) := by decide +kernel
theorem dL_law_398 : decode cL_law 398 = .ok (.iconst 0, 1) := by decide +kernel
theorem dL_law_399 : decode cL_law 399 = .ok (.ireturn, 1) := by decide +kernel
theorem dL_law_400 : decode cL_law 400 = .ok (.aload_n 1, 1) := by decide +kernel
theorem dL_law_401 : decode cL_law 401 = .ok (.invokevirtual 42, 3) := by decide +kernel
theorem dL_law_404 : decode cL_law 404 = .ok (.aload_n 2, 1) := by decide +kernel
theorem dL_law_405 : decode cL_law 405 = .ok (.invokevirtual 46, 3) := by decide +kernel
theorem dL_law_408 : decode cL_law 408 = .ok (.if_icmp .eq 735, 3) := by decide +kernel
theorem dL_law_411 : decode cL_law 411 = .ok (.iconst 0, 1) := by decide +kernel
theorem dL_law_412 : decode cL_law 412 = .ok (.ireturn, 1) := by decide +kernel
theorem dL_law_413 : decode cL_law 413 = .ok (.aload_n 1, 1) := by decide +kernel
theorem dL_law_414 : decode cL_law 414 = .ok (.invokevirtual 47, 3) := by decide +kernel
theorem dL_law_417 : decode cL_law 417 = .ok (.aload_n 2, 1) := by decide +kernel
theorem dL_law_418 : decode cL_law 418 = .ok (.invokevirtual 50, 3) := by decide +kernel
theorem dL_law_421 : decode cL_law 421 = .ok (.if_icmp .eq 722, 3) := by decide +kernel
theorem dL_law_424 : decode cL_law 424 = .ok (.iconst 0, 1) := by decide +kernel
theorem dL_law_425 : decode cL_law 425 = .ok (.ireturn, 1) := by decide +kernel
theorem dL_law_426 : decode cL_law 426 = .ok (.aload_n 1, 1) := by decide +kernel
theorem dL_law_427 : decode cL_law 427 = .ok (.invokevirtual 51, 3) := by decide +kernel
theorem dL_law_430 : decode cL_law 430 = .ok (.aload_n 2, 1) := by decide +kernel
theorem dL_law_431 : decode cL_law 431 = .ok (.invokevirtual 54, 3) := by decide +kernel
theorem dL_law_434 : decode cL_law 434 = .ok (.if_icmp .eq 709, 3) := by decide +kernel
theorem dL_law_437 : decode cL_law 437 = .ok (.iconst 0, 1) := by decide +kernel
theorem dL_law_438 : decode cL_law 438 = .ok (.ireturn, 1) := by decide +kernel
theorem dL_law_439 : decode cL_law 439 = .ok (.aload_n 1, 1) := by decide +kernel
theorem dL_law_440 : decode cL_law 440 = .ok (.aload_n 0, 1) := by decide +kernel
theorem dL_law_441 : decode cL_law 441 = .ok (.iload_n 3, 1) := by decide +kernel
theorem dL_law_442 : decode cL_law 442 = .ok (.iconst 1, 1) := by decide +kernel
theorem dL_law_443 : decode cL_law 443 = .ok (.iadd, 1) := by decide +kernel
theorem dL_law_444 : decode cL_law 444 = .ok (.iaload, 1) := by decide +kernel
theorem dL_law_445 : decode cL_law 445 = .ok (.aload_n 0, 1) := by decide +kernel
theorem dL_law_446 : decode cL_law 446 = .ok (.iload_n 3, 1) := by decide +kernel
theorem dL_law_447 : decode cL_law 447 = .ok (.iconst 2, 1) := by decide +kernel
theorem dL_law_448 : decode cL_law 448 = .ok (.iadd, 1) := by decide +kernel
theorem dL_law_449 : decode cL_law 449 = .ok (.iaload, 1) := by decide +kernel
theorem dL_law_450 : decode cL_law 450 = .ok (.aload_n 0, 1) := by decide +kernel
theorem dL_law_451 : decode cL_law 451 = .ok (.iload_n 3, 1) := by decide +kernel
theorem dL_law_452 : decode cL_law 452 = .ok (.iconst 3, 1) := by decide +kernel
theorem dL_law_453 : decode cL_law 453 = .ok (.iadd, 1) := by decide +kernel
theorem dL_law_454 : decode cL_law 454 = .ok (.iaload, 1) := by decide +kernel
theorem dL_law_455 : decode cL_law 455 = .ok (.aload_n 0, 1) := by decide +kernel
theorem dL_law_456 : decode cL_law 456 = .ok (.iload_n 3, 1) := by decide +kernel
theorem dL_law_457 : decode cL_law 457 = .ok (.iconst 4, 1) := by decide +kernel
theorem dL_law_458 : decode cL_law 458 = .ok (.iadd, 1) := by decide +kernel
theorem dL_law_459 : decode cL_law 459 = .ok (.iaload, 1) := by decide +kernel
theorem dL_law_460 : decode cL_law 460 = .ok (.aload_n 0, 1) := by decide +kernel
theorem dL_law_461 : decode cL_law 461 = .ok (.iload_n 3, 1) := by decide +kernel
theorem dL_law_462 : decode cL_law 462 = .ok (.iconst 5, 1) := by decide +kernel
theorem dL_law_463 : decode cL_law 463 = .ok (.iadd, 1) := by decide +kernel
theorem dL_law_464 : decode cL_law 464 = .ok (.iaload, 1) := by decide +kernel
theorem dL_law_465 : decode cL_law 465 = .ok (.aload_n 0, 1) := by decide +kernel
theorem dL_law_466 : decode cL_law 466 = .ok (.iload_n 3, 1) := by decide +kernel
theorem dL_law_467 : decode cL_law 467 = .ok (.bipush 6, 2) := by decide +kernel
theorem dL_law_469 : decode cL_law 469 = .ok (.iadd, 1) := by decide +kernel
theorem dL_law_470 : decode cL_law 470 = .ok (.iaload, 1) := by decide +kernel
theorem dL_law_471 : decode cL_law 471 = .ok (.invokevirtual 55, 3) := by decide +kernel
theorem dL_law_474 : decode cL_law 474 = .ok (.aload_n 2, 1) := by decide +kernel
theorem dL_law_475 : decode cL_law 475 = .ok (.aload_n 0, 1) := by decide +kernel
theorem dL_law_476 : decode cL_law 476 = .ok (.iload_n 3, 1) := by decide +kernel
theorem dL_law_477 : decode cL_law 477 = .ok (.iconst 1, 1) := by decide +kernel
theorem dL_law_478 : decode cL_law 478 = .ok (.iadd, 1) := by decide +kernel
theorem dL_law_479 : decode cL_law 479 = .ok (.iaload, 1) := by decide +kernel
theorem dL_law_480 : decode cL_law 480 = .ok (.aload_n 0, 1) := by decide +kernel
theorem dL_law_481 : decode cL_law 481 = .ok (.iload_n 3, 1) := by decide +kernel
theorem dL_law_482 : decode cL_law 482 = .ok (.iconst 2, 1) := by decide +kernel
theorem dL_law_483 : decode cL_law 483 = .ok (.iadd, 1) := by decide +kernel
theorem dL_law_484 : decode cL_law 484 = .ok (.iaload, 1) := by decide +kernel
theorem dL_law_485 : decode cL_law 485 = .ok (.aload_n 0, 1) := by decide +kernel
theorem dL_law_486 : decode cL_law 486 = .ok (.iload_n 3, 1) := by decide +kernel
theorem dL_law_487 : decode cL_law 487 = .ok (.iconst 3, 1) := by decide +kernel
theorem dL_law_488 : decode cL_law 488 = .ok (.iadd, 1) := by decide +kernel
theorem dL_law_489 : decode cL_law 489 = .ok (.iaload, 1) := by decide +kernel
theorem dL_law_490 : decode cL_law 490 = .ok (.aload_n 0, 1) := by decide +kernel
theorem dL_law_491 : decode cL_law 491 = .ok (.iload_n 3, 1) := by decide +kernel
theorem dL_law_492 : decode cL_law 492 = .ok (.iconst 4, 1) := by decide +kernel
theorem dL_law_493 : decode cL_law 493 = .ok (.iadd, 1) := by decide +kernel
theorem dL_law_494 : decode cL_law 494 = .ok (.iaload, 1) := by decide +kernel
theorem dL_law_495 : decode cL_law 495 = .ok (.aload_n 0, 1) := by decide +kernel
theorem dL_law_496 : decode cL_law 496 = .ok (.iload_n 3, 1) := by decide +kernel
theorem dL_law_497 : decode cL_law 497 = .ok (.iconst 5, 1) := by decide +kernel
theorem dL_law_498 : decode cL_law 498 = .ok (.iadd, 1) := by decide +kernel
theorem dL_law_499 : decode cL_law 499 = .ok (.iaload, 1) := by decide +kernel
theorem dL_law_500 : decode cL_law 500 = .ok (.aload_n 0, 1) := by decide +kernel
theorem dL_law_501 : decode cL_law 501 = .ok (.iload_n 3, 1) := by decide +kernel
theorem dL_law_502 : decode cL_law 502 = .ok (.bipush 6, 2) := by decide +kernel
theorem dL_law_504 : decode cL_law 504 = .ok (.iadd, 1) := by decide +kernel
theorem dL_law_505 : decode cL_law 505 = .ok (.iaload, 1) := by decide +kernel
theorem dL_law_506 : decode cL_law 506 = .ok (.invokevirtual 58, 3) := by decide +kernel
theorem dL_law_509 : decode cL_law 509 = .ok (.if_icmp .eq 634, 3) := by decide +kernel
theorem dL_law_512 : decode cL_law 512 = .ok (.iconst 0, 1) := by decide +kernel
theorem dL_law_513 : decode cL_law 513 = .ok (.ireturn, 1) := by decide +kernel
theorem dL_law_514 : decode cL_law 514 = .ok (.aload_n 1, 1) := by decide +kernel
theorem dL_law_515 : decode cL_law 515 = .ok (.aload_n 0, 1) := by decide +kernel
theorem dL_law_516 : decode cL_law 516 = .ok (.iload_n 3, 1) := by decide +kernel
theorem dL_law_517 : decode cL_law 517 = .ok (.iconst 1, 1) := by decide +kernel
theorem dL_law_518 : decode cL_law 518 = .ok (.iadd, 1) := by decide +kernel
theorem dL_law_519 : decode cL_law 519 = .ok (.iaload, 1) := by decide +kernel
theorem dL_law_520 : decode cL_law 520 = .ok (.aload_n 0, 1) := by decide +kernel
theorem dL_law_521 : decode cL_law 521 = .ok (.iload_n 3, 1) := by decide +kernel
theorem dL_law_522 : decode cL_law 522 = .ok (.iconst 2, 1) := by decide +kernel
theorem dL_law_523 : decode cL_law 523 = .ok (.iadd, 1) := by decide +kernel
theorem dL_law_524 : decode cL_law 524 = .ok (.iaload, 1) := by decide +kernel
theorem dL_law_525 : decode cL_law 525 = .ok (.aload_n 0, 1) := by decide +kernel
theorem dL_law_526 : decode cL_law 526 = .ok (.iload_n 3, 1) := by decide +kernel
theorem dL_law_527 : decode cL_law 527 = .ok (.iconst 3, 1) := by decide +kernel
theorem dL_law_528 : decode cL_law 528 = .ok (.iadd, 1) := by decide +kernel
theorem dL_law_529 : decode cL_law 529 = .ok (.iaload, 1) := by decide +kernel
theorem dL_law_530 : decode cL_law 530 = .ok (.aload_n 0, 1) := by decide +kernel
theorem dL_law_531 : decode cL_law 531 = .ok (.iload_n 3, 1) := by decide +kernel
theorem dL_law_532 : decode cL_law 532 = .ok (.iconst 4, 1) := by decide +kernel
theorem dL_law_533 : decode cL_law 533 = .ok (.iadd, 1) := by decide +kernel
theorem dL_law_534 : decode cL_law 534 = .ok (.iaload, 1) := by decide +kernel
theorem dL_law_535 : decode cL_law 535 = .ok (.invokevirtual 59, 3) := by decide +kernel
theorem dL_law_538 : decode cL_law 538 = .ok (.aload_n 2, 1) := by decide +kernel
theorem dL_law_539 : decode cL_law 539 = .ok (.aload_n 0, 1) := by decide +kernel
theorem dL_law_540 : decode cL_law 540 = .ok (.iload_n 3, 1) := by decide +kernel
theorem dL_law_541 : decode cL_law 541 = .ok (.iconst 1, 1) := by decide +kernel
theorem dL_law_542 : decode cL_law 542 = .ok (.iadd, 1) := by decide +kernel
theorem dL_law_543 : decode cL_law 543 = .ok (.iaload, 1) := by decide +kernel
theorem dL_law_544 : decode cL_law 544 = .ok (.aload_n 0, 1) := by decide +kernel
theorem dL_law_545 : decode cL_law 545 = .ok (.iload_n 3, 1) := by decide +kernel
theorem dL_law_546 : decode cL_law 546 = .ok (.iconst 2, 1) := by decide +kernel
theorem dL_law_547 : decode cL_law 547 = .ok (.iadd, 1) := by decide +kernel
theorem dL_law_548 : decode cL_law 548 = .ok (.iaload, 1) := by decide +kernel
theorem dL_law_549 : decode cL_law 549 = .ok (.aload_n 0, 1) := by decide +kernel
theorem dL_law_550 : decode cL_law 550 = .ok (.iload_n 3, 1) := by decide +kernel
theorem dL_law_551 : decode cL_law 551 = .ok (.iconst 3, 1) := by decide +kernel
theorem dL_law_552 : decode cL_law 552 = .ok (.iadd, 1) := by decide +kernel
theorem dL_law_553 : decode cL_law 553 = .ok (.iaload, 1) := by decide +kernel
theorem dL_law_554 : decode cL_law 554 = .ok (.aload_n 0, 1) := by decide +kernel
theorem dL_law_555 : decode cL_law 555 = .ok (.iload_n 3, 1) := by decide +kernel
theorem dL_law_556 : decode cL_law 556 = .ok (.iconst 4, 1) := by decide +kernel
theorem dL_law_557 : decode cL_law 557 = .ok (.iadd, 1) := by decide +kernel
theorem dL_law_558 : decode cL_law 558 = .ok (.iaload, 1) := by decide +kernel
theorem dL_law_559 : decode cL_law 559 = .ok (.invokevirtual 63, 3) := by decide +kernel
theorem dL_law_562 : decode cL_law 562 = .ok (.if_icmp .eq 581, 3) := by decide +kernel
theorem dL_law_565 : decode cL_law 565 = .ok (.iconst 0, 1) := by decide +kernel
theorem dL_law_566 : decode cL_law 566 = .ok (.ireturn, 1) := by decide +kernel
theorem dL_law_567 : decode cL_law 567 = .ok (.aload_n 1, 1) := by decide +kernel
theorem dL_law_568 : decode cL_law 568 = .ok (.aload_n 0, 1) := by decide +kernel
theorem dL_law_569 : decode cL_law 569 = .ok (.iload_n 3, 1) := by decide +kernel
theorem dL_law_570 : decode cL_law 570 = .ok (.iconst 1, 1) := by decide +kernel
theorem dL_law_571 : decode cL_law 571 = .ok (.iadd, 1) := by decide +kernel
theorem dL_law_572 : decode cL_law 572 = .ok (.iaload, 1) := by decide +kernel
theorem dL_law_573 : decode cL_law 573 = .ok (.aload_n 0, 1) := by decide +kernel
theorem dL_law_574 : decode cL_law 574 = .ok (.iload_n 3, 1) := by decide +kernel
theorem dL_law_575 : decode cL_law 575 = .ok (.iconst 2, 1) := by decide +kernel
theorem dL_law_576 : decode cL_law 576 = .ok (.iadd, 1) := by decide +kernel
theorem dL_law_577 : decode cL_law 577 = .ok (.iaload, 1) := by decide +kernel
theorem dL_law_578 : decode cL_law 578 = .ok (.aload_n 0, 1) := by decide +kernel
theorem dL_law_579 : decode cL_law 579 = .ok (.iload_n 3, 1) := by decide +kernel
theorem dL_law_580 : decode cL_law 580 = .ok (.iconst 3, 1) := by decide +kernel
theorem dL_law_581 : decode cL_law 581 = .ok (.iadd, 1) := by decide +kernel
theorem dL_law_582 : decode cL_law 582 = .ok (.iaload, 1) := by decide +kernel
theorem dL_law_583 : decode cL_law 583 = .ok (.aload_n 0, 1) := by decide +kernel
theorem dL_law_584 : decode cL_law 584 = .ok (.iload_n 3, 1) := by decide +kernel
theorem dL_law_585 : decode cL_law 585 = .ok (.iconst 4, 1) := by decide +kernel
theorem dL_law_586 : decode cL_law 586 = .ok (.iadd, 1) := by decide +kernel
theorem dL_law_587 : decode cL_law 587 = .ok (.iaload, 1) := by decide +kernel
theorem dL_law_588 : decode cL_law 588 = .ok (.invokevirtual 64, 3) := by decide +kernel
theorem dL_law_591 : decode cL_law 591 = .ok (.aload_n 2, 1) := by decide +kernel
theorem dL_law_592 : decode cL_law 592 = .ok (.aload_n 0, 1) := by decide +kernel
theorem dL_law_593 : decode cL_law 593 = .ok (.iload_n 3, 1) := by decide +kernel
theorem dL_law_594 : decode cL_law 594 = .ok (.iconst 1, 1) := by decide +kernel
theorem dL_law_595 : decode cL_law 595 = .ok (.iadd, 1) := by decide +kernel
theorem dL_law_596 : decode cL_law 596 = .ok (.iaload, 1) := by decide +kernel
theorem dL_law_597 : decode cL_law 597 = .ok (.aload_n 0, 1) := by decide +kernel
theorem dL_law_598 : decode cL_law 598 = .ok (.iload_n 3, 1) := by decide +kernel
theorem dL_law_599 : decode cL_law 599 = .ok (.iconst 2, 1) := by decide +kernel
theorem dL_law_600 : decode cL_law 600 = .ok (.iadd, 1) := by decide +kernel
theorem dL_law_601 : decode cL_law 601 = .ok (.iaload, 1) := by decide +kernel
theorem dL_law_602 : decode cL_law 602 = .ok (.aload_n 0, 1) := by decide +kernel
theorem dL_law_603 : decode cL_law 603 = .ok (.iload_n 3, 1) := by decide +kernel
theorem dL_law_604 : decode cL_law 604 = .ok (.iconst 3, 1) := by decide +kernel
theorem dL_law_605 : decode cL_law 605 = .ok (.iadd, 1) := by decide +kernel
theorem dL_law_606 : decode cL_law 606 = .ok (.iaload, 1) := by decide +kernel
theorem dL_law_607 : decode cL_law 607 = .ok (.aload_n 0, 1) := by decide +kernel
theorem dL_law_608 : decode cL_law 608 = .ok (.iload_n 3, 1) := by decide +kernel
theorem dL_law_609 : decode cL_law 609 = .ok (.iconst 4, 1) := by decide +kernel
theorem dL_law_610 : decode cL_law 610 = .ok (.iadd, 1) := by decide +kernel
theorem dL_law_611 : decode cL_law 611 = .ok (.iaload, 1) := by decide +kernel
theorem dL_law_612 : decode cL_law 612 = .ok (.invokevirtual 67, 3) := by decide +kernel
theorem dL_law_615 : decode cL_law 615 = .ok (.if_icmp .eq 528, 3) := by decide +kernel
theorem dL_law_618 : decode cL_law 618 = .ok (.iconst 0, 1) := by decide +kernel
theorem dL_law_619 : decode cL_law 619 = .ok (.ireturn, 1) := by decide +kernel
theorem dL_law_620 : decode cL_law 620 = .ok (.aload_n 1, 1) := by decide +kernel
theorem dL_law_621 : decode cL_law 621 = .ok (.aload_n 0, 1) := by decide +kernel
theorem dL_law_622 : decode cL_law 622 = .ok (.iload_n 3, 1) := by decide +kernel
theorem dL_law_623 : decode cL_law 623 = .ok (.iconst 1, 1) := by decide +kernel
theorem dL_law_624 : decode cL_law 624 = .ok (.iadd, 1) := by decide +kernel
theorem dL_law_625 : decode cL_law 625 = .ok (.iaload, 1) := by decide +kernel
theorem dL_law_626 : decode cL_law 626 = .ok (.aload_n 0, 1) := by decide +kernel
theorem dL_law_627 : decode cL_law 627 = .ok (.iload_n 3, 1) := by decide +kernel
theorem dL_law_628 : decode cL_law 628 = .ok (.iconst 2, 1) := by decide +kernel
theorem dL_law_629 : decode cL_law 629 = .ok (.iadd, 1) := by decide +kernel
theorem dL_law_630 : decode cL_law 630 = .ok (.iaload, 1) := by decide +kernel
theorem dL_law_631 : decode cL_law 631 = .ok (.aload_n 0, 1) := by decide +kernel
theorem dL_law_632 : decode cL_law 632 = .ok (.iload_n 3, 1) := by decide +kernel
theorem dL_law_633 : decode cL_law 633 = .ok (.iconst 3, 1) := by decide +kernel
theorem dL_law_634 : decode cL_law 634 = .ok (.iadd, 1) := by decide +kernel
theorem dL_law_635 : decode cL_law 635 = .ok (.iaload, 1) := by decide +kernel
theorem dL_law_636 : decode cL_law 636 = .ok (.invokevirtual 68, 3) := by decide +kernel
theorem dL_law_639 : decode cL_law 639 = .ok (.aload_n 2, 1) := by decide +kernel
theorem dL_law_640 : decode cL_law 640 = .ok (.aload_n 0, 1) := by decide +kernel
theorem dL_law_641 : decode cL_law 641 = .ok (.iload_n 3, 1) := by decide +kernel
theorem dL_law_642 : decode cL_law 642 = .ok (.iconst 1, 1) := by decide +kernel
theorem dL_law_643 : decode cL_law 643 = .ok (.iadd, 1) := by decide +kernel
theorem dL_law_644 : decode cL_law 644 = .ok (.iaload, 1) := by decide +kernel
theorem dL_law_645 : decode cL_law 645 = .ok (.aload_n 0, 1) := by decide +kernel
theorem dL_law_646 : decode cL_law 646 = .ok (.iload_n 3, 1) := by decide +kernel
theorem dL_law_647 : decode cL_law 647 = .ok (.iconst 2, 1) := by decide +kernel
theorem dL_law_648 : decode cL_law 648 = .ok (.iadd, 1) := by decide +kernel
theorem dL_law_649 : decode cL_law 649 = .ok (.iaload, 1) := by decide +kernel
theorem dL_law_650 : decode cL_law 650 = .ok (.aload_n 0, 1) := by decide +kernel
theorem dL_law_651 : decode cL_law 651 = .ok (.iload_n 3, 1) := by decide +kernel
theorem dL_law_652 : decode cL_law 652 = .ok (.iconst 3, 1) := by decide +kernel
theorem dL_law_653 : decode cL_law 653 = .ok (.iadd, 1) := by decide +kernel
theorem dL_law_654 : decode cL_law 654 = .ok (.iaload, 1) := by decide +kernel
theorem dL_law_655 : decode cL_law 655 = .ok (.invokevirtual 71, 3) := by decide +kernel
theorem dL_law_658 : decode cL_law 658 = .ok (.if_icmp .eq 485, 3) := by decide +kernel
theorem dL_law_661 : decode cL_law 661 = .ok (.iconst 0, 1) := by decide +kernel
theorem dL_law_662 : decode cL_law 662 = .ok (.ireturn, 1) := by decide +kernel
theorem dL_law_663 : decode cL_law 663 = .ok (.aload_n 1, 1) := by decide +kernel
theorem dL_law_664 : decode cL_law 664 = .ok (.aload_n 0, 1) := by decide +kernel
theorem dL_law_665 : decode cL_law 665 = .ok (.iload_n 3, 1) := by decide +kernel
theorem dL_law_666 : decode cL_law 666 = .ok (.iconst 1, 1) := by decide +kernel
theorem dL_law_667 : decode cL_law 667 = .ok (.iadd, 1) := by decide +kernel
theorem dL_law_668 : decode cL_law 668 = .ok (.iaload, 1) := by decide +kernel
theorem dL_law_669 : decode cL_law 669 = .ok (.aload_n 0, 1) := by decide +kernel
theorem dL_law_670 : decode cL_law 670 = .ok (.iload_n 3, 1) := by decide +kernel
theorem dL_law_671 : decode cL_law 671 = .ok (.iconst 2, 1) := by decide +kernel
theorem dL_law_672 : decode cL_law 672 = .ok (.iadd, 1) := by decide +kernel
theorem dL_law_673 : decode cL_law 673 = .ok (.iaload, 1) := by decide +kernel
theorem dL_law_674 : decode cL_law 674 = .ok (.aload_n 0, 1) := by decide +kernel
theorem dL_law_675 : decode cL_law 675 = .ok (.iload_n 3, 1) := by decide +kernel
theorem dL_law_676 : decode cL_law 676 = .ok (.iconst 3, 1) := by decide +kernel
theorem dL_law_677 : decode cL_law 677 = .ok (.iadd, 1) := by decide +kernel
theorem dL_law_678 : decode cL_law 678 = .ok (.iaload, 1) := by decide +kernel
theorem dL_law_679 : decode cL_law 679 = .ok (.aload_n 0, 1) := by decide +kernel
theorem dL_law_680 : decode cL_law 680 = .ok (.iload_n 3, 1) := by decide +kernel
theorem dL_law_681 : decode cL_law 681 = .ok (.iconst 4, 1) := by decide +kernel
theorem dL_law_682 : decode cL_law 682 = .ok (.iadd, 1) := by decide +kernel
theorem dL_law_683 : decode cL_law 683 = .ok (.iaload, 1) := by decide +kernel
theorem dL_law_684 : decode cL_law 684 = .ok (.invokevirtual 72, 3) := by decide +kernel
theorem dL_law_687 : decode cL_law 687 = .ok (.aload_n 2, 1) := by decide +kernel
theorem dL_law_688 : decode cL_law 688 = .ok (.aload_n 0, 1) := by decide +kernel
theorem dL_law_689 : decode cL_law 689 = .ok (.iload_n 3, 1) := by decide +kernel
theorem dL_law_690 : decode cL_law 690 = .ok (.iconst 1, 1) := by decide +kernel
theorem dL_law_691 : decode cL_law 691 = .ok (.iadd, 1) := by decide +kernel
theorem dL_law_692 : decode cL_law 692 = .ok (.iaload, 1) := by decide +kernel
theorem dL_law_693 : decode cL_law 693 = .ok (.aload_n 0, 1) := by decide +kernel
theorem dL_law_694 : decode cL_law 694 = .ok (.iload_n 3, 1) := by decide +kernel
theorem dL_law_695 : decode cL_law 695 = .ok (.iconst 2, 1) := by decide +kernel
theorem dL_law_696 : decode cL_law 696 = .ok (.iadd, 1) := by decide +kernel
theorem dL_law_697 : decode cL_law 697 = .ok (.iaload, 1) := by decide +kernel
theorem dL_law_698 : decode cL_law 698 = .ok (.aload_n 0, 1) := by decide +kernel
theorem dL_law_699 : decode cL_law 699 = .ok (.iload_n 3, 1) := by decide +kernel
theorem dL_law_700 : decode cL_law 700 = .ok (.iconst 3, 1) := by decide +kernel
theorem dL_law_701 : decode cL_law 701 = .ok (.iadd, 1) := by decide +kernel
theorem dL_law_702 : decode cL_law 702 = .ok (.iaload, 1) := by decide +kernel
theorem dL_law_703 : decode cL_law 703 = .ok (.aload_n 0, 1) := by decide +kernel
theorem dL_law_704 : decode cL_law 704 = .ok (.iload_n 3, 1) := by decide +kernel
theorem dL_law_705 : decode cL_law 705 = .ok (.iconst 4, 1) := by decide +kernel
theorem dL_law_706 : decode cL_law 706 = .ok (.iadd, 1) := by decide +kernel
theorem dL_law_707 : decode cL_law 707 = .ok (.iaload, 1) := by decide +kernel
theorem dL_law_708 : decode cL_law 708 = .ok (.invokevirtual 75, 3) := by decide +kernel
theorem dL_law_711 : decode cL_law 711 = .ok (.if_icmp .eq 432, 3) := by decide +kernel
theorem dL_law_714 : decode cL_law 714 = .ok (.iconst 0, 1) := by decide +kernel
theorem dL_law_715 : decode cL_law 715 = .ok (.ireturn, 1) := by decide +kernel
theorem dL_law_716 : decode cL_law 716 = .ok (.aload_n 1, 1) := by decide +kernel
theorem dL_law_717 : decode cL_law 717 = .ok (.aload_n 0, 1) := by decide +kernel
theorem dL_law_718 : decode cL_law 718 = .ok (.iload_n 3, 1) := by decide +kernel
theorem dL_law_719 : decode cL_law 719 = .ok (.iconst 1, 1) := by decide +kernel
theorem dL_law_720 : decode cL_law 720 = .ok (.iadd, 1) := by decide +kernel
theorem dL_law_721 : decode cL_law 721 = .ok (.iaload, 1) := by decide +kernel
theorem dL_law_722 : decode cL_law 722 = .ok (.aload_n 0, 1) := by decide +kernel
theorem dL_law_723 : decode cL_law 723 = .ok (.iload_n 3, 1) := by decide +kernel
theorem dL_law_724 : decode cL_law 724 = .ok (.iconst 2, 1) := by decide +kernel
theorem dL_law_725 : decode cL_law 725 = .ok (.iadd, 1) := by decide +kernel
theorem dL_law_726 : decode cL_law 726 = .ok (.iaload, 1) := by decide +kernel
theorem dL_law_727 : decode cL_law 727 = .ok (.aload_n 0, 1) := by decide +kernel
theorem dL_law_728 : decode cL_law 728 = .ok (.iload_n 3, 1) := by decide +kernel
theorem dL_law_729 : decode cL_law 729 = .ok (.iconst 3, 1) := by decide +kernel
theorem dL_law_730 : decode cL_law 730 = .ok (.iadd, 1) := by decide +kernel
theorem dL_law_731 : decode cL_law 731 = .ok (.iaload, 1) := by decide +kernel
theorem dL_law_732 : decode cL_law 732 = .ok (.aload_n 0, 1) := by decide +kernel
theorem dL_law_733 : decode cL_law 733 = .ok (.iload_n 3, 1) := by decide +kernel
theorem dL_law_734 : decode cL_law 734 = .ok (.iconst 4, 1) := by decide +kernel
theorem dL_law_735 : decode cL_law 735 = .ok (.iadd, 1) := by decide +kernel
theorem dL_law_736 : decode cL_law 736 = .ok (.iaload, 1) := by decide +kernel
theorem dL_law_737 : decode cL_law 737 = .ok (.aload_n 0, 1) := by decide +kernel
theorem dL_law_738 : decode cL_law 738 = .ok (.iload_n 3, 1) := by decide +kernel
theorem dL_law_739 : decode cL_law 739 = .ok (.iconst 5, 1) := by decide +kernel
theorem dL_law_740 : decode cL_law 740 = .ok (.iadd, 1) := by decide +kernel
theorem dL_law_741 : decode cL_law 741 = .ok (.iaload, 1) := by decide +kernel
theorem dL_law_742 : decode cL_law 742 = .ok (.invokevirtual 76, 3) := by decide +kernel
theorem dL_law_745 : decode cL_law 745 = .ok (.aload_n 2, 1) := by decide +kernel
theorem dL_law_746 : decode cL_law 746 = .ok (.aload_n 0, 1) := by decide +kernel
theorem dL_law_747 : decode cL_law 747 = .ok (.iload_n 3, 1) := by decide +kernel
theorem dL_law_748 : decode cL_law 748 = .ok (.iconst 1, 1) := by decide +kernel
theorem dL_law_749 : decode cL_law 749 = .ok (.iadd, 1) := by decide +kernel
theorem dL_law_750 : decode cL_law 750 = .ok (.iaload, 1) := by decide +kernel
theorem dL_law_751 : decode cL_law 751 = .ok (.aload_n 0, 1) := by decide +kernel
theorem dL_law_752 : decode cL_law 752 = .ok (.iload_n 3, 1) := by decide +kernel
theorem dL_law_753 : decode cL_law 753 = .ok (.iconst 2, 1) := by decide +kernel
theorem dL_law_754 : decode cL_law 754 = .ok (.iadd, 1) := by decide +kernel
theorem dL_law_755 : decode cL_law 755 = .ok (.iaload, 1) := by decide +kernel
theorem dL_law_756 : decode cL_law 756 = .ok (.aload_n 0, 1) := by decide +kernel
theorem dL_law_757 : decode cL_law 757 = .ok (.iload_n 3, 1) := by decide +kernel
theorem dL_law_758 : decode cL_law 758 = .ok (.iconst 3, 1) := by decide +kernel
theorem dL_law_759 : decode cL_law 759 = .ok (.iadd, 1) := by decide +kernel
theorem dL_law_760 : decode cL_law 760 = .ok (.iaload, 1) := by decide +kernel
theorem dL_law_761 : decode cL_law 761 = .ok (.aload_n 0, 1) := by decide +kernel
theorem dL_law_762 : decode cL_law 762 = .ok (.iload_n 3, 1) := by decide +kernel
theorem dL_law_763 : decode cL_law 763 = .ok (.iconst 4, 1) := by decide +kernel
theorem dL_law_764 : decode cL_law 764 = .ok (.iadd, 1) := by decide +kernel
theorem dL_law_765 : decode cL_law 765 = .ok (.iaload, 1) := by decide +kernel
theorem dL_law_766 : decode cL_law 766 = .ok (.aload_n 0, 1) := by decide +kernel
theorem dL_law_767 : decode cL_law 767 = .ok (.iload_n 3, 1) := by decide +kernel
theorem dL_law_768 : decode cL_law 768 = .ok (.iconst 5, 1) := by decide +kernel
theorem dL_law_769 : decode cL_law 769 = .ok (.iadd, 1) := by decide +kernel
theorem dL_law_770 : decode cL_law 770 = .ok (.iaload, 1) := by decide +kernel
theorem dL_law_771 : decode cL_law 771 = .ok (.invokevirtual 79, 3) := by decide +kernel
theorem dL_law_774 : decode cL_law 774 = .ok (.if_icmp .eq 369, 3) := by decide +kernel
theorem dL_law_777 : decode cL_law 777 = .ok (.iconst 0, 1) := by decide +kernel
theorem dL_law_778 : decode cL_law 778 = .ok (.ireturn, 1) := by decide +kernel
theorem dL_law_779 : decode cL_law 779 = .ok (.aload_n 1, 1) := by decide +kernel
theorem dL_law_780 : decode cL_law 780 = .ok (.aload_n 0, 1) := by decide +kernel
theorem dL_law_781 : decode cL_law 781 = .ok (.iload_n 3, 1) := by decide +kernel
theorem dL_law_782 : decode cL_law 782 = .ok (.iconst 1, 1) := by decide +kernel
theorem dL_law_783 : decode cL_law 783 = .ok (.iadd, 1) := by decide +kernel
theorem dL_law_784 : decode cL_law 784 = .ok (.iaload, 1) := by decide +kernel
theorem dL_law_785 : decode cL_law 785 = .ok (.aload_n 0, 1) := by decide +kernel
theorem dL_law_786 : decode cL_law 786 = .ok (.iload_n 3, 1) := by decide +kernel
theorem dL_law_787 : decode cL_law 787 = .ok (.iconst 2, 1) := by decide +kernel
theorem dL_law_788 : decode cL_law 788 = .ok (.iadd, 1) := by decide +kernel
theorem dL_law_789 : decode cL_law 789 = .ok (.iaload, 1) := by decide +kernel
theorem dL_law_790 : decode cL_law 790 = .ok (.aload_n 0, 1) := by decide +kernel
theorem dL_law_791 : decode cL_law 791 = .ok (.iload_n 3, 1) := by decide +kernel
theorem dL_law_792 : decode cL_law 792 = .ok (.iconst 3, 1) := by decide +kernel
theorem dL_law_793 : decode cL_law 793 = .ok (.iadd, 1) := by decide +kernel
theorem dL_law_794 : decode cL_law 794 = .ok (.iaload, 1) := by decide +kernel
theorem dL_law_795 : decode cL_law 795 = .ok (.invokevirtual 80, 3) := by decide +kernel
theorem dL_law_798 : decode cL_law 798 = .ok (.aload_n 2, 1) := by decide +kernel
theorem dL_law_799 : decode cL_law 799 = .ok (.aload_n 0, 1) := by decide +kernel
theorem dL_law_800 : decode cL_law 800 = .ok (.iload_n 3, 1) := by decide +kernel
theorem dL_law_801 : decode cL_law 801 = .ok (.iconst 1, 1) := by decide +kernel
theorem dL_law_802 : decode cL_law 802 = .ok (.iadd, 1) := by decide +kernel
theorem dL_law_803 : decode cL_law 803 = .ok (.iaload, 1) := by decide +kernel
theorem dL_law_804 : decode cL_law 804 = .ok (.aload_n 0, 1) := by decide +kernel
theorem dL_law_805 : decode cL_law 805 = .ok (.iload_n 3, 1) := by decide +kernel
theorem dL_law_806 : decode cL_law 806 = .ok (.iconst 2, 1) := by decide +kernel
theorem dL_law_807 : decode cL_law 807 = .ok (.iadd, 1) := by decide +kernel
theorem dL_law_808 : decode cL_law 808 = .ok (.iaload, 1) := by decide +kernel
theorem dL_law_809 : decode cL_law 809 = .ok (.aload_n 0, 1) := by decide +kernel
theorem dL_law_810 : decode cL_law 810 = .ok (.iload_n 3, 1) := by decide +kernel
theorem dL_law_811 : decode cL_law 811 = .ok (.iconst 3, 1) := by decide +kernel
theorem dL_law_812 : decode cL_law 812 = .ok (.iadd, 1) := by decide +kernel
theorem dL_law_813 : decode cL_law 813 = .ok (.iaload, 1) := by decide +kernel
theorem dL_law_814 : decode cL_law 814 = .ok (.invokevirtual 83, 3) := by decide +kernel
theorem dL_law_817 : decode cL_law 817 = .ok (.if_icmp .eq 326, 3) := by decide +kernel
theorem dL_law_820 : decode cL_law 820 = .ok (.iconst 0, 1) := by decide +kernel
theorem dL_law_821 : decode cL_law 821 = .ok (.ireturn, 1) := by decide +kernel
theorem dL_law_822 : decode cL_law 822 = .ok (.aload_n 1, 1) := by decide +kernel
theorem dL_law_823 : decode cL_law 823 = .ok (.aload_n 0, 1) := by decide +kernel
theorem dL_law_824 : decode cL_law 824 = .ok (.iload_n 3, 1) := by decide +kernel
theorem dL_law_825 : decode cL_law 825 = .ok (.iconst 1, 1) := by decide +kernel
theorem dL_law_826 : decode cL_law 826 = .ok (.iadd, 1) := by decide +kernel
theorem dL_law_827 : decode cL_law 827 = .ok (.iaload, 1) := by decide +kernel
theorem dL_law_828 : decode cL_law 828 = .ok (.aload_n 0, 1) := by decide +kernel
theorem dL_law_829 : decode cL_law 829 = .ok (.iload_n 3, 1) := by decide +kernel
theorem dL_law_830 : decode cL_law 830 = .ok (.iconst 2, 1) := by decide +kernel
theorem dL_law_831 : decode cL_law 831 = .ok (.iadd, 1) := by decide +kernel
theorem dL_law_832 : decode cL_law 832 = .ok (.iaload, 1) := by decide +kernel
theorem dL_law_833 : decode cL_law 833 = .ok (.aload_n 0, 1) := by decide +kernel
theorem dL_law_834 : decode cL_law 834 = .ok (.iload_n 3, 1) := by decide +kernel
theorem dL_law_835 : decode cL_law 835 = .ok (.iconst 3, 1) := by decide +kernel
theorem dL_law_836 : decode cL_law 836 = .ok (.iadd, 1) := by decide +kernel
theorem dL_law_837 : decode cL_law 837 = .ok (.iaload, 1) := by decide +kernel
theorem dL_law_838 : decode cL_law 838 = .ok (.invokevirtual 84, 3) := by decide +kernel
theorem dL_law_841 : decode cL_law 841 = .ok (.aload_n 2, 1) := by decide +kernel
theorem dL_law_842 : decode cL_law 842 = .ok (.aload_n 0, 1) := by decide +kernel
theorem dL_law_843 : decode cL_law 843 = .ok (.iload_n 3, 1) := by decide +kernel
theorem dL_law_844 : decode cL_law 844 = .ok (.iconst 1, 1) := by decide +kernel
theorem dL_law_845 : decode cL_law 845 = .ok (.iadd, 1) := by decide +kernel
theorem dL_law_846 : decode cL_law 846 = .ok (.iaload, 1) := by decide +kernel
theorem dL_law_847 : decode cL_law 847 = .ok (.aload_n 0, 1) := by decide +kernel
theorem dL_law_848 : decode cL_law 848 = .ok (.iload_n 3, 1) := by decide +kernel
theorem dL_law_849 : decode cL_law 849 = .ok (.iconst 2, 1) := by decide +kernel
theorem dL_law_850 : decode cL_law 850 = .ok (.iadd, 1) := by decide +kernel
theorem dL_law_851 : decode cL_law 851 = .ok (.iaload, 1) := by decide +kernel
theorem dL_law_852 : decode cL_law 852 = .ok (.aload_n 0, 1) := by decide +kernel
theorem dL_law_853 : decode cL_law 853 = .ok (.iload_n 3, 1) := by decide +kernel
theorem dL_law_854 : decode cL_law 854 = .ok (.iconst 3, 1) := by decide +kernel
theorem dL_law_855 : decode cL_law 855 = .ok (.iadd, 1) := by decide +kernel
theorem dL_law_856 : decode cL_law 856 = .ok (.iaload, 1) := by decide +kernel
theorem dL_law_857 : decode cL_law 857 = .ok (.invokevirtual 87, 3) := by decide +kernel
theorem dL_law_860 : decode cL_law 860 = .ok (.if_icmp .eq 283, 3) := by decide +kernel
theorem dL_law_863 : decode cL_law 863 = .ok (.iconst 0, 1) := by decide +kernel
theorem dL_law_864 : decode cL_law 864 = .ok (.ireturn, 1) := by decide +kernel
theorem dL_law_865 : decode cL_law 865 = .ok (.aload_n 1, 1) := by decide +kernel
theorem dL_law_866 : decode cL_law 866 = .ok (.aload_n 0, 1) := by decide +kernel
theorem dL_law_867 : decode cL_law 867 = .ok (.iload_n 3, 1) := by decide +kernel
theorem dL_law_868 : decode cL_law 868 = .ok (.iconst 1, 1) := by decide +kernel
theorem dL_law_869 : decode cL_law 869 = .ok (.iadd, 1) := by decide +kernel
theorem dL_law_870 : decode cL_law 870 = .ok (.iaload, 1) := by decide +kernel
theorem dL_law_871 : decode cL_law 871 = .ok (.aload_n 0, 1) := by decide +kernel
theorem dL_law_872 : decode cL_law 872 = .ok (.iload_n 3, 1) := by decide +kernel
theorem dL_law_873 : decode cL_law 873 = .ok (.iconst 2, 1) := by decide +kernel
theorem dL_law_874 : decode cL_law 874 = .ok (.iadd, 1) := by decide +kernel
theorem dL_law_875 : decode cL_law 875 = .ok (.iaload, 1) := by decide +kernel
theorem dL_law_876 : decode cL_law 876 = .ok (.aload_n 0, 1) := by decide +kernel
theorem dL_law_877 : decode cL_law 877 = .ok (.iload_n 3, 1) := by decide +kernel
theorem dL_law_878 : decode cL_law 878 = .ok (.iconst 3, 1) := by decide +kernel
theorem dL_law_879 : decode cL_law 879 = .ok (.iadd, 1) := by decide +kernel
theorem dL_law_880 : decode cL_law 880 = .ok (.iaload, 1) := by decide +kernel
theorem dL_law_881 : decode cL_law 881 = .ok (.invokevirtual 88, 3) := by decide +kernel
theorem dL_law_884 : decode cL_law 884 = .ok (.aload_n 2, 1) := by decide +kernel
theorem dL_law_885 : decode cL_law 885 = .ok (.aload_n 0, 1) := by decide +kernel
theorem dL_law_886 : decode cL_law 886 = .ok (.iload_n 3, 1) := by decide +kernel
theorem dL_law_887 : decode cL_law 887 = .ok (.iconst 1, 1) := by decide +kernel
theorem dL_law_888 : decode cL_law 888 = .ok (.iadd, 1) := by decide +kernel
theorem dL_law_889 : decode cL_law 889 = .ok (.iaload, 1) := by decide +kernel
theorem dL_law_890 : decode cL_law 890 = .ok (.aload_n 0, 1) := by decide +kernel
theorem dL_law_891 : decode cL_law 891 = .ok (.iload_n 3, 1) := by decide +kernel
theorem dL_law_892 : decode cL_law 892 = .ok (.iconst 2, 1) := by decide +kernel
theorem dL_law_893 : decode cL_law 893 = .ok (.iadd, 1) := by decide +kernel
theorem dL_law_894 : decode cL_law 894 = .ok (.iaload, 1) := by decide +kernel
theorem dL_law_895 : decode cL_law 895 = .ok (.aload_n 0, 1) := by decide +kernel
theorem dL_law_896 : decode cL_law 896 = .ok (.iload_n 3, 1) := by decide +kernel
theorem dL_law_897 : decode cL_law 897 = .ok (.iconst 3, 1) := by decide +kernel
theorem dL_law_898 : decode cL_law 898 = .ok (.iadd, 1) := by decide +kernel
theorem dL_law_899 : decode cL_law 899 = .ok (.iaload, 1) := by decide +kernel
theorem dL_law_900 : decode cL_law 900 = .ok (.invokevirtual 91, 3) := by decide +kernel
theorem dL_law_903 : decode cL_law 903 = .ok (.if_icmp .eq 240, 3) := by decide +kernel
theorem dL_law_906 : decode cL_law 906 = .ok (.iconst 0, 1) := by decide +kernel
theorem dL_law_907 : decode cL_law 907 = .ok (.ireturn, 1) := by decide +kernel
theorem dL_law_908 : decode cL_law 908 = .ok (.aload_n 1, 1) := by decide +kernel
theorem dL_law_909 : decode cL_law 909 = .ok (.aload_n 0, 1) := by decide +kernel
theorem dL_law_910 : decode cL_law 910 = .ok (.iload_n 3, 1) := by decide +kernel
theorem dL_law_911 : decode cL_law 911 = .ok (.iconst 1, 1) := by decide +kernel
theorem dL_law_912 : decode cL_law 912 = .ok (.iadd, 1) := by decide +kernel
theorem dL_law_913 : decode cL_law 913 = .ok (.iaload, 1) := by decide +kernel
theorem dL_law_914 : decode cL_law 914 = .ok (.aload_n 0, 1) := by decide +kernel
theorem dL_law_915 : decode cL_law 915 = .ok (.iload_n 3, 1) := by decide +kernel
theorem dL_law_916 : decode cL_law 916 = .ok (.iconst 2, 1) := by decide +kernel
theorem dL_law_917 : decode cL_law 917 = .ok (.iadd, 1) := by decide +kernel
theorem dL_law_918 : decode cL_law 918 = .ok (.iaload, 1) := by decide +kernel
theorem dL_law_919 : decode cL_law 919 = .ok (.aload_n 0, 1) := by decide +kernel
theorem dL_law_920 : decode cL_law 920 = .ok (.iload_n 3, 1) := by decide +kernel
theorem dL_law_921 : decode cL_law 921 = .ok (.iconst 3, 1) := by decide +kernel
theorem dL_law_922 : decode cL_law 922 = .ok (.iadd, 1) := by decide +kernel
theorem dL_law_923 : decode cL_law 923 = .ok (.iaload, 1) := by decide +kernel
theorem dL_law_924 : decode cL_law 924 = .ok (.aload_n 0, 1) := by decide +kernel
theorem dL_law_925 : decode cL_law 925 = .ok (.iload_n 3, 1) := by decide +kernel
theorem dL_law_926 : decode cL_law 926 = .ok (.iconst 4, 1) := by decide +kernel
theorem dL_law_927 : decode cL_law 927 = .ok (.iadd, 1) := by decide +kernel
theorem dL_law_928 : decode cL_law 928 = .ok (.iaload, 1) := by decide +kernel
theorem dL_law_929 : decode cL_law 929 = .ok (.aload_n 0, 1) := by decide +kernel
theorem dL_law_930 : decode cL_law 930 = .ok (.iload_n 3, 1) := by decide +kernel
theorem dL_law_931 : decode cL_law 931 = .ok (.iconst 5, 1) := by decide +kernel
theorem dL_law_932 : decode cL_law 932 = .ok (.iadd, 1) := by decide +kernel
theorem dL_law_933 : decode cL_law 933 = .ok (.iaload, 1) := by decide +kernel
theorem dL_law_934 : decode cL_law 934 = .ok (.invokevirtual 92, 3) := by decide +kernel
theorem dL_law_937 : decode cL_law 937 = .ok (.aload_n 2, 1) := by decide +kernel
theorem dL_law_938 : decode cL_law 938 = .ok (.aload_n 0, 1) := by decide +kernel
theorem dL_law_939 : decode cL_law 939 = .ok (.iload_n 3, 1) := by decide +kernel
theorem dL_law_940 : decode cL_law 940 = .ok (.iconst 1, 1) := by decide +kernel
theorem dL_law_941 : decode cL_law 941 = .ok (.iadd, 1) := by decide +kernel
theorem dL_law_942 : decode cL_law 942 = .ok (.iaload, 1) := by decide +kernel
theorem dL_law_943 : decode cL_law 943 = .ok (.aload_n 0, 1) := by decide +kernel
theorem dL_law_944 : decode cL_law 944 = .ok (.iload_n 3, 1) := by decide +kernel
theorem dL_law_945 : decode cL_law 945 = .ok (.iconst 2, 1) := by decide +kernel
theorem dL_law_946 : decode cL_law 946 = .ok (.iadd, 1) := by decide +kernel
theorem dL_law_947 : decode cL_law 947 = .ok (.iaload, 1) := by decide +kernel
theorem dL_law_948 : decode cL_law 948 = .ok (.aload_n 0, 1) := by decide +kernel
theorem dL_law_949 : decode cL_law 949 = .ok (.iload_n 3, 1) := by decide +kernel
theorem dL_law_950 : decode cL_law 950 = .ok (.iconst 3, 1) := by decide +kernel
theorem dL_law_951 : decode cL_law 951 = .ok (.iadd, 1) := by decide +kernel
theorem dL_law_952 : decode cL_law 952 = .ok (.iaload, 1) := by decide +kernel
theorem dL_law_953 : decode cL_law 953 = .ok (.aload_n 0, 1) := by decide +kernel
theorem dL_law_954 : decode cL_law 954 = .ok (.iload_n 3, 1) := by decide +kernel
theorem dL_law_955 : decode cL_law 955 = .ok (.iconst 4, 1) := by decide +kernel
theorem dL_law_956 : decode cL_law 956 = .ok (.iadd, 1) := by decide +kernel
theorem dL_law_957 : decode cL_law 957 = .ok (.iaload, 1) := by decide +kernel
theorem dL_law_958 : decode cL_law 958 = .ok (.aload_n 0, 1) := by decide +kernel
theorem dL_law_959 : decode cL_law 959 = .ok (.iload_n 3, 1) := by decide +kernel
theorem dL_law_960 : decode cL_law 960 = .ok (.iconst 5, 1) := by decide +kernel
theorem dL_law_961 : decode cL_law 961 = .ok (.iadd, 1) := by decide +kernel
theorem dL_law_962 : decode cL_law 962 = .ok (.iaload, 1) := by decide +kernel
theorem dL_law_963 : decode cL_law 963 = .ok (.invokevirtual 95, 3) := by decide +kernel
theorem dL_law_966 : decode cL_law 966 = .ok (.if_icmp .eq 177, 3) := by decide +kernel
theorem dL_law_969 : decode cL_law 969 = .ok (.iconst 0, 1) := by decide +kernel
theorem dL_law_970 : decode cL_law 970 = .ok (.ireturn, 1) := by decide +kernel
theorem dL_law_971 : decode cL_law 971 = .ok (.aload_n 1, 1) := by decide +kernel
theorem dL_law_972 : decode cL_law 972 = .ok (.aload_n 0, 1) := by decide +kernel
theorem dL_law_973 : decode cL_law 973 = .ok (.iload_n 3, 1) := by decide +kernel
theorem dL_law_974 : decode cL_law 974 = .ok (.iconst 1, 1) := by decide +kernel
theorem dL_law_975 : decode cL_law 975 = .ok (.iadd, 1) := by decide +kernel
theorem dL_law_976 : decode cL_law 976 = .ok (.iaload, 1) := by decide +kernel
theorem dL_law_977 : decode cL_law 977 = .ok (.aload_n 0, 1) := by decide +kernel
theorem dL_law_978 : decode cL_law 978 = .ok (.iload_n 3, 1) := by decide +kernel
theorem dL_law_979 : decode cL_law 979 = .ok (.iconst 2, 1) := by decide +kernel
theorem dL_law_980 : decode cL_law 980 = .ok (.iadd, 1) := by decide +kernel
theorem dL_law_981 : decode cL_law 981 = .ok (.iaload, 1) := by decide +kernel
theorem dL_law_982 : decode cL_law 982 = .ok (.aload_n 0, 1) := by decide +kernel
theorem dL_law_983 : decode cL_law 983 = .ok (.iload_n 3, 1) := by decide +kernel
theorem dL_law_984 : decode cL_law 984 = .ok (.iconst 3, 1) := by decide +kernel
theorem dL_law_985 : decode cL_law 985 = .ok (.iadd, 1) := by decide +kernel
theorem dL_law_986 : decode cL_law 986 = .ok (.iaload, 1) := by decide +kernel
theorem dL_law_987 : decode cL_law 987 = .ok (.aload_n 0, 1) := by decide +kernel
theorem dL_law_988 : decode cL_law 988 = .ok (.iload_n 3, 1) := by decide +kernel
theorem dL_law_989 : decode cL_law 989 = .ok (.iconst 4, 1) := by decide +kernel
theorem dL_law_990 : decode cL_law 990 = .ok (.iadd, 1) := by decide +kernel
theorem dL_law_991 : decode cL_law 991 = .ok (.iaload, 1) := by decide +kernel
theorem dL_law_992 : decode cL_law 992 = .ok (.invokevirtual 96, 3) := by decide +kernel
theorem dL_law_995 : decode cL_law 995 = .ok (.aload_n 2, 1) := by decide +kernel
theorem dL_law_996 : decode cL_law 996 = .ok (.aload_n 0, 1) := by decide +kernel
theorem dL_law_997 : decode cL_law 997 = .ok (.iload_n 3, 1) := by decide +kernel
theorem dL_law_998 : decode cL_law 998 = .ok (.iconst 1, 1) := by decide +kernel
theorem dL_law_999 : decode cL_law 999 = .ok (.iadd, 1) := by decide +kernel
theorem dL_law_1000 : decode cL_law 1000 = .ok (.iaload, 1) := by decide +kernel
theorem dL_law_1001 : decode cL_law 1001 = .ok (.aload_n 0, 1) := by decide +kernel
theorem dL_law_1002 : decode cL_law 1002 = .ok (.iload_n 3, 1) := by decide +kernel
theorem dL_law_1003 : decode cL_law 1003 = .ok (.iconst 2, 1) := by decide +kernel
theorem dL_law_1004 : decode cL_law 1004 = .ok (.iadd, 1) := by decide +kernel
theorem dL_law_1005 : decode cL_law 1005 = .ok (.iaload, 1) := by decide +kernel
theorem dL_law_1006 : decode cL_law 1006 = .ok (.aload_n 0, 1) := by decide +kernel
theorem dL_law_1007 : decode cL_law 1007 = .ok (.iload_n 3, 1) := by decide +kernel
theorem dL_law_1008 : decode cL_law 1008 = .ok (.iconst 3, 1) := by decide +kernel
theorem dL_law_1009 : decode cL_law 1009 = .ok (.iadd, 1) := by decide +kernel
theorem dL_law_1010 : decode cL_law 1010 = .ok (.iaload, 1) := by decide +kernel
theorem dL_law_1011 : decode cL_law 1011 = .ok (.aload_n 0, 1) := by decide +kernel
theorem dL_law_1012 : decode cL_law 1012 = .ok (.iload_n 3, 1) := by decide +kernel
theorem dL_law_1013 : decode cL_law 1013 = .ok (.iconst 4, 1) := by decide +kernel
theorem dL_law_1014 : decode cL_law 1014 = .ok (.iadd, 1) := by decide +kernel
theorem dL_law_1015 : decode cL_law 1015 = .ok (.iaload, 1) := by decide +kernel
theorem dL_law_1016 : decode cL_law 1016 = .ok (.invokevirtual 99, 3) := by decide +kernel
theorem dL_law_1019 : decode cL_law 1019 = .ok (.if_icmp .eq 124, 3) := by decide +kernel
theorem dL_law_1022 : decode cL_law 1022 = .ok (.iconst 0, 1) := by decide +kernel
theorem dL_law_1023 : decode cL_law 1023 = .ok (.ireturn, 1) := by decide +kernel
theorem dL_law_1024 : decode cL_law 1024 = .ok (.aload_n 1, 1) := by decide +kernel
theorem dL_law_1025 : decode cL_law 1025 = .ok (.aload_n 0, 1) := by decide +kernel
theorem dL_law_1026 : decode cL_law 1026 = .ok (.iload_n 3, 1) := by decide +kernel
theorem dL_law_1027 : decode cL_law 1027 = .ok (.iconst 1, 1) := by decide +kernel
theorem dL_law_1028 : decode cL_law 1028 = .ok (.iadd, 1) := by decide +kernel
theorem dL_law_1029 : decode cL_law 1029 = .ok (.iaload, 1) := by decide +kernel
theorem dL_law_1030 : decode cL_law 1030 = .ok (.aload_n 0, 1) := by decide +kernel
theorem dL_law_1031 : decode cL_law 1031 = .ok (.iload_n 3, 1) := by decide +kernel
theorem dL_law_1032 : decode cL_law 1032 = .ok (.iconst 2, 1) := by decide +kernel
theorem dL_law_1033 : decode cL_law 1033 = .ok (.iadd, 1) := by decide +kernel
theorem dL_law_1034 : decode cL_law 1034 = .ok (.iaload, 1) := by decide +kernel
theorem dL_law_1035 : decode cL_law 1035 = .ok (.aload_n 0, 1) := by decide +kernel
theorem dL_law_1036 : decode cL_law 1036 = .ok (.iload_n 3, 1) := by decide +kernel
theorem dL_law_1037 : decode cL_law 1037 = .ok (.iconst 3, 1) := by decide +kernel
theorem dL_law_1038 : decode cL_law 1038 = .ok (.iadd, 1) := by decide +kernel
theorem dL_law_1039 : decode cL_law 1039 = .ok (.iaload, 1) := by decide +kernel
theorem dL_law_1040 : decode cL_law 1040 = .ok (.invokevirtual 100, 3) := by decide +kernel
theorem dL_law_1043 : decode cL_law 1043 = .ok (.aload_n 2, 1) := by decide +kernel
theorem dL_law_1044 : decode cL_law 1044 = .ok (.aload_n 0, 1) := by decide +kernel
theorem dL_law_1045 : decode cL_law 1045 = .ok (.iload_n 3, 1) := by decide +kernel
theorem dL_law_1046 : decode cL_law 1046 = .ok (.iconst 1, 1) := by decide +kernel
theorem dL_law_1047 : decode cL_law 1047 = .ok (.iadd, 1) := by decide +kernel
theorem dL_law_1048 : decode cL_law 1048 = .ok (.iaload, 1) := by decide +kernel
theorem dL_law_1049 : decode cL_law 1049 = .ok (.aload_n 0, 1) := by decide +kernel
theorem dL_law_1050 : decode cL_law 1050 = .ok (.iload_n 3, 1) := by decide +kernel
theorem dL_law_1051 : decode cL_law 1051 = .ok (.iconst 2, 1) := by decide +kernel
theorem dL_law_1052 : decode cL_law 1052 = .ok (.iadd, 1) := by decide +kernel
theorem dL_law_1053 : decode cL_law 1053 = .ok (.iaload, 1) := by decide +kernel
theorem dL_law_1054 : decode cL_law 1054 = .ok (.aload_n 0, 1) := by decide +kernel
theorem dL_law_1055 : decode cL_law 1055 = .ok (.iload_n 3, 1) := by decide +kernel
theorem dL_law_1056 : decode cL_law 1056 = .ok (.iconst 3, 1) := by decide +kernel
theorem dL_law_1057 : decode cL_law 1057 = .ok (.iadd, 1) := by decide +kernel
theorem dL_law_1058 : decode cL_law 1058 = .ok (.iaload, 1) := by decide +kernel
theorem dL_law_1059 : decode cL_law 1059 = .ok (.invokevirtual 103, 3) := by decide +kernel
theorem dL_law_1062 : decode cL_law 1062 = .ok (.if_icmp .eq 81, 3) := by decide +kernel
theorem dL_law_1065 : decode cL_law 1065 = .ok (.iconst 0, 1) := by decide +kernel
theorem dL_law_1066 : decode cL_law 1066 = .ok (.ireturn, 1) := by decide +kernel
theorem dL_law_1067 : decode cL_law 1067 = .ok (.aload_n 1, 1) := by decide +kernel
theorem dL_law_1068 : decode cL_law 1068 = .ok (.aload_n 0, 1) := by decide +kernel
theorem dL_law_1069 : decode cL_law 1069 = .ok (.iload_n 3, 1) := by decide +kernel
theorem dL_law_1070 : decode cL_law 1070 = .ok (.iconst 1, 1) := by decide +kernel
theorem dL_law_1071 : decode cL_law 1071 = .ok (.iadd, 1) := by decide +kernel
theorem dL_law_1072 : decode cL_law 1072 = .ok (.iaload, 1) := by decide +kernel
theorem dL_law_1073 : decode cL_law 1073 = .ok (.aload_n 0, 1) := by decide +kernel
theorem dL_law_1074 : decode cL_law 1074 = .ok (.iload_n 3, 1) := by decide +kernel
theorem dL_law_1075 : decode cL_law 1075 = .ok (.iconst 2, 1) := by decide +kernel
theorem dL_law_1076 : decode cL_law 1076 = .ok (.iadd, 1) := by decide +kernel
theorem dL_law_1077 : decode cL_law 1077 = .ok (.iaload, 1) := by decide +kernel
theorem dL_law_1078 : decode cL_law 1078 = .ok (.aload_n 0, 1) := by decide +kernel
theorem dL_law_1079 : decode cL_law 1079 = .ok (.iload_n 3, 1) := by decide +kernel
theorem dL_law_1080 : decode cL_law 1080 = .ok (.iconst 3, 1) := by decide +kernel
theorem dL_law_1081 : decode cL_law 1081 = .ok (.iadd, 1) := by decide +kernel
theorem dL_law_1082 : decode cL_law 1082 = .ok (.iaload, 1) := by decide +kernel
theorem dL_law_1083 : decode cL_law 1083 = .ok (.aload_n 0, 1) := by decide +kernel
theorem dL_law_1084 : decode cL_law 1084 = .ok (.iload_n 3, 1) := by decide +kernel
theorem dL_law_1085 : decode cL_law 1085 = .ok (.iconst 4, 1) := by decide +kernel
theorem dL_law_1086 : decode cL_law 1086 = .ok (.iadd, 1) := by decide +kernel
theorem dL_law_1087 : decode cL_law 1087 = .ok (.iaload, 1) := by decide +kernel
theorem dL_law_1088 : decode cL_law 1088 = .ok (.invokevirtual 104, 3) := by decide +kernel
theorem dL_law_1091 : decode cL_law 1091 = .ok (.aload_n 2, 1) := by decide +kernel
theorem dL_law_1092 : decode cL_law 1092 = .ok (.aload_n 0, 1) := by decide +kernel
theorem dL_law_1093 : decode cL_law 1093 = .ok (.iload_n 3, 1) := by decide +kernel
theorem dL_law_1094 : decode cL_law 1094 = .ok (.iconst 1, 1) := by decide +kernel
theorem dL_law_1095 : decode cL_law 1095 = .ok (.iadd, 1) := by decide +kernel
theorem dL_law_1096 : decode cL_law 1096 = .ok (.iaload, 1) := by decide +kernel
theorem dL_law_1097 : decode cL_law 1097 = .ok (.aload_n 0, 1) := by decide +kernel
theorem dL_law_1098 : decode cL_law 1098 = .ok (.iload_n 3, 1) := by decide +kernel
theorem dL_law_1099 : decode cL_law 1099 = .ok (.iconst 2, 1) := by decide +kernel
theorem dL_law_1100 : decode cL_law 1100 = .ok (.iadd, 1) := by decide +kernel
theorem dL_law_1101 : decode cL_law 1101 = .ok (.iaload, 1) := by decide +kernel
theorem dL_law_1102 : decode cL_law 1102 = .ok (.aload_n 0, 1) := by decide +kernel
theorem dL_law_1103 : decode cL_law 1103 = .ok (.iload_n 3, 1) := by decide +kernel
theorem dL_law_1104 : decode cL_law 1104 = .ok (.iconst 3, 1) := by decide +kernel
theorem dL_law_1105 : decode cL_law 1105 = .ok (.iadd, 1) := by decide +kernel
theorem dL_law_1106 : decode cL_law 1106 = .ok (.iaload, 1) := by decide +kernel
theorem dL_law_1107 : decode cL_law 1107 = .ok (.aload_n 0, 1) := by decide +kernel
theorem dL_law_1108 : decode cL_law 1108 = .ok (.iload_n 3, 1) := by decide +kernel
theorem dL_law_1109 : decode cL_law 1109 = .ok (.iconst 4, 1) := by decide +kernel
theorem dL_law_1110 : decode cL_law 1110 = .ok (.iadd, 1) := by decide +kernel
theorem dL_law_1111 : decode cL_law 1111 = .ok (.iaload, 1) := by decide +kernel
theorem dL_law_1112 : decode cL_law 1112 = .ok (.invokevirtual 107, 3) := by decide +kernel
theorem dL_law_1115 : decode cL_law 1115 = .ok (.if_icmp .eq 28, 3) := by decide +kernel
theorem dL_law_1118 : decode cL_law 1118 = .ok (.iconst 0, 1) := by decide +kernel
theorem dL_law_1119 : decode cL_law 1119 = .ok (.ireturn, 1) := by decide +kernel
theorem dL_law_1120 : decode cL_law 1120 = .ok (.aload_n 1, 1) := by decide +kernel
theorem dL_law_1121 : decode cL_law 1121 = .ok (.aload_n 0, 1) := by decide +kernel
theorem dL_law_1122 : decode cL_law 1122 = .ok (.iload_n 3, 1) := by decide +kernel
theorem dL_law_1123 : decode cL_law 1123 = .ok (.iconst 1, 1) := by decide +kernel
theorem dL_law_1124 : decode cL_law 1124 = .ok (.iadd, 1) := by decide +kernel
theorem dL_law_1125 : decode cL_law 1125 = .ok (.iaload, 1) := by decide +kernel
theorem dL_law_1126 : decode cL_law 1126 = .ok (.invokevirtual 108, 3) := by decide +kernel
theorem dL_law_1129 : decode cL_law 1129 = .ok (.aload_n 2, 1) := by decide +kernel
theorem dL_law_1130 : decode cL_law 1130 = .ok (.aload_n 0, 1) := by decide +kernel
theorem dL_law_1131 : decode cL_law 1131 = .ok (.iload_n 3, 1) := by decide +kernel
theorem dL_law_1132 : decode cL_law 1132 = .ok (.iconst 1, 1) := by decide +kernel
theorem dL_law_1133 : decode cL_law 1133 = .ok (.iadd, 1) := by decide +kernel
theorem dL_law_1134 : decode cL_law 1134 = .ok (.iaload, 1) := by decide +kernel
theorem dL_law_1135 : decode cL_law 1135 = .ok (.invokevirtual 111, 3) := by decide +kernel
theorem dL_law_1138 : decode cL_law 1138 = .ok (.if_icmp .eq 5, 3) := by decide +kernel
theorem dL_law_1141 : decode cL_law 1141 = .ok (.iconst 0, 1) := by decide +kernel
theorem dL_law_1142 : decode cL_law 1142 = .ok (.ireturn, 1) := by decide +kernel
theorem dL_law_1143 : decode cL_law 1143 = .ok (.iinc 3 7, 3) := by decide +kernel
theorem dL_law_1146 : decode cL_law 1146 = .ok (.goto (-1128), 3) := by decide +kernel
theorem dL_law_1149 : decode cL_law 1149 = .ok (.iconst 1, 1) := by decide +kernel
theorem dL_law_1150 : decode cL_law 1150 = .ok (.ireturn, 1) := by decide +kernel
