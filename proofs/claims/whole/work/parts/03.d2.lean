theorem dX8_far_82 : decode cX8_far 82 = .ok (.iaload, 1) := by decide +kernel
theorem dX8_far_83 : decode cX8_far 83 = .ok (.iload_n 3, 1) := by decide +kernel
theorem dX8_far_84 : decode cX8_far 84 = .ok (.invokestatic 228, 3) := by decide +kernel
theorem dX8_far_87 : decode cX8_far 87 = .ok (.istore 9, 2) := by decide +kernel
theorem dX8_far_89 : decode cX8_far 89 = .ok (.iconst 3, 1) := by decide +kernel
theorem dX8_far_90 : decode cX8_far 90 = .ok (.iload 8, 2) := by decide +kernel
theorem dX8_far_92 : decode cX8_far 92 = .ok (.iload 4, 2) := by decide +kernel
theorem dX8_far_94 : decode cX8_far 94 = .ok (.iadd, 1) := by decide +kernel
theorem dX8_far_95 : decode cX8_far 95 = .ok (.invokestatic 231, 3) := by decide +kernel
theorem dX8_far_98 : decode cX8_far 98 = .ok (.istore 10, 2) := by decide +kernel
theorem dX8_far_100 : decode cX8_far 100 = .ok (.iload 8, 2) := by decide +kernel
theorem dX8_far_102 : decode cX8_far 102 = .ok (.iconst 1, 1) := by decide +kernel
theorem dX8_far_103 : decode cX8_far 103 = .ok (.iadd, 1) := by decide +kernel
theorem dX8_far_104 : decode cX8_far 104 = .ok (.istore 11, 2) := by decide +kernel
theorem dX8_far_106 : decode cX8_far 106 = .ok (.iload 11, 2) := by decide +kernel
theorem dX8_far_108 : decode cX8_far 108 = .ok (.iload 10, 2) := by decide +kernel
theorem dX8_far_110 : decode cX8_far 110 = .ok (.if_icmp .gt 48, 3) := by decide +kernel
theorem dX8_far_113 : decode cX8_far 113 = .ok (.iload 7, 2) := by decide +kernel
theorem dX8_far_115 : decode cX8_far 115 = .ok (.iload_n 2, 1) := by decide +kernel
theorem dX8_far_116 : decode cX8_far 116 = .ok (.iload 11, 2) := by decide +kernel
theorem dX8_far_118 : decode cX8_far 118 = .ok (.invokestatic 236, 3) := by decide +kernel
theorem dX8_far_121 : decode cX8_far 121 = .ok (.istore 12, 2) := by decide +kernel
theorem dX8_far_123 : decode cX8_far 123 = .ok (.aload 5, 2) := by decide +kernel
theorem dX8_far_125 : decode cX8_far 125 = .ok (.getfield 115, 3) := by decide +kernel
theorem dX8_far_128 : decode cX8_far 128 = .ok (.iload 12, 2) := by decide +kernel
theorem dX8_far_130 : decode cX8_far 130 = .ok (.iaload, 1) := by decide +kernel
theorem dX8_far_131 : decode cX8_far 131 = .ok (.iload_n 3, 1) := by decide +kernel
theorem dX8_far_132 : decode cX8_far 132 = .ok (.invokestatic 228, 3) := by decide +kernel
theorem dX8_far_135 : decode cX8_far 135 = .ok (.istore 13, 2) := by decide +kernel
theorem dX8_far_137 : decode cX8_far 137 = .ok (.iload 6, 2) := by decide +kernel
theorem dX8_far_139 : decode cX8_far 139 = .ok (.iload 9, 2) := by decide +kernel
theorem dX8_far_141 : decode cX8_far 141 = .ok (.iload 13, 2) := by decide +kernel
theorem dX8_far_143 : decode cX8_far 143 = .ok (.isub, 1) := by decide +kernel
theorem dX8_far_144 : decode cX8_far 144 = .ok (.invokestatic 239, 3) := by decide +kernel
theorem dX8_far_147 : decode cX8_far 147 = .ok (.invokestatic 242, 3) := by decide +kernel
theorem dX8_far_150 : decode cX8_far 150 = .ok (.istore 6, 2) := by decide +kernel
theorem dX8_far_152 : decode cX8_far 152 = .ok (.iinc 11 1, 3) := by decide +kernel
theorem dX8_far_155 : decode cX8_far 155 = .ok (.goto (-49), 3) := by decide +kernel
theorem dX8_far_158 : decode cX8_far 158 = .ok (.iinc 7 1, 3) := by decide +kernel
theorem dX8_far_161 : decode cX8_far 161 = .ok (.goto (-102), 3) := by decide +kernel
theorem dX8_far_164 : decode cX8_far 164 = .ok (.iload 6, 2) := by decide +kernel
theorem dX8_far_166 : decode cX8_far 166 = .ok (.ireturn, 1) := by decide +kernel
theorem dX8_changed_0 : decode cX8_changed 0 = .ok (.iload_n 1, 1) := by decide +kernel
theorem dX8_changed_1 : decode cX8_changed 1 = .ok (.invokestatic 73, 3) := by decide +kernel
theorem dX8_changed_4 : decode cX8_changed 4 = .ok (.ifCond .eq 10, 3) := by decide +kernel
theorem dX8_changed_7 : decode cX8_changed 7 = .ok (.iload_n 2, 1) := by decide +kernel
theorem dX8_changed_8 : decode cX8_changed 8 = .ok (.invokestatic 73, 3) := by decide +kernel
theorem dX8_changed_11 : decode cX8_changed 11 = .ok (.ifCond .ne 5, 3) := by decide +kernel
theorem dX8_changed_14 : decode cX8_changed 14 = .ok (.iconst (-1), 1) := by decide +kernel
theorem dX8_changed_15 : decode cX8_changed 15 = .ok (.ireturn, 1) := by decide +kernel
theorem dX8_changed_16 : decode cX8_changed 16 = .ok (.iload_n 3, 1) := by decide +kernel
theorem dX8_changed_17 : decode cX8_changed 17 = .ok (.iconst 2, 1) := by decide +kernel
theorem dX8_changed_18 : decode cX8_changed 18 = .ok (.invokestatic 99, 3) := by decide +kernel
theorem dX8_changed_21 : decode cX8_changed 21 = .ok (.ifCond .ne 6, 3) := by decide +kernel
theorem dX8_changed_24 : decode cX8_changed 24 = .ok (.bipush (-2), 2) := by decide +kernel
theorem dX8_changed_26 : decode cX8_changed 26 = .ok (.ireturn, 1) := by decide +kernel
theorem dX8_changed_27 : decode cX8_changed 27 = .ok (.aload_n 0, 1) := by decide +kernel
theorem dX8_changed_28 : decode cX8_changed 28 = .ok (.getfield 14, 3) := by decide +kernel
theorem dX8_changed_31 : decode cX8_changed 31 = .ok (.iload_n 1, 1) := by decide +kernel
theorem dX8_changed_32 : decode cX8_changed 32 = .ok (.aaload, 1) := by decide +kernel
theorem dX8_changed_33 : decode cX8_changed 33 = .ok (.astore 4, 2) := by decide +kernel
theorem dX8_changed_35 : decode cX8_changed 35 = .ok (.aload_n 0, 1) := by decide +kernel
theorem dX8_changed_36 : decode cX8_changed 36 = .ok (.getfield 14, 3) := by decide +kernel
theorem dX8_changed_39 : decode cX8_changed 39 = .ok (.iload_n 2, 1) := by decide +kernel
theorem dX8_changed_40 : decode cX8_changed 40 = .ok (.aaload, 1) := by decide +kernel
theorem dX8_changed_41 : decode cX8_changed 41 = .ok (.astore 5, 2) := by decide +kernel
theorem dX8_changed_43 : decode cX8_changed 43 = .ok (.iload_n 3, 1) := by decide +kernel
theorem dX8_changed_44 : decode cX8_changed 44 = .ok (.iconst 2, 1) := by decide +kernel
theorem dX8_changed_45 : decode cX8_changed 45 = .ok (.if_icmp .ne 11, 3) := by decide +kernel
theorem dX8_changed_48 : decode cX8_changed 48 = .ok (.aload 4, 2) := by decide +kernel
theorem dX8_changed_50 : decode cX8_changed 50 = .ok (.aload 5, 2) := by decide +kernel
theorem dX8_changed_52 : decode cX8_changed 52 = .ok (.invokevirtual 245, 3) := by decide +kernel
theorem dX8_changed_55 : decode cX8_changed 55 = .ok (.ireturn, 1) := by decide +kernel
theorem dX8_changed_56 : decode cX8_changed 56 = .ok (.aload 4, 2) := by decide +kernel
theorem dX8_changed_58 : decode cX8_changed 58 = .ok (.invokevirtual 225, 3) := by decide +kernel
theorem dX8_changed_61 : decode cX8_changed 61 = .ok (.aload 5, 2) := by decide +kernel
theorem dX8_changed_63 : decode cX8_changed 63 = .ok (.invokevirtual 225, 3) := by decide +kernel
theorem dX8_changed_66 : decode cX8_changed 66 = .ok (.iconst 0, 1) := by decide +kernel
theorem dX8_changed_67 : decode cX8_changed 67 = .ok (.istore 6, 2) := by decide +kernel
theorem dX8_changed_69 : decode cX8_changed 69 = .ok (.bipush (-6), 2) := by decide +kernel
theorem dX8_changed_71 : decode cX8_changed 71 = .ok (.istore 7, 2) := by decide +kernel
theorem dX8_changed_73 : decode cX8_changed 73 = .ok (.iconst 0, 1) := by decide +kernel
theorem dX8_changed_74 : decode cX8_changed 74 = .ok (.istore 8, 2) := by decide +kernel
theorem dX8_changed_76 : decode cX8_changed 76 = .ok (.iload 8, 2) := by decide +kernel
theorem dX8_changed_78 : decode cX8_changed 78 = .ok (.sipush 256, 3) := by decide +kernel
theorem dX8_changed_81 : decode cX8_changed 81 = .ok (.if_icmp .ge 77, 3) := by decide +kernel
theorem dX8_changed_84 : decode cX8_changed 84 = .ok (.aload 4, 2) := by decide +kernel
theorem dX8_changed_86 : decode cX8_changed 86 = .ok (.getfield 249, 3) := by decide +kernel
theorem dX8_changed_89 : decode cX8_changed 89 = .ok (.iload 8, 2) := by decide +kernel
theorem dX8_changed_91 : decode cX8_changed 91 = .ok (.laload, 1) := by decide +kernel
theorem dX8_changed_92 : decode cX8_changed 92 = .ok (.aload 5, 2) := by decide +kernel
theorem dX8_changed_94 : decode cX8_changed 94 = .ok (.getfield 249, 3) := by decide +kernel
theorem dX8_changed_97 : decode cX8_changed 97 = .ok (.iload 8, 2) := by decide +kernel
theorem dX8_changed_99 : decode cX8_changed 99 = .ok (.laload, 1) := by decide +kernel
theorem dX8_changed_100 : decode cX8_changed 100 = .ok (.lxor, 1) := by decide +kernel
theorem dX8_changed_101 : decode cX8_changed 101 = .ok (.ldc2_w 253, 3) := by decide +kernel
theorem dX8_changed_104 : decode cX8_changed 104 = .ok (.land, 1) := by decide +kernel
theorem dX8_changed_105 : decode cX8_changed 105 = .ok (.lstore 9, 2) := by decide +kernel
theorem dX8_changed_107 : decode cX8_changed 107 = .ok (.lload 9, 2) := by decide +kernel
theorem dX8_changed_109 : decode cX8_changed 109 = .ok (.lconst 0, 1) := by decide +kernel
theorem dX8_changed_110 : decode cX8_changed 110 = .ok (.lcmp, 1) := by decide +kernel
theorem dX8_changed_111 : decode cX8_changed 111 = .ok (.ifCond .ne 22, 3) := by decide +kernel
theorem dX8_changed_114 : decode cX8_changed 114 = .ok (.aload 4, 2) := by decide +kernel
theorem dX8_changed_116 : decode cX8_changed 116 = .ok (.getfield 115, 3) := by decide +kernel
theorem dX8_changed_119 : decode cX8_changed 119 = .ok (.iload 8, 2) := by decide +kernel
theorem dX8_changed_121 : decode cX8_changed 121 = .ok (.iaload, 1) := by decide +kernel
theorem dX8_changed_122 : decode cX8_changed 122 = .ok (.aload 5, 2) := by decide +kernel
theorem dX8_changed_124 : decode cX8_changed 124 = .ok (.getfield 115, 3) := by decide +kernel
theorem dX8_changed_127 : decode cX8_changed 127 = .ok (.iload 8, 2) := by decide +kernel
theorem dX8_changed_129 : decode cX8_changed 129 = .ok (.iaload, 1) := by decide +kernel
theorem dX8_changed_130 : decode cX8_changed 130 = .ok (.if_icmp .eq 22, 3) := by decide +kernel
theorem dX8_changed_133 : decode cX8_changed 133 = .ok (.iinc 6 1, 3) := by decide +kernel
theorem dX8_changed_136 : decode cX8_changed 136 = .ok (.iload 7, 2) := by decide +kernel
theorem dX8_changed_138 : decode cX8_changed 138 = .ok (.bipush (-6), 2) := by decide +kernel
theorem dX8_changed_140 : decode cX8_changed 140 = .ok (.if_icmp .ne 8, 3) := by decide +kernel
theorem dX8_changed_143 : decode cX8_changed 143 = .ok (.iload 8, 2) := by decide +kernel
theorem dX8_changed_145 : decode cX8_changed 145 = .ok (.goto 5, 3) := by decide +kernel
theorem dX8_changed_148 : decode cX8_changed 148 = .ok (.iload 7, 2) := by decide +kernel
theorem dX8_changed_150 : decode cX8_changed 150 = .ok (.istore 7, 2) := by decide +kernel
theorem dX8_changed_152 : decode cX8_changed 152 = .ok (.iinc 8 1, 3) := by decide +kernel
theorem dX8_changed_155 : decode cX8_changed 155 = .ok (.goto (-79), 3) := by decide +kernel
theorem dX8_changed_158 : decode cX8_changed 158 = .ok (.iload_n 3, 1) := by decide +kernel
theorem dX8_changed_159 : decode cX8_changed 159 = .ok (.ifCond .ne 8, 3) := by decide +kernel
theorem dX8_changed_162 : decode cX8_changed 162 = .ok (.iload 6, 2) := by decide +kernel
theorem dX8_changed_164 : decode cX8_changed 164 = .ok (.goto 5, 3) := by decide +kernel
theorem dX8_changed_167 : decode cX8_changed 167 = .ok (.iload 7, 2) := by decide +kernel
theorem dX8_changed_169 : decode cX8_changed 169 = .ok (.ireturn, 1) := by decide +kernel
theorem dX8_orders_0 : decode cX8_orders 0 = .ok (.iload_n 1, 1) := by decide +kernel
theorem dX8_orders_1 : decode cX8_orders 1 = .ok (.invokestatic 73, 3) := by decide +kernel
theorem dX8_orders_4 : decode cX8_orders 4 = .ok (.ifCond .eq 10, 3) := by decide +kernel
theorem dX8_orders_7 : decode cX8_orders 7 = .ok (.iload_n 2, 1) := by decide +kernel
theorem dX8_orders_8 : decode cX8_orders 8 = .ok (.invokestatic 73, 3) := by decide +kernel
theorem dX8_orders_11 : decode cX8_orders 11 = .ok (.ifCond .ne 5, 3) := by decide +kernel
theorem dX8_orders_14 : decode cX8_orders 14 = .ok (.iconst (-1), 1) := by decide +kernel
theorem dX8_orders_15 : decode cX8_orders 15 = .ok (.ireturn, 1) := by decide +kernel
theorem dX8_orders_16 : decode cX8_orders 16 = .ok (.iload 4, 2) := by decide +kernel
theorem dX8_orders_18 : decode cX8_orders 18 = .ok (.bipush 10, 2) := by decide +kernel
theorem dX8_orders_20 : decode cX8_orders 20 = .ok (.if_icmp .lt 15, 3) := by decide +kernel
theorem dX8_orders_23 : decode cX8_orders 23 = .ok (.iload 4, 2) := by decide +kernel
theorem dX8_orders_25 : decode cX8_orders 25 = .ok (.sipush 266, 3) := by decide +kernel
theorem dX8_orders_28 : decode cX8_orders 28 = .ok (.if_icmp .ge 7, 3) := by decide +kernel
theorem dX8_orders_31 : decode cX8_orders 31 = .ok (.iconst 1, 1) := by decide +kernel
theorem dX8_orders_32 : decode cX8_orders 32 = .ok (.goto 4, 3) := by decide +kernel
theorem dX8_orders_35 : decode cX8_orders 35 = .ok (.iconst 0, 1) := by decide +kernel
theorem dX8_orders_36 : decode cX8_orders 36 = .ok (.istore 5, 2) := by decide +kernel
theorem dX8_orders_38 : decode cX8_orders 38 = .ok (.iload_n 3, 1) := by decide +kernel
theorem dX8_orders_39 : decode cX8_orders 39 = .ok (.invokestatic 106, 3) := by decide +kernel
theorem dX8_orders_42 : decode cX8_orders 42 = .ok (.ifCond .eq 17, 3) := by decide +kernel
theorem dX8_orders_45 : decode cX8_orders 45 = .ok (.iload 4, 2) := by decide +kernel
theorem dX8_orders_47 : decode cX8_orders 47 = .ok (.iconst 1, 1) := by decide +kernel
theorem dX8_orders_48 : decode cX8_orders 48 = .ok (.invokestatic 99, 3) := by decide +kernel
theorem dX8_orders_51 : decode cX8_orders 51 = .ok (.ifCond .ne 11, 3) := by decide +kernel
theorem dX8_orders_54 : decode cX8_orders 54 = .ok (.iload 5, 2) := by decide +kernel
theorem dX8_orders_56 : decode cX8_orders 56 = .ok (.ifCond .ne 6, 3) := by decide +kernel
theorem dX8_orders_59 : decode cX8_orders 59 = .ok (.bipush (-2), 2) := by decide +kernel
theorem dX8_orders_61 : decode cX8_orders 61 = .ok (.ireturn, 1) := by decide +kernel
theorem dX8_orders_62 : decode cX8_orders 62 = .ok (.iload_n 3, 1) := by decide +kernel
theorem dX8_orders_63 : decode cX8_orders 63 = .ok (.iload_n 1, 1) := by decide +kernel
theorem dX8_orders_64 : decode cX8_orders 64 = .ok (.iload_n 2, 1) := by decide +kernel
theorem dX8_orders_65 : decode cX8_orders 65 = .ok (.invokestatic 153, 3) := by decide +kernel
theorem dX8_orders_68 : decode cX8_orders 68 = .ok (.istore 6, 2) := by decide +kernel
theorem dX8_orders_70 : decode cX8_orders 70 = .ok (.aload_n 0, 1) := by decide +kernel
theorem dX8_orders_71 : decode cX8_orders 71 = .ok (.getfield 69, 3) := by decide +kernel
theorem dX8_orders_74 : decode cX8_orders 74 = .ok (.getfield 255, 3) := by decide +kernel
theorem dX8_orders_77 : decode cX8_orders 77 = .ok (.iload 6, 2) := by decide +kernel
theorem dX8_orders_79 : decode cX8_orders 79 = .ok (.if_icmp .eq 32, 3) := by decide +kernel
theorem dX8_orders_82 : decode cX8_orders 82 = .ok (.aload_n 0, 1) := by decide +kernel
theorem dX8_orders_83 : decode cX8_orders 83 = .ok (.getfield 69, 3) := by decide +kernel
theorem dX8_orders_86 : decode cX8_orders 86 = .ok (.aload_n 0, 1) := by decide +kernel
theorem dX8_orders_87 : decode cX8_orders 87 = .ok (.getfield 14, 3) := by decide +kernel
theorem dX8_orders_90 : decode cX8_orders 90 = .ok (.iload_n 1, 1) := by decide +kernel
theorem dX8_orders_91 : decode cX8_orders 91 = .ok (.aaload, 1) := by decide +kernel
theorem dX8_orders_92 : decode cX8_orders 92 = .ok (.aload_n 0, 1) := by decide +kernel
theorem dX8_orders_93 : decode cX8_orders 93 = .ok (.getfield 14, 3) := by decide +kernel
theorem dX8_orders_96 : decode cX8_orders 96 = .ok (.iload_n 2, 1) := by decide +kernel
theorem dX8_orders_97 : decode cX8_orders 97 = .ok (.aaload, 1) := by decide +kernel
theorem dX8_orders_98 : decode cX8_orders 98 = .ok (.iload_n 3, 1) := by decide +kernel
theorem dX8_orders_99 : decode cX8_orders 99 = .ok (.invokevirtual 256, 3) := by decide +kernel
theorem dX8_orders_102 : decode cX8_orders 102 = .ok (.aload_n 0, 1) := by decide +kernel
theorem dX8_orders_103 : decode cX8_orders 103 = .ok (.getfield 69, 3) := by decide +kernel
theorem dX8_orders_106 : decode cX8_orders 106 = .ok (.iload 6, 2) := by decide +kernel
theorem dX8_orders_108 : decode cX8_orders 108 = .ok (.putfield 255, 3) := by decide +kernel
theorem dX8_orders_111 : decode cX8_orders 111 = .ok (.iload 4, 2) := by decide +kernel
theorem dX8_orders_113 : decode cX8_orders 113 = .ok (.lookupswitch 43 #[(0, 27), (1, 35)], 27) := by decide +kernel
theorem dX8_orders_140 : decode cX8_orders 140 = .ok (.aload_n 0, 1) := by decide +kernel
theorem dX8_orders_141 : decode cX8_orders 141 = .ok (.getfield 69, 3) := by decide +kernel
theorem dX8_orders_144 : decode cX8_orders 144 = .ok (.invokevirtual 260, 3) := by decide +kernel
theorem dX8_orders_147 : decode cX8_orders 147 = .ok (.ireturn, 1) := by decide +kernel
theorem dX8_orders_148 : decode cX8_orders 148 = .ok (.aload_n 0, 1) := by decide +kernel
theorem dX8_orders_149 : decode cX8_orders 149 = .ok (.getfield 69, 3) := by decide +kernel
theorem dX8_orders_152 : decode cX8_orders 152 = .ok (.invokevirtual 263, 3) := by decide +kernel
theorem dX8_orders_155 : decode cX8_orders 155 = .ok (.ireturn, 1) := by decide +kernel
theorem dX8_orders_156 : decode cX8_orders 156 = .ok (.aload_n 0, 1) := by decide +kernel
theorem dX8_orders_157 : decode cX8_orders 157 = .ok (.getfield 69, 3) := by decide +kernel
theorem dX8_orders_160 : decode cX8_orders 160 = .ok (.iload 4, 2) := by decide +kernel
theorem dX8_orders_162 : decode cX8_orders 162 = .ok (.bipush 10, 2) := by decide +kernel
theorem dX8_orders_164 : decode cX8_orders 164 = .ok (.isub, 1) := by decide +kernel
theorem dX8_orders_165 : decode cX8_orders 165 = .ok (.invokevirtual 266, 3) := by decide +kernel
theorem dX8_orders_168 : decode cX8_orders 168 = .ok (.ifCond .eq 7, 3) := by decide +kernel
theorem dX8_orders_171 : decode cX8_orders 171 = .ok (.iconst 1, 1) := by decide +kernel
theorem dX8_orders_172 : decode cX8_orders 172 = .ok (.goto 4, 3) := by decide +kernel
theorem dX8_orders_175 : decode cX8_orders 175 = .ok (.iconst 0, 1) := by decide +kernel
theorem dX8_orders_176 : decode cX8_orders 176 = .ok (.ireturn, 1) := by decide +kernel
theorem dX8_told_0 : decode cX8_told 0 = .ok (.iload_n 1, 1) := by decide +kernel
theorem dX8_told_1 : decode cX8_told 1 = .ok (.ifCond .ne 8, 3) := by decide +kernel
theorem dX8_told_4 : decode cX8_told 4 = .ok (.aload_n 0, 1) := by decide +kernel
theorem dX8_told_5 : decode cX8_told 5 = .ok (.getfield 28, 3) := by decide +kernel
theorem dX8_told_8 : decode cX8_told 8 = .ok (.ireturn, 1) := by decide +kernel
theorem dX8_told_9 : decode cX8_told 9 = .ok (.iload_n 1, 1) := by decide +kernel
theorem dX8_told_10 : decode cX8_told 10 = .ok (.iconst 1, 1) := by decide +kernel
theorem dX8_told_11 : decode cX8_told 11 = .ok (.if_icmp .ne 11, 3) := by decide +kernel
theorem dX8_told_14 : decode cX8_told 14 = .ok (.aload_n 0, 1) := by decide +kernel
theorem dX8_told_15 : decode cX8_told 15 = .ok (.getfield 32, 3) := by decide +kernel
theorem dX8_told_18 : decode cX8_told 18 = .ok (.getfield 128, 3) := by decide +kernel
theorem dX8_told_21 : decode cX8_told 21 = .ok (.ireturn, 1) := by decide +kernel
theorem dX8_told_22 : decode cX8_told 22 = .ok (.iload_n 1, 1) := by decide +kernel
theorem dX8_told_23 : decode cX8_told 23 = .ok (.bipush 10, 2) := by decide +kernel
theorem dX8_told_25 : decode cX8_told 25 = .ok (.isub, 1) := by decide +kernel
theorem dX8_told_26 : decode cX8_told 26 = .ok (.invokestatic 73, 3) := by decide +kernel
theorem dX8_told_29 : decode cX8_told 29 = .ok (.ifCond .eq 16, 3) := by decide +kernel
theorem dX8_told_32 : decode cX8_told 32 = .ok (.aload_n 0, 1) := by decide +kernel
theorem dX8_told_33 : decode cX8_told 33 = .ok (.getfield 14, 3) := by decide +kernel
theorem dX8_told_36 : decode cX8_told 36 = .ok (.iload_n 1, 1) := by decide +kernel
theorem dX8_told_37 : decode cX8_told 37 = .ok (.bipush 10, 2) := by decide +kernel
theorem dX8_told_39 : decode cX8_told 39 = .ok (.isub, 1) := by decide +kernel
theorem dX8_told_40 : decode cX8_told 40 = .ok (.aaload, 1) := by decide +kernel
theorem dX8_told_41 : decode cX8_told 41 = .ok (.getfield 81, 3) := by decide +kernel
theorem dX8_told_44 : decode cX8_told 44 = .ok (.ireturn, 1) := by decide +kernel
theorem dX8_told_45 : decode cX8_told 45 = .ok (.iload_n 1, 1) := by decide +kernel
theorem dX8_told_46 : decode cX8_told 46 = .ok (.bipush 20, 2) := by decide +kernel
theorem dX8_told_48 : decode cX8_told 48 = .ok (.isub, 1) := by decide +kernel
theorem dX8_told_49 : decode cX8_told 49 = .ok (.invokestatic 73, 3) := by decide +kernel
theorem dX8_told_52 : decode cX8_told 52 = .ok (.ifCond .eq 16, 3) := by decide +kernel
theorem dX8_told_55 : decode cX8_told 55 = .ok (.aload_n 0, 1) := by decide +kernel
theorem dX8_told_56 : decode cX8_told 56 = .ok (.getfield 14, 3) := by decide +kernel
theorem dX8_told_59 : decode cX8_told 59 = .ok (.iload_n 1, 1) := by decide +kernel
theorem dX8_told_60 : decode cX8_told 60 = .ok (.bipush 20, 2) := by decide +kernel
theorem dX8_told_62 : decode cX8_told 62 = .ok (.isub, 1) := by decide +kernel
theorem dX8_told_63 : decode cX8_told 63 = .ok (.aaload, 1) := by decide +kernel
theorem dX8_told_64 : decode cX8_told 64 = .ok (.getfield 103, 3) := by decide +kernel
theorem dX8_told_67 : decode cX8_told 67 = .ok (.ireturn, 1) := by decide +kernel
theorem dX8_told_68 : decode cX8_told 68 = .ok (.bipush (-2), 2) := by decide +kernel
theorem dX8_told_70 : decode cX8_told 70 = .ok (.ireturn, 1) := by decide +kernel
theorem dX8_isWithin_0 : decode cX8_isWithin 0 = .ok (.iload_n 0, 1) := by decide +kernel
theorem dX8_isWithin_1 : decode cX8_isWithin 1 = .ok (.ifCond .lt 12, 3) := by decide +kernel
theorem dX8_isWithin_4 : decode cX8_isWithin 4 = .ok (.iload_n 0, 1) := by decide +kernel
theorem dX8_isWithin_5 : decode cX8_isWithin 5 = .ok (.iload_n 1, 1) := by decide +kernel
theorem dX8_isWithin_6 : decode cX8_isWithin 6 = .ok (.if_icmp .gt 7, 3) := by decide +kernel
theorem dX8_isWithin_9 : decode cX8_isWithin 9 = .ok (.iconst 1, 1) := by decide +kernel
theorem dX8_isWithin_10 : decode cX8_isWithin 10 = .ok (.goto 4, 3) := by decide +kernel
theorem dX8_isWithin_13 : decode cX8_isWithin 13 = .ok (.iconst 0, 1) := by decide +kernel
theorem dX8_isWithin_14 : decode cX8_isWithin 14 = .ok (.ireturn, 1) := by decide +kernel
theorem dX8_isProgram_0 : decode cX8_isProgram 0 = .ok (.iload_n 0, 1) := by decide +kernel
theorem dX8_isProgram_1 : decode cX8_isProgram 1 = .ok (.iconst 3, 1) := by decide +kernel
theorem dX8_isProgram_2 : decode cX8_isProgram 2 = .ok (.invokestatic 99, 3) := by decide +kernel
theorem dX8_isProgram_5 : decode cX8_isProgram 5 = .ok (.ireturn, 1) := by decide +kernel
theorem dX8_isMemory_0 : decode cX8_isMemory 0 = .ok (.iload_n 0, 1) := by decide +kernel
theorem dX8_isMemory_1 : decode cX8_isMemory 1 = .ok (.sipush 255, 3) := by decide +kernel
theorem dX8_isMemory_4 : decode cX8_isMemory 4 = .ok (.invokestatic 99, 3) := by decide +kernel
theorem dX8_isMemory_7 : decode cX8_isMemory 7 = .ok (.ireturn, 1) := by decide +kernel
theorem dX8_isSaying_0 : decode cX8_isSaying 0 = .ok (.iload_n 1, 1) := by decide +kernel
theorem dX8_isSaying_1 : decode cX8_isSaying 1 = .ok (.aload_n 0, 1) := by decide +kernel
theorem dX8_isSaying_2 : decode cX8_isSaying 2 = .ok (.getfield 28, 3) := by decide +kernel
theorem dX8_isSaying_5 : decode cX8_isSaying 5 = .ok (.iconst 1, 1) := by decide +kernel
theorem dX8_isSaying_6 : decode cX8_isSaying 6 = .ok (.isub, 1) := by decide +kernel
theorem dX8_isSaying_7 : decode cX8_isSaying 7 = .ok (.invokestatic 99, 3) := by decide +kernel
theorem dX8_isSaying_10 : decode cX8_isSaying 10 = .ok (.ireturn, 1) := by decide +kernel
theorem dX8_isAct_0 : decode cX8_isAct 0 = .ok (.iload_n 0, 1) := by decide +kernel
theorem dX8_isAct_1 : decode cX8_isAct 1 = .ok (.tableswitch 170 0 7 #[47, 47, 73, 73, 73, 103, 130, 152], 47) := by decide +kernel
theorem dX8_isAct_48 : decode cX8_isAct 48 = .ok (.iload_n 1, 1) := by decide +kernel
theorem dX8_isAct_49 : decode cX8_isAct 49 = .ok (.iconst 3, 1) := by decide +kernel
theorem dX8_isAct_50 : decode cX8_isAct 50 = .ok (.invokestatic 99, 3) := by decide +kernel
theorem dX8_isAct_53 : decode cX8_isAct 53 = .ok (.ifCond .eq 19, 3) := by decide +kernel
theorem dX8_isAct_56 : decode cX8_isAct 56 = .ok (.iload_n 2, 1) := by decide +kernel
theorem dX8_isAct_57 : decode cX8_isAct 57 = .ok (.iconst 3, 1) := by decide +kernel
theorem dX8_isAct_58 : decode cX8_isAct 58 = .ok (.invokestatic 99, 3) := by decide +kernel
theorem dX8_isAct_61 : decode cX8_isAct 61 = .ok (.ifCond .eq 11, 3) := by decide +kernel
theorem dX8_isAct_64 : decode cX8_isAct 64 = .ok (.iload_n 3, 1) := by decide +kernel
theorem dX8_isAct_65 : decode cX8_isAct 65 = .ok (.ifCond .ne 7, 3) := by decide +kernel
theorem dX8_isAct_68 : decode cX8_isAct 68 = .ok (.iconst 1, 1) := by decide +kernel
theorem dX8_isAct_69 : decode cX8_isAct 69 = .ok (.goto 4, 3) := by decide +kernel
theorem dX8_isAct_72 : decode cX8_isAct 72 = .ok (.iconst 0, 1) := by decide +kernel
theorem dX8_isAct_73 : decode cX8_isAct 73 = .ok (.ireturn, 1) := by decide +kernel
theorem dX8_isAct_74 : decode cX8_isAct 74 = .ok (.iload_n 1, 1) := by decide +kernel
theorem dX8_isAct_75 : decode cX8_isAct 75 = .ok (.iconst 3, 1) := by decide +kernel
theorem dX8_isAct_76 : decode cX8_isAct 76 = .ok (.invokestatic 99, 3) := by decide +kernel
theorem dX8_isAct_79 : decode cX8_isAct 79 = .ok (.ifCond .eq 23, 3) := by decide +kernel
theorem dX8_isAct_82 : decode cX8_isAct 82 = .ok (.iload_n 2, 1) := by decide +kernel
theorem dX8_isAct_83 : decode cX8_isAct 83 = .ok (.iconst 3, 1) := by decide +kernel
theorem dX8_isAct_84 : decode cX8_isAct 84 = .ok (.invokestatic 99, 3) := by decide +kernel
theorem dX8_isAct_87 : decode cX8_isAct 87 = .ok (.ifCond .eq 15, 3) := by decide +kernel
theorem dX8_isAct_90 : decode cX8_isAct 90 = .ok (.iload_n 3, 1) := by decide +kernel
theorem dX8_isAct_91 : decode cX8_isAct 91 = .ok (.iconst 3, 1) := by decide +kernel
theorem dX8_isAct_92 : decode cX8_isAct 92 = .ok (.invokestatic 99, 3) := by decide +kernel
theorem dX8_isAct_95 : decode cX8_isAct 95 = .ok (.ifCond .eq 7, 3) := by decide +kernel
theorem dX8_isAct_98 : decode cX8_isAct 98 = .ok (.iconst 1, 1) := by decide +kernel
theorem dX8_isAct_99 : decode cX8_isAct 99 = .ok (.goto 4, 3) := by decide +kernel
theorem dX8_isAct_102 : decode cX8_isAct 102 = .ok (.iconst 0, 1) := by decide +kernel
theorem dX8_isAct_103 : decode cX8_isAct 103 = .ok (.ireturn, 1) := by decide +kernel
theorem dX8_isAct_104 : decode cX8_isAct 104 = .ok (.iload_n 1, 1) := by decide +kernel
theorem dX8_isAct_105 : decode cX8_isAct 105 = .ok (.iconst 3, 1) := by decide +kernel
theorem dX8_isAct_106 : decode cX8_isAct 106 = .ok (.invokestatic 99, 3) := by decide +kernel
theorem dX8_isAct_109 : decode cX8_isAct 109 = .ok (.ifCond .eq 20, 3) := by decide +kernel
theorem dX8_isAct_112 : decode cX8_isAct 112 = .ok (.iload_n 2, 1) := by decide +kernel
theorem dX8_isAct_113 : decode cX8_isAct 113 = .ok (.bipush 12, 2) := by decide +kernel
theorem dX8_isAct_115 : decode cX8_isAct 115 = .ok (.invokestatic 99, 3) := by decide +kernel
theorem dX8_isAct_118 : decode cX8_isAct 118 = .ok (.ifCond .eq 11, 3) := by decide +kernel
theorem dX8_isAct_121 : decode cX8_isAct 121 = .ok (.iload_n 3, 1) := by decide +kernel
theorem dX8_isAct_122 : decode cX8_isAct 122 = .ok (.ifCond .ne 7, 3) := by decide +kernel
theorem dX8_isAct_125 : decode cX8_isAct 125 = .ok (.iconst 1, 1) := by decide +kernel
theorem dX8_isAct_126 : decode cX8_isAct 126 = .ok (.goto 4, 3) := by decide +kernel
theorem dX8_isAct_129 : decode cX8_isAct 129 = .ok (.iconst 0, 1) := by decide +kernel
theorem dX8_isAct_130 : decode cX8_isAct 130 = .ok (.ireturn, 1) := by decide +kernel
theorem dX8_isAct_131 : decode cX8_isAct 131 = .ok (.iload_n 1, 1) := by decide +kernel
theorem dX8_isAct_132 : decode cX8_isAct 132 = .ok (.iconst 3, 1) := by decide +kernel
theorem dX8_isAct_133 : decode cX8_isAct 133 = .ok (.invokestatic 99, 3) := by decide +kernel
theorem dX8_isAct_136 : decode cX8_isAct 136 = .ok (.ifCond .eq 15, 3) := by decide +kernel
theorem dX8_isAct_139 : decode cX8_isAct 139 = .ok (.iload_n 2, 1) := by decide +kernel
theorem dX8_isAct_140 : decode cX8_isAct 140 = .ok (.ifCond .ne 11, 3) := by decide +kernel
theorem dX8_isAct_143 : decode cX8_isAct 143 = .ok (.iload_n 3, 1) := by decide +kernel
theorem dX8_isAct_144 : decode cX8_isAct 144 = .ok (.ifCond .ne 7, 3) := by decide +kernel
theorem dX8_isAct_147 : decode cX8_isAct 147 = .ok (.iconst 1, 1) := by decide +kernel
theorem dX8_isAct_148 : decode cX8_isAct 148 = .ok (.goto 4, 3) := by decide +kernel
theorem dX8_isAct_151 : decode cX8_isAct 151 = .ok (.iconst 0, 1) := by decide +kernel
theorem dX8_isAct_152 : decode cX8_isAct 152 = .ok (.ireturn, 1) := by decide +kernel
theorem dX8_isAct_153 : decode cX8_isAct 153 = .ok (.iload_n 1, 1) := by decide +kernel
theorem dX8_isAct_154 : decode cX8_isAct 154 = .ok (.ifCond .ne 15, 3) := by decide +kernel
theorem dX8_isAct_157 : decode cX8_isAct 157 = .ok (.iload_n 2, 1) := by decide +kernel
theorem dX8_isAct_158 : decode cX8_isAct 158 = .ok (.ifCond .ne 11, 3) := by decide +kernel
theorem dX8_isAct_161 : decode cX8_isAct 161 = .ok (.iload_n 3, 1) := by decide +kernel
theorem dX8_isAct_162 : decode cX8_isAct 162 = .ok (.ifCond .ne 7, 3) := by decide +kernel
theorem dX8_isAct_165 : decode cX8_isAct 165 = .ok (.iconst 1, 1) := by decide +kernel
theorem dX8_isAct_166 : decode cX8_isAct 166 = .ok (.goto 4, 3) := by decide +kernel
theorem dX8_isAct_169 : decode cX8_isAct 169 = .ok (.iconst 0, 1) := by decide +kernel
theorem dX8_isAct_170 : decode cX8_isAct 170 = .ok (.ireturn, 1) := by decide +kernel
theorem dX8_isAct_171 : decode cX8_isAct 171 = .ok (.iconst 0, 1) := by decide +kernel
theorem dX8_isAct_172 : decode cX8_isAct 172 = .ok (.ireturn, 1) := by decide +kernel
theorem dX8_keyOf_0 : decode cX8_keyOf 0 = .ok (.iload_n 0, 1) := by decide +kernel
theorem dX8_keyOf_1 : decode cX8_keyOf 1 = .ok (.iconst 4, 1) := by decide +kernel
theorem dX8_keyOf_2 : decode cX8_keyOf 2 = .ok (.imul, 1) := by decide +kernel
theorem dX8_keyOf_3 : decode cX8_keyOf 3 = .ok (.iload_n 1, 1) := by decide +kernel
theorem dX8_keyOf_4 : decode cX8_keyOf 4 = .ok (.iadd, 1) := by decide +kernel
theorem dX8_keyOf_5 : decode cX8_keyOf 5 = .ok (.iconst 4, 1) := by decide +kernel
theorem dX8_keyOf_6 : decode cX8_keyOf 6 = .ok (.imul, 1) := by decide +kernel
theorem dX8_keyOf_7 : decode cX8_keyOf 7 = .ok (.iload_n 2, 1) := by decide +kernel
theorem dX8_keyOf_8 : decode cX8_keyOf 8 = .ok (.iadd, 1) := by decide +kernel
theorem dX8_keyOf_9 : decode cX8_keyOf 9 = .ok (.ireturn, 1) := by decide +kernel
theorem dX8_forget_0 : decode cX8_forget 0 = .ok (.aload_n 0, 1) := by decide +kernel
theorem dX8_forget_1 : decode cX8_forget 1 = .ok (.getfield 48, 3) := by decide +kernel
theorem dX8_forget_4 : decode cX8_forget 4 = .ok (.bipush (-6), 2) := by decide +kernel
theorem dX8_forget_6 : decode cX8_forget 6 = .ok (.putfield 157, 3) := by decide +kernel
theorem dX8_forget_9 : decode cX8_forget 9 = .ok (.aload_n 0, 1) := by decide +kernel
theorem dX8_forget_10 : decode cX8_forget 10 = .ok (.getfield 62, 3) := by decide +kernel
theorem dX8_forget_13 : decode cX8_forget 13 = .ok (.bipush (-6), 2) := by decide +kernel
theorem dX8_forget_15 : decode cX8_forget 15 = .ok (.putfield 269, 3) := by decide +kernel
theorem dX8_forget_18 : decode cX8_forget 18 = .ok (.aload_n 0, 1) := by decide +kernel
theorem dX8_forget_19 : decode cX8_forget 19 = .ok (.getfield 69, 3) := by decide +kernel
theorem dX8_forget_22 : decode cX8_forget 22 = .ok (.bipush (-6), 2) := by decide +kernel
theorem dX8_forget_24 : decode cX8_forget 24 = .ok (.putfield 255, 3) := by decide +kernel
theorem dX8_forget_27 : decode cX8_forget 27 = .ok (.return_, 1) := by decide +kernel
theorem dX8_makeWalk_0 : decode cX8_makeWalk 0 = .ok (.iload_n 1, 1) := by decide +kernel
theorem dX8_makeWalk_1 : decode cX8_makeWalk 1 = .ok (.iload_n 2, 1) := by decide +kernel
theorem dX8_makeWalk_2 : decode cX8_makeWalk 2 = .ok (.iload_n 3, 1) := by decide +kernel
theorem dX8_makeWalk_3 : decode cX8_makeWalk 3 = .ok (.invokestatic 153, 3) := by decide +kernel
theorem dX8_makeWalk_6 : decode cX8_makeWalk 6 = .ok (.istore 4, 2) := by decide +kernel
theorem dX8_makeWalk_8 : decode cX8_makeWalk 8 = .ok (.aload_n 0, 1) := by decide +kernel
theorem dX8_makeWalk_9 : decode cX8_makeWalk 9 = .ok (.getfield 62, 3) := by decide +kernel
theorem dX8_makeWalk_12 : decode cX8_makeWalk 12 = .ok (.getfield 269, 3) := by decide +kernel
theorem dX8_makeWalk_15 : decode cX8_makeWalk 15 = .ok (.iload 4, 2) := by decide +kernel
theorem dX8_makeWalk_17 : decode cX8_makeWalk 17 = .ok (.if_icmp .eq 37, 3) := by decide +kernel
theorem dX8_makeWalk_20 : decode cX8_makeWalk 20 = .ok (.aload_n 0, 1) := by decide +kernel
theorem dX8_makeWalk_21 : decode cX8_makeWalk 21 = .ok (.getfield 62, 3) := by decide +kernel
theorem dX8_makeWalk_24 : decode cX8_makeWalk 24 = .ok (.aload_n 0, 1) := by decide +kernel
theorem dX8_makeWalk_25 : decode cX8_makeWalk 25 = .ok (.getfield 23, 3) := by decide +kernel
theorem dX8_makeWalk_28 : decode cX8_makeWalk 28 = .ok (.iload_n 1, 1) := by decide +kernel
theorem dX8_makeWalk_29 : decode cX8_makeWalk 29 = .ok (.aaload, 1) := by decide +kernel
theorem dX8_makeWalk_30 : decode cX8_makeWalk 30 = .ok (.aload_n 0, 1) := by decide +kernel
theorem dX8_makeWalk_31 : decode cX8_makeWalk 31 = .ok (.getfield 14, 3) := by decide +kernel
theorem dX8_makeWalk_34 : decode cX8_makeWalk 34 = .ok (.iload_n 2, 1) := by decide +kernel
theorem dX8_makeWalk_35 : decode cX8_makeWalk 35 = .ok (.aaload, 1) := by decide +kernel
theorem dX8_makeWalk_36 : decode cX8_makeWalk 36 = .ok (.aload_n 0, 1) := by decide +kernel
theorem dX8_makeWalk_37 : decode cX8_makeWalk 37 = .ok (.getfield 14, 3) := by decide +kernel
theorem dX8_makeWalk_40 : decode cX8_makeWalk 40 = .ok (.iload_n 3, 1) := by decide +kernel
theorem dX8_makeWalk_41 : decode cX8_makeWalk 41 = .ok (.aaload, 1) := by decide +kernel
theorem dX8_makeWalk_42 : decode cX8_makeWalk 42 = .ok (.invokevirtual 270, 3) := by decide +kernel
theorem dX8_makeWalk_45 : decode cX8_makeWalk 45 = .ok (.aload_n 0, 1) := by decide +kernel
theorem dX8_makeWalk_46 : decode cX8_makeWalk 46 = .ok (.getfield 62, 3) := by decide +kernel
theorem dX8_makeWalk_49 : decode cX8_makeWalk 49 = .ok (.iload 4, 2) := by decide +kernel
theorem dX8_makeWalk_51 : decode cX8_makeWalk 51 = .ok (.putfield 269, 3) := by decide +kernel
theorem dX8_makeWalk_54 : decode cX8_makeWalk 54 = .ok (.return_, 1) := by decide +kernel
theorem dX8_valueOf_0 : decode cX8_valueOf 0 = .ok (.iload_n 0, 1) := by decide +kernel
theorem dX8_valueOf_1 : decode cX8_valueOf 1 = .ok (.bipush 6, 2) := by decide +kernel
theorem dX8_valueOf_3 : decode cX8_valueOf 3 = .ok (.iconst 2, 1) := by decide +kernel
theorem dX8_valueOf_4 : decode cX8_valueOf 4 = .ok (.iload_n 1, 1) := by decide +kernel
theorem dX8_valueOf_5 : decode cX8_valueOf 5 = .ok (.imul, 1) := by decide +kernel
theorem dX8_valueOf_6 : decode cX8_valueOf 6 = .ok (.isub, 1) := by decide +kernel
theorem dX8_valueOf_7 : decode cX8_valueOf 7 = .ok (.ishr, 1) := by decide +kernel
theorem dX8_valueOf_8 : decode cX8_valueOf 8 = .ok (.iconst 3, 1) := by decide +kernel
theorem dX8_valueOf_9 : decode cX8_valueOf 9 = .ok (.iand, 1) := by decide +kernel
theorem dX8_valueOf_10 : decode cX8_valueOf 10 = .ok (.ireturn, 1) := by decide +kernel
theorem dX8_withValue_0 : decode cX8_withValue 0 = .ok (.bipush 6, 2) := by decide +kernel
theorem dX8_withValue_2 : decode cX8_withValue 2 = .ok (.iconst 2, 1) := by decide +kernel
theorem dX8_withValue_3 : decode cX8_withValue 3 = .ok (.iload_n 1, 1) := by decide +kernel
theorem dX8_withValue_4 : decode cX8_withValue 4 = .ok (.imul, 1) := by decide +kernel
theorem dX8_withValue_5 : decode cX8_withValue 5 = .ok (.isub, 1) := by decide +kernel
theorem dX8_withValue_6 : decode cX8_withValue 6 = .ok (.istore_n 3, 1) := by decide +kernel
theorem dX8_withValue_7 : decode cX8_withValue 7 = .ok (.iload_n 0, 1) := by decide +kernel
theorem dX8_withValue_8 : decode cX8_withValue 8 = .ok (.iconst 3, 1) := by decide +kernel
theorem dX8_withValue_9 : decode cX8_withValue 9 = .ok (.iload_n 3, 1) := by decide +kernel
theorem dX8_withValue_10 : decode cX8_withValue 10 = .ok (.ishl, 1) := by decide +kernel
theorem dX8_withValue_11 : decode cX8_withValue 11 = .ok (.iconst (-1), 1) := by decide +kernel
theorem dX8_withValue_12 : decode cX8_withValue 12 = .ok (.ixor, 1) := by decide +kernel
theorem dX8_withValue_13 : decode cX8_withValue 13 = .ok (.iand, 1) := by decide +kernel
theorem dX8_withValue_14 : decode cX8_withValue 14 = .ok (.iload_n 2, 1) := by decide +kernel
theorem dX8_withValue_15 : decode cX8_withValue 15 = .ok (.iconst 3, 1) := by decide +kernel
theorem dX8_withValue_16 : decode cX8_withValue 16 = .ok (.iand, 1) := by decide +kernel
theorem dX8_withValue_17 : decode cX8_withValue 17 = .ok (.iload_n 3, 1) := by decide +kernel
theorem dX8_withValue_18 : decode cX8_withValue 18 = .ok (.ishl, 1) := by decide +kernel
theorem dX8_withValue_19 : decode cX8_withValue 19 = .ok (.ior, 1) := by decide +kernel
theorem dX8_withValue_20 : decode cX8_withValue 20 = .ok (.ireturn, 1) := by decide +kernel
theorem dX8_digitsOf_0 : decode cX8_digitsOf 0 = .ok (.iconst 0, 1) := by decide +kernel
theorem dX8_digitsOf_1 : decode cX8_digitsOf 1 = .ok (.istore_n 1, 1) := by decide +kernel
theorem dX8_digitsOf_2 : decode cX8_digitsOf 2 = .ok (.iconst 0, 1) := by decide +kernel
theorem dX8_digitsOf_3 : decode cX8_digitsOf 3 = .ok (.istore_n 2, 1) := by decide +kernel
theorem dX8_digitsOf_4 : decode cX8_digitsOf 4 = .ok (.iload_n 2, 1) := by decide +kernel
theorem dX8_digitsOf_5 : decode cX8_digitsOf 5 = .ok (.iconst 4, 1) := by decide +kernel
theorem dX8_digitsOf_6 : decode cX8_digitsOf 6 = .ok (.if_icmp .ge 24, 3) := by decide +kernel
theorem dX8_digitsOf_9 : decode cX8_digitsOf 9 = .ok (.iload_n 0, 1) := by decide +kernel
theorem dX8_digitsOf_10 : decode cX8_digitsOf 10 = .ok (.iload_n 2, 1) := by decide +kernel
theorem dX8_digitsOf_11 : decode cX8_digitsOf 11 = .ok (.ishr, 1) := by decide +kernel
theorem dX8_digitsOf_12 : decode cX8_digitsOf 12 = .ok (.iconst 1, 1) := by decide +kernel
theorem dX8_digitsOf_13 : decode cX8_digitsOf 13 = .ok (.iand, 1) := by decide +kernel
theorem dX8_digitsOf_14 : decode cX8_digitsOf 14 = .ok (.ifCond .eq 10, 3) := by decide +kernel
theorem dX8_digitsOf_17 : decode cX8_digitsOf 17 = .ok (.iload_n 1, 1) := by decide +kernel
theorem dX8_digitsOf_18 : decode cX8_digitsOf 18 = .ok (.iload_n 2, 1) := by decide +kernel
theorem dX8_digitsOf_19 : decode cX8_digitsOf 19 = .ok (.iconst 3, 1) := by decide +kernel
theorem dX8_digitsOf_20 : decode cX8_digitsOf 20 = .ok (.invokestatic 236, 3) := by decide +kernel
theorem dX8_digitsOf_23 : decode cX8_digitsOf 23 = .ok (.istore_n 1, 1) := by decide +kernel
theorem dX8_digitsOf_24 : decode cX8_digitsOf 24 = .ok (.iinc 2 1, 3) := by decide +kernel
theorem dX8_digitsOf_27 : decode cX8_digitsOf 27 = .ok (.goto (-23), 3) := by decide +kernel
theorem dX8_digitsOf_30 : decode cX8_digitsOf 30 = .ok (.iload_n 1, 1) := by decide +kernel
theorem dX8_digitsOf_31 : decode cX8_digitsOf 31 = .ok (.ireturn, 1) := by decide +kernel
theorem dX9_init_0 : decode cX9_init 0 = .ok (.aload_n 0, 1) := by decide +kernel
theorem dX9_init_1 : decode cX9_init 1 = .ok (.invokespecial 1, 3) := by decide +kernel
theorem dX9_init_4 : decode cX9_init 4 = .ok (.aload_n 0, 1) := by decide +kernel
theorem dX9_init_5 : decode cX9_init 5 = .ok (.bipush 48, 2) := by decide +kernel
theorem dX9_init_7 : decode cX9_init 7 = .ok (.newarray .int, 2) := by decide +kernel
theorem dX9_init_9 : decode cX9_init 9 = .ok (.putfield 7, 3) := by decide +kernel
theorem dX9_init_12 : decode cX9_init 12 = .ok (.aload_n 0, 1) := by decide +kernel
theorem dX9_init_13 : decode cX9_init 13 = .ok (.bipush 48, 2) := by decide +kernel
theorem dX9_init_15 : decode cX9_init 15 = .ok (.newarray .int, 2) := by decide +kernel
theorem dX9_init_17 : decode cX9_init 17 = .ok (.putfield 13, 3) := by decide +kernel
theorem dX9_init_20 : decode cX9_init 20 = .ok (.aload_n 0, 1) := by decide +kernel
theorem dX9_init_21 : decode cX9_init 21 = .ok (.bipush 48, 2) := by decide +kernel
theorem dX9_init_23 : decode cX9_init 23 = .ok (.newarray .int, 2) := by decide +kernel
theorem dX9_init_25 : decode cX9_init 25 = .ok (.putfield 16, 3) := by decide +kernel
theorem dX9_init_28 : decode cX9_init 28 = .ok (.aload_n 0, 1) := by decide +kernel
theorem dX9_init_29 : decode cX9_init 29 = .ok (.bipush 48, 2) := by decide +kernel
theorem dX9_init_31 : decode cX9_init 31 = .ok (.newarray .int, 2) := by decide +kernel
theorem dX9_init_33 : decode cX9_init 33 = .ok (.putfield 19, 3) := by decide +kernel
theorem dX9_init_36 : decode cX9_init 36 = .ok (.aload_n 0, 1) := by decide +kernel
theorem dX9_init_37 : decode cX9_init 37 = .ok (.iconst 4, 1) := by decide +kernel
theorem dX9_init_38 : decode cX9_init 38 = .ok (.newarray .int, 2) := by decide +kernel
theorem dX9_init_40 : decode cX9_init 40 = .ok (.putfield 22, 3) := by decide +kernel
theorem dX9_init_43 : decode cX9_init 43 = .ok (.aload_n 0, 1) := by decide +kernel
theorem dX9_init_44 : decode cX9_init 44 = .ok (.iconst 4, 1) := by decide +kernel
theorem dX9_init_45 : decode cX9_init 45 = .ok (.newarray .int, 2) := by decide +kernel
theorem dX9_init_47 : decode cX9_init 47 = .ok (.putfield 25, 3) := by decide +kernel
theorem dX9_init_50 : decode cX9_init 50 = .ok (.aload_n 0, 1) := by decide +kernel
theorem dX9_init_51 : decode cX9_init 51 = .ok (.iconst 4, 1) := by decide +kernel
theorem dX9_init_52 : decode cX9_init 52 = .ok (.newarray .boolean, 2) := by decide +kernel
theorem dX9_init_54 : decode cX9_init 54 = .ok (.putfield 28, 3) := by decide +kernel
theorem dX9_init_57 : decode cX9_init 57 = .ok (.aload_n 0, 1) := by decide +kernel
theorem dX9_init_58 : decode cX9_init 58 = .ok (.sipush 12288, 3) := by decide +kernel
theorem dX9_init_61 : decode cX9_init 61 = .ok (.newarray .int, 2) := by decide +kernel
theorem dX9_init_63 : decode cX9_init 63 = .ok (.putfield 32, 3) := by decide +kernel
theorem dX9_init_66 : decode cX9_init 66 = .ok (.aload_n 0, 1) := by decide +kernel
theorem dX9_init_67 : decode cX9_init 67 = .ok (.sipush 512, 3) := by decide +kernel
theorem dX9_init_70 : decode cX9_init 70 = .ok (.newarray .int, 2) := by decide +kernel
theorem dX9_init_72 : decode cX9_init 72 = .ok (.putfield 35, 3) := by decide +kernel
theorem dX9_init_75 : decode cX9_init 75 = .ok (.aload_n 0, 1) := by decide +kernel
theorem dX9_init_76 : decode cX9_init 76 = .ok (.sipush 512, 3) := by decide +kernel
theorem dX9_init_79 : decode cX9_init 79 = .ok (.newarray .int, 2) := by decide +kernel
theorem dX9_init_81 : decode cX9_init 81 = .ok (.putfield 38, 3) := by decide +kernel
theorem dX9_init_84 : decode cX9_init 84 = .ok (.aload_n 0, 1) := by decide +kernel
theorem dX9_init_85 : decode cX9_init 85 = .ok (.sipush 512, 3) := by decide +kernel
theorem dX9_init_88 : decode cX9_init 88 = .ok (.newarray .int, 2) := by decide +kernel
theorem dX9_init_90 : decode cX9_init 90 = .ok (.putfield 41, 3) := by decide +kernel
theorem dX9_init_93 : decode cX9_init 93 = .ok (.aload_n 0, 1) := by decide +kernel
theorem dX9_init_94 : decode cX9_init 94 = .ok (.sipush 512, 3) := by decide +kernel
theorem dX9_init_97 : decode cX9_init 97 = .ok (.newarray .int, 2) := by decide +kernel
theorem dX9_init_99 : decode cX9_init 99 = .ok (.putfield 44, 3) := by decide +kernel
theorem dX9_init_102 : decode cX9_init 102 = .ok (.aload_n 0, 1) := by decide +kernel
theorem dX9_init_103 : decode cX9_init 103 = .ok (.sipush 12288, 3) := by decide +kernel
theorem dX9_init_106 : decode cX9_init 106 = .ok (.newarray .int, 2) := by decide +kernel
theorem dX9_init_108 : decode cX9_init 108 = .ok (.putfield 47, 3) := by decide +kernel
theorem dX9_init_111 : decode cX9_init 111 = .ok (.aload_n 0, 1) := by decide +kernel
theorem dX9_init_112 : decode cX9_init 112 = .ok (.sipush 280, 3) := by decide +kernel
theorem dX9_init_115 : decode cX9_init 115 = .ok (.newarray .int, 2) := by decide +kernel
theorem dX9_init_117 : decode cX9_init 117 = .ok (.putfield 50, 3) := by decide +kernel
theorem dX9_init_120 : decode cX9_init 120 = .ok (.aload_n 0, 1) := by decide +kernel
theorem dX9_init_121 : decode cX9_init 121 = .ok (.bipush 7, 2) := by decide +kernel
theorem dX9_init_123 : decode cX9_init 123 = .ok (.newarray .int, 2) := by decide +kernel
theorem dX9_init_125 : decode cX9_init 125 = .ok (.putfield 53, 3) := by decide +kernel
theorem dX9_init_128 : decode cX9_init 128 = .ok (.aload_n 0, 1) := by decide +kernel
theorem dX9_init_129 : decode cX9_init 129 = .ok (.bipush (-6), 2) := by decide +kernel
theorem dX9_init_131 : decode cX9_init 131 = .ok (.putfield 56, 3) := by decide +kernel
theorem dX9_init_134 : decode cX9_init 134 = .ok (.aload_n 0, 1) := by decide +kernel
theorem dX9_init_135 : decode cX9_init 135 = .ok (.sipush 144, 3) := by decide +kernel
theorem dX9_init_138 : decode cX9_init 138 = .ok (.newarray .int, 2) := by decide +kernel
theorem dX9_init_140 : decode cX9_init 140 = .ok (.putfield 60, 3) := by decide +kernel
theorem dX9_init_143 : decode cX9_init 143 = .ok (.aload_n 0, 1) := by decide +kernel
theorem dX9_init_144 : decode cX9_init 144 = .ok (.sipush 169, 3) := by decide +kernel
theorem dX9_init_147 : decode cX9_init 147 = .ok (.newarray .int, 2) := by decide +kernel
theorem dX9_init_149 : decode cX9_init 149 = .ok (.putfield 63, 3) := by decide +kernel
theorem dX9_init_152 : decode cX9_init 152 = .ok (.aload_n 0, 1) := by decide +kernel
theorem dX9_init_153 : decode cX9_init 153 = .ok (.sipush 169, 3) := by decide +kernel
theorem dX9_init_156 : decode cX9_init 156 = .ok (.newarray .int, 2) := by decide +kernel
theorem dX9_init_158 : decode cX9_init 158 = .ok (.putfield 66, 3) := by decide +kernel
theorem dX9_init_161 : decode cX9_init 161 = .ok (.aload_n 0, 1) := by decide +kernel
theorem dX9_init_162 : decode cX9_init 162 = .ok (.sipush 169, 3) := by decide +kernel
theorem dX9_init_165 : decode cX9_init 165 = .ok (.newarray .boolean, 2) := by decide +kernel
theorem dX9_init_167 : decode cX9_init 167 = .ok (.putfield 69, 3) := by decide +kernel
theorem dX9_init_170 : decode cX9_init 170 = .ok (.aload_n 0, 1) := by decide +kernel
theorem dX9_init_171 : decode cX9_init 171 = .ok (.ldc 72, 2) := by decide +kernel
theorem dX9_init_173 : decode cX9_init 173 = .ok (.newarray .int, 2) := by decide +kernel
theorem dX9_init_175 : decode cX9_init 175 = .ok (.putfield 73, 3) := by decide +kernel
theorem dX9_init_178 : decode cX9_init 178 = .ok (.aload_n 0, 1) := by decide +kernel
theorem dX9_init_179 : decode cX9_init 179 = .ok (.bipush (-6), 2) := by decide +kernel
theorem dX9_init_181 : decode cX9_init 181 = .ok (.putfield 76, 3) := by decide +kernel
theorem dX9_init_184 : decode cX9_init 184 = .ok (.aload_n 0, 1) := by decide +kernel
theorem dX9_init_185 : decode cX9_init 185 = .ok (.bipush (-6), 2) := by decide +kernel
theorem dX9_init_187 : decode cX9_init 187 = .ok (.putfield 79, 3) := by decide +kernel
theorem dX9_init_190 : decode cX9_init 190 = .ok (.aload_n 0, 1) := by decide +kernel
theorem dX9_init_191 : decode cX9_init 191 = .ok (.ldc 82, 2) := by decide +kernel
theorem dX9_init_193 : decode cX9_init 193 = .ok (.newarray .boolean, 2) := by decide +kernel
theorem dX9_init_195 : decode cX9_init 195 = .ok (.putfield 83, 3) := by decide +kernel
theorem dX9_init_198 : decode cX9_init 198 = .ok (.aload_n 0, 1) := by decide +kernel
theorem dX9_init_199 : decode cX9_init 199 = .ok (.ldc 82, 2) := by decide +kernel
theorem dX9_init_201 : decode cX9_init 201 = .ok (.newarray .int, 2) := by decide +kernel
theorem dX9_init_203 : decode cX9_init 203 = .ok (.putfield 86, 3) := by decide +kernel
theorem dX9_init_206 : decode cX9_init 206 = .ok (.iconst 0, 1) := by decide +kernel
theorem dX9_init_207 : decode cX9_init 207 = .ok (.istore_n 1, 1) := by decide +kernel
theorem dX9_init_208 : decode cX9_init 208 = .ok (.iload_n 1, 1) := by decide +kernel
theorem dX9_init_209 : decode cX9_init 209 = .ok (.sipush 169, 3) := by decide +kernel
theorem dX9_init_212 : decode cX9_init 212 = .ok (.if_icmp .ge 18, 3) := by decide +kernel
theorem dX9_init_215 : decode cX9_init 215 = .ok (.aload_n 0, 1) := by decide +kernel
theorem dX9_init_216 : decode cX9_init 216 = .ok (.getfield 63, 3) := by decide +kernel
theorem dX9_init_219 : decode cX9_init 219 = .ok (.iload_n 1, 1) := by decide +kernel
theorem dX9_init_220 : decode cX9_init 220 = .ok (.sipush 4095, 3) := by decide +kernel
theorem dX9_init_223 : decode cX9_init 223 = .ok (.iastore, 1) := by decide +kernel
theorem dX9_init_224 : decode cX9_init 224 = .ok (.iinc 1 1, 3) := by decide +kernel
theorem dX9_init_227 : decode cX9_init 227 = .ok (.goto (-19), 3) := by decide +kernel
theorem dX9_init_230 : decode cX9_init 230 = .ok (.iconst 0, 1) := by decide +kernel
theorem dX9_init_231 : decode cX9_init 231 = .ok (.istore_n 1, 1) := by decide +kernel
theorem dX9_init_232 : decode cX9_init 232 = .ok (.iload_n 1, 1) := by decide +kernel
theorem dX9_init_233 : decode cX9_init 233 = .ok (.sipush 256, 3) := by decide +kernel
theorem dX9_init_236 : decode cX9_init 236 = .ok (.if_icmp .ge 41, 3) := by decide +kernel
theorem dX9_init_239 : decode cX9_init 239 = .ok (.iconst 0, 1) := by decide +kernel
theorem dX9_init_240 : decode cX9_init 240 = .ok (.istore_n 2, 1) := by decide +kernel
theorem dX9_init_241 : decode cX9_init 241 = .ok (.iload_n 2, 1) := by decide +kernel
theorem dX9_init_242 : decode cX9_init 242 = .ok (.sipush 256, 3) := by decide +kernel
theorem dX9_init_245 : decode cX9_init 245 = .ok (.if_icmp .ge 26, 3) := by decide +kernel
theorem dX9_init_248 : decode cX9_init 248 = .ok (.aload_n 0, 1) := by decide +kernel
theorem dX9_init_249 : decode cX9_init 249 = .ok (.getfield 73, 3) := by decide +kernel
theorem dX9_init_252 : decode cX9_init 252 = .ok (.sipush 256, 3) := by decide +kernel
theorem dX9_init_255 : decode cX9_init 255 = .ok (.iload_n 1, 1) := by decide +kernel
theorem dX9_init_256 : decode cX9_init 256 = .ok (.imul, 1) := by decide +kernel
theorem dX9_init_257 : decode cX9_init 257 = .ok (.iload_n 2, 1) := by decide +kernel
theorem dX9_init_258 : decode cX9_init 258 = .ok (.iadd, 1) := by decide +kernel
theorem dX9_init_259 : decode cX9_init 259 = .ok (.iload_n 1, 1) := by decide +kernel
theorem dX9_init_260 : decode cX9_init 260 = .ok (.iload_n 2, 1) := by decide +kernel
theorem dX9_init_261 : decode cX9_init 261 = .ok (.invokestatic 89, 3) := by decide +kernel
theorem dX9_init_264 : decode cX9_init 264 = .ok (.iastore, 1) := by decide +kernel
theorem dX9_init_265 : decode cX9_init 265 = .ok (.iinc 2 1, 3) := by decide +kernel
theorem dX9_init_268 : decode cX9_init 268 = .ok (.goto (-27), 3) := by decide +kernel
theorem dX9_init_271 : decode cX9_init 271 = .ok (.iinc 1 1, 3) := by decide +kernel
theorem dX9_init_274 : decode cX9_init 274 = .ok (.goto (-42), 3) := by decide +kernel
theorem dX9_init_277 : decode cX9_init 277 = .ok (.return_, 1) := by decide +kernel
theorem dX9_in_0 : decode cX9_in 0 = .ok (.lload_n 0, 1) := by decide +kernel
theorem dX9_in_1 : decode cX9_in 1 = .ok (.lload_n 2, 1) := by decide +kernel
theorem dX9_in_2 : decode cX9_in 2 = .ok (.lcmp, 1) := by decide +kernel
theorem dX9_in_3 : decode cX9_in 3 = .ok (.ifCond .lt 14, 3) := by decide +kernel
theorem dX9_in_6 : decode cX9_in 6 = .ok (.lload_n 0, 1) := by decide +kernel
theorem dX9_in_7 : decode cX9_in 7 = .ok (.lload 4, 2) := by decide +kernel
theorem dX9_in_9 : decode cX9_in 9 = .ok (.lcmp, 1) := by decide +kernel
theorem dX9_in_10 : decode cX9_in 10 = .ok (.ifCond .gt 7, 3) := by decide +kernel
theorem dX9_in_13 : decode cX9_in 13 = .ok (.iconst 1, 1) := by decide +kernel
theorem dX9_in_14 : decode cX9_in 14 = .ok (.goto 4, 3) := by decide +kernel
theorem dX9_in_17 : decode cX9_in 17 = .ok (.iconst 0, 1) := by decide +kernel
theorem dX9_in_18 : decode cX9_in 18 = .ok (.ireturn, 1) := by decide +kernel
theorem dX9_ones_0 : decode cX9_ones 0 = .ok (.iconst 0, 1) := by decide +kernel
theorem dX9_ones_1 : decode cX9_ones 1 = .ok (.istore_n 1, 1) := by decide +kernel
theorem dX9_ones_2 : decode cX9_ones 2 = .ok (.iconst 0, 1) := by decide +kernel
theorem dX9_ones_3 : decode cX9_ones 3 = .ok (.istore_n 2, 1) := by decide +kernel
theorem dX9_ones_4 : decode cX9_ones 4 = .ok (.iload_n 2, 1) := by decide +kernel
theorem dX9_ones_5 : decode cX9_ones 5 = .ok (.bipush 12, 2) := by decide +kernel
theorem dX9_ones_7 : decode cX9_ones 7 = .ok (.if_icmp .ge 17, 3) := by decide +kernel
theorem dX9_ones_10 : decode cX9_ones 10 = .ok (.iload_n 1, 1) := by decide +kernel
theorem dX9_ones_11 : decode cX9_ones 11 = .ok (.iload_n 0, 1) := by decide +kernel
theorem dX9_ones_12 : decode cX9_ones 12 = .ok (.iload_n 2, 1) := by decide +kernel
theorem dX9_ones_13 : decode cX9_ones 13 = .ok (.ishr, 1) := by decide +kernel
theorem dX9_ones_14 : decode cX9_ones 14 = .ok (.iconst 1, 1) := by decide +kernel
theorem dX9_ones_15 : decode cX9_ones 15 = .ok (.iand, 1) := by decide +kernel
theorem dX9_ones_16 : decode cX9_ones 16 = .ok (.iadd, 1) := by decide +kernel
theorem dX9_ones_17 : decode cX9_ones 17 = .ok (.istore_n 1, 1) := by decide +kernel
theorem dX9_ones_18 : decode cX9_ones 18 = .ok (.iinc 2 1, 3) := by decide +kernel
theorem dX9_ones_21 : decode cX9_ones 21 = .ok (.goto (-17), 3) := by decide +kernel
theorem dX9_ones_24 : decode cX9_ones 24 = .ok (.iload_n 1, 1) := by decide +kernel
theorem dX9_ones_25 : decode cX9_ones 25 = .ok (.ireturn, 1) := by decide +kernel
theorem dX9_isOther_0 : decode cX9_isOther 0 = .ok (.aload_n 0, 1) := by decide +kernel
theorem dX9_isOther_1 : decode cX9_isOther 1 = .ok (.getfield 28, 3) := by decide +kernel
theorem dX9_isOther_4 : decode cX9_isOther 4 = .ok (.iload_n 1, 1) := by decide +kernel
theorem dX9_isOther_5 : decode cX9_isOther 5 = .ok (.iconst 0, 1) := by decide +kernel
theorem dX9_isOther_6 : decode cX9_isOther 6 = .ok (.bastore, 1) := by decide +kernel
theorem dX9_isOther_7 : decode cX9_isOther 7 = .ok (.aload_n 0, 1) := by decide +kernel
theorem dX9_isOther_8 : decode cX9_isOther 8 = .ok (.dup, 1) := by decide +kernel
theorem dX9_isOther_9 : decode cX9_isOther 9 = .ok (.getfield 93, 3) := by decide +kernel
theorem dX9_isOther_12 : decode cX9_isOther 12 = .ok (.iconst 1, 1) := by decide +kernel
theorem dX9_isOther_13 : decode cX9_isOther 13 = .ok (.iadd, 1) := by decide +kernel
theorem dX9_isOther_14 : decode cX9_isOther 14 = .ok (.putfield 93, 3) := by decide +kernel
theorem dX9_isOther_17 : decode cX9_isOther 17 = .ok (.aload_n 0, 1) := by decide +kernel
theorem dX9_isOther_18 : decode cX9_isOther 18 = .ok (.dup, 1) := by decide +kernel
theorem dX9_isOther_19 : decode cX9_isOther 19 = .ok (.getfield 96, 3) := by decide +kernel
theorem dX9_isOther_22 : decode cX9_isOther 22 = .ok (.iconst 1, 1) := by decide +kernel
theorem dX9_isOther_23 : decode cX9_isOther 23 = .ok (.iadd, 1) := by decide +kernel
theorem dX9_isOther_24 : decode cX9_isOther 24 = .ok (.putfield 96, 3) := by decide +kernel
theorem dX9_isOther_27 : decode cX9_isOther 27 = .ok (.return_, 1) := by decide +kernel
theorem dX9_isProgram_0 : decode cX9_isProgram 0 = .ok (.iload_n 0, 1) := by decide +kernel
theorem dX9_isProgram_1 : decode cX9_isProgram 1 = .ok (.i2l, 1) := by decide +kernel
theorem dX9_isProgram_2 : decode cX9_isProgram 2 = .ok (.lconst 0, 1) := by decide +kernel
theorem dX9_isProgram_3 : decode cX9_isProgram 3 = .ok (.ldc2_w 99, 3) := by decide +kernel
theorem dX9_isProgram_6 : decode cX9_isProgram 6 = .ok (.invokestatic 101, 3) := by decide +kernel
theorem dX9_isProgram_9 : decode cX9_isProgram 9 = .ok (.ireturn, 1) := by decide +kernel
theorem dX9_isVariable_0 : decode cX9_isVariable 0 = .ok (.iload_n 0, 1) := by decide +kernel
theorem dX9_isVariable_1 : decode cX9_isVariable 1 = .ok (.i2l, 1) := by decide +kernel
theorem dX9_isVariable_2 : decode cX9_isVariable 2 = .ok (.lconst 0, 1) := by decide +kernel
theorem dX9_isVariable_3 : decode cX9_isVariable 3 = .ok (.ldc2_w 99, 3) := by decide +kernel
theorem dX9_isVariable_6 : decode cX9_isVariable 6 = .ok (.invokestatic 101, 3) := by decide +kernel
theorem dX9_isVariable_9 : decode cX9_isVariable 9 = .ok (.ireturn, 1) := by decide +kernel
theorem dX9_isLine_0 : decode cX9_isLine 0 = .ok (.iload_n 0, 1) := by decide +kernel
theorem dX9_isLine_1 : decode cX9_isLine 1 = .ok (.tableswitch 144 0 6 #[43, 43, 67, 67, 67, 94, 123], 43) := by decide +kernel
theorem dX9_isLine_44 : decode cX9_isLine 44 = .ok (.iload_n 1, 1) := by decide +kernel
theorem dX9_isLine_45 : decode cX9_isLine 45 = .ok (.invokestatic 105, 3) := by decide +kernel
theorem dX9_isLine_48 : decode cX9_isLine 48 = .ok (.ifCond .eq 18, 3) := by decide +kernel
theorem dX9_isLine_51 : decode cX9_isLine 51 = .ok (.iload_n 2, 1) := by decide +kernel
theorem dX9_isLine_52 : decode cX9_isLine 52 = .ok (.invokestatic 105, 3) := by decide +kernel
theorem dX9_isLine_55 : decode cX9_isLine 55 = .ok (.ifCond .eq 11, 3) := by decide +kernel
theorem dX9_isLine_58 : decode cX9_isLine 58 = .ok (.iload_n 3, 1) := by decide +kernel
theorem dX9_isLine_59 : decode cX9_isLine 59 = .ok (.ifCond .ne 7, 3) := by decide +kernel
theorem dX9_isLine_62 : decode cX9_isLine 62 = .ok (.iconst 1, 1) := by decide +kernel
theorem dX9_isLine_63 : decode cX9_isLine 63 = .ok (.goto 4, 3) := by decide +kernel
theorem dX9_isLine_66 : decode cX9_isLine 66 = .ok (.iconst 0, 1) := by decide +kernel
theorem dX9_isLine_67 : decode cX9_isLine 67 = .ok (.ireturn, 1) := by decide +kernel
theorem dX9_isLine_68 : decode cX9_isLine 68 = .ok (.iload_n 1, 1) := by decide +kernel
theorem dX9_isLine_69 : decode cX9_isLine 69 = .ok (.invokestatic 105, 3) := by decide +kernel
theorem dX9_isLine_72 : decode cX9_isLine 72 = .ok (.ifCond .eq 21, 3) := by decide +kernel
theorem dX9_isLine_75 : decode cX9_isLine 75 = .ok (.iload_n 2, 1) := by decide +kernel
theorem dX9_isLine_76 : decode cX9_isLine 76 = .ok (.invokestatic 105, 3) := by decide +kernel
theorem dX9_isLine_79 : decode cX9_isLine 79 = .ok (.ifCond .eq 14, 3) := by decide +kernel
theorem dX9_isLine_82 : decode cX9_isLine 82 = .ok (.iload_n 3, 1) := by decide +kernel
theorem dX9_isLine_83 : decode cX9_isLine 83 = .ok (.invokestatic 105, 3) := by decide +kernel
theorem dX9_isLine_86 : decode cX9_isLine 86 = .ok (.ifCond .eq 7, 3) := by decide +kernel
theorem dX9_isLine_89 : decode cX9_isLine 89 = .ok (.iconst 1, 1) := by decide +kernel
theorem dX9_isLine_90 : decode cX9_isLine 90 = .ok (.goto 4, 3) := by decide +kernel
theorem dX9_isLine_93 : decode cX9_isLine 93 = .ok (.iconst 0, 1) := by decide +kernel
theorem dX9_isLine_94 : decode cX9_isLine 94 = .ok (.ireturn, 1) := by decide +kernel
theorem dX9_isLine_95 : decode cX9_isLine 95 = .ok (.iload_n 1, 1) := by decide +kernel
theorem dX9_isLine_96 : decode cX9_isLine 96 = .ok (.invokestatic 105, 3) := by decide +kernel
theorem dX9_isLine_99 : decode cX9_isLine 99 = .ok (.ifCond .eq 23, 3) := by decide +kernel
theorem dX9_isLine_102 : decode cX9_isLine 102 = .ok (.iload_n 2, 1) := by decide +kernel
theorem dX9_isLine_103 : decode cX9_isLine 103 = .ok (.i2l, 1) := by decide +kernel
theorem dX9_isLine_104 : decode cX9_isLine 104 = .ok (.lconst 0, 1) := by decide +kernel
theorem dX9_isLine_105 : decode cX9_isLine 105 = .ok (.ldc2_w 109, 3) := by decide +kernel
theorem dX9_isLine_108 : decode cX9_isLine 108 = .ok (.invokestatic 101, 3) := by decide +kernel
theorem dX9_isLine_111 : decode cX9_isLine 111 = .ok (.ifCond .eq 11, 3) := by decide +kernel
theorem dX9_isLine_114 : decode cX9_isLine 114 = .ok (.iload_n 3, 1) := by decide +kernel
theorem dX9_isLine_115 : decode cX9_isLine 115 = .ok (.ifCond .ne 7, 3) := by decide +kernel
theorem dX9_isLine_118 : decode cX9_isLine 118 = .ok (.iconst 1, 1) := by decide +kernel
theorem dX9_isLine_119 : decode cX9_isLine 119 = .ok (.goto 4, 3) := by decide +kernel
theorem dX9_isLine_122 : decode cX9_isLine 122 = .ok (.iconst 0, 1) := by decide +kernel
theorem dX9_isLine_123 : decode cX9_isLine 123 = .ok (.ireturn, 1) := by decide +kernel
theorem dX9_isLine_124 : decode cX9_isLine 124 = .ok (.iload_n 1, 1) := by decide +kernel
theorem dX9_isLine_125 : decode cX9_isLine 125 = .ok (.invokestatic 105, 3) := by decide +kernel
theorem dX9_isLine_128 : decode cX9_isLine 128 = .ok (.ifCond .eq 15, 3) := by decide +kernel
theorem dX9_isLine_131 : decode cX9_isLine 131 = .ok (.iload_n 2, 1) := by decide +kernel
theorem dX9_isLine_132 : decode cX9_isLine 132 = .ok (.ifCond .ne 11, 3) := by decide +kernel
theorem dX9_isLine_135 : decode cX9_isLine 135 = .ok (.iload_n 3, 1) := by decide +kernel
theorem dX9_isLine_136 : decode cX9_isLine 136 = .ok (.ifCond .ne 7, 3) := by decide +kernel
theorem dX9_isLine_139 : decode cX9_isLine 139 = .ok (.iconst 1, 1) := by decide +kernel
theorem dX9_isLine_140 : decode cX9_isLine 140 = .ok (.goto 4, 3) := by decide +kernel
theorem dX9_isLine_143 : decode cX9_isLine 143 = .ok (.iconst 0, 1) := by decide +kernel
theorem dX9_isLine_144 : decode cX9_isLine 144 = .ok (.ireturn, 1) := by decide +kernel
theorem dX9_isLine_145 : decode cX9_isLine 145 = .ok (.iload_n 0, 1) := by decide +kernel
theorem dX9_isLine_146 : decode cX9_isLine 146 = .ok (.bipush 7, 2) := by decide +kernel
theorem dX9_isLine_148 : decode cX9_isLine 148 = .ok (.if_icmp .ne 19, 3) := by decide +kernel
theorem dX9_isLine_151 : decode cX9_isLine 151 = .ok (.iload_n 1, 1) := by decide +kernel
theorem dX9_isLine_152 : decode cX9_isLine 152 = .ok (.ifCond .ne 15, 3) := by decide +kernel
theorem dX9_isLine_155 : decode cX9_isLine 155 = .ok (.iload_n 2, 1) := by decide +kernel
theorem dX9_isLine_156 : decode cX9_isLine 156 = .ok (.ifCond .ne 11, 3) := by decide +kernel
theorem dX9_isLine_159 : decode cX9_isLine 159 = .ok (.iload_n 3, 1) := by decide +kernel
theorem dX9_isLine_160 : decode cX9_isLine 160 = .ok (.ifCond .ne 7, 3) := by decide +kernel
theorem dX9_isLine_163 : decode cX9_isLine 163 = .ok (.iconst 1, 1) := by decide +kernel
theorem dX9_isLine_164 : decode cX9_isLine 164 = .ok (.goto 4, 3) := by decide +kernel
theorem dX9_isLine_167 : decode cX9_isLine 167 = .ok (.iconst 0, 1) := by decide +kernel
theorem dX9_isLine_168 : decode cX9_isLine 168 = .ok (.ireturn, 1) := by decide +kernel
theorem dX9_lay_0 : decode cX9_lay 0 = .ok (.aload_n 0, 1) := by decide +kernel
theorem dX9_lay_1 : decode cX9_lay 1 = .ok (.getfield 7, 3) := by decide +kernel
theorem dX9_lay_4 : decode cX9_lay 4 = .ok (.iload_n 1, 1) := by decide +kernel
theorem dX9_lay_5 : decode cX9_lay 5 = .ok (.iload_n 2, 1) := by decide +kernel
theorem dX9_lay_6 : decode cX9_lay 6 = .ok (.iastore, 1) := by decide +kernel
theorem dX9_lay_7 : decode cX9_lay 7 = .ok (.aload_n 0, 1) := by decide +kernel
theorem dX9_lay_8 : decode cX9_lay 8 = .ok (.getfield 13, 3) := by decide +kernel
theorem dX9_lay_11 : decode cX9_lay 11 = .ok (.iload_n 1, 1) := by decide +kernel
theorem dX9_lay_12 : decode cX9_lay 12 = .ok (.iload_n 3, 1) := by decide +kernel
theorem dX9_lay_13 : decode cX9_lay 13 = .ok (.iastore, 1) := by decide +kernel
theorem dX9_lay_14 : decode cX9_lay 14 = .ok (.aload_n 0, 1) := by decide +kernel
theorem dX9_lay_15 : decode cX9_lay 15 = .ok (.getfield 16, 3) := by decide +kernel
theorem dX9_lay_18 : decode cX9_lay 18 = .ok (.iload_n 1, 1) := by decide +kernel
theorem dX9_lay_19 : decode cX9_lay 19 = .ok (.iload 4, 2) := by decide +kernel
theorem dX9_lay_21 : decode cX9_lay 21 = .ok (.iastore, 1) := by decide +kernel
theorem dX9_lay_22 : decode cX9_lay 22 = .ok (.aload_n 0, 1) := by decide +kernel
theorem dX9_lay_23 : decode cX9_lay 23 = .ok (.getfield 19, 3) := by decide +kernel
theorem dX9_lay_26 : decode cX9_lay 26 = .ok (.iload_n 1, 1) := by decide +kernel
theorem dX9_lay_27 : decode cX9_lay 27 = .ok (.iload 5, 2) := by decide +kernel
theorem dX9_lay_29 : decode cX9_lay 29 = .ok (.iastore, 1) := by decide +kernel
theorem dX9_lay_30 : decode cX9_lay 30 = .ok (.return_, 1) := by decide +kernel
theorem dX9_line_0 : decode cX9_line 0 = .ok (.iload_n 1, 1) := by decide +kernel
theorem dX9_line_1 : decode cX9_line 1 = .ok (.invokestatic 111, 3) := by decide +kernel
theorem dX9_line_4 : decode cX9_line 4 = .ok (.ifCond .ne 5, 3) := by decide +kernel
theorem dX9_line_7 : decode cX9_line 7 = .ok (.iconst (-1), 1) := by decide +kernel
theorem dX9_line_8 : decode cX9_line 8 = .ok (.ireturn, 1) := by decide +kernel
theorem dX9_line_9 : decode cX9_line 9 = .ok (.iload_n 2, 1) := by decide +kernel
theorem dX9_line_10 : decode cX9_line 10 = .ok (.iload_n 3, 1) := by decide +kernel
theorem dX9_line_11 : decode cX9_line 11 = .ok (.iload 4, 2) := by decide +kernel
theorem dX9_line_13 : decode cX9_line 13 = .ok (.iload 5, 2) := by decide +kernel
theorem dX9_line_15 : decode cX9_line 15 = .ok (.invokestatic 114, 3) := by decide +kernel
theorem dX9_line_18 : decode cX9_line 18 = .ok (.ifCond .ne 6, 3) := by decide +kernel
theorem dX9_line_21 : decode cX9_line 21 = .ok (.bipush (-2), 2) := by decide +kernel
theorem dX9_line_23 : decode cX9_line 23 = .ok (.ireturn, 1) := by decide +kernel
theorem dX9_line_24 : decode cX9_line 24 = .ok (.aload_n 0, 1) := by decide +kernel
theorem dX9_line_25 : decode cX9_line 25 = .ok (.getfield 22, 3) := by decide +kernel
theorem dX9_line_28 : decode cX9_line 28 = .ok (.iload_n 1, 1) := by decide +kernel
theorem dX9_line_29 : decode cX9_line 29 = .ok (.iaload, 1) := by decide +kernel
theorem dX9_line_30 : decode cX9_line 30 = .ok (.bipush 12, 2) := by decide +kernel
theorem dX9_line_32 : decode cX9_line 32 = .ok (.if_icmp .ne 6, 3) := by decide +kernel
theorem dX9_line_35 : decode cX9_line 35 = .ok (.bipush (-4), 2) := by decide +kernel
theorem dX9_line_37 : decode cX9_line 37 = .ok (.ireturn, 1) := by decide +kernel
theorem dX9_line_38 : decode cX9_line 38 = .ok (.aload_n 0, 1) := by decide +kernel
theorem dX9_line_39 : decode cX9_line 39 = .ok (.bipush 12, 2) := by decide +kernel
theorem dX9_line_41 : decode cX9_line 41 = .ok (.iload_n 1, 1) := by decide +kernel
theorem dX9_line_42 : decode cX9_line 42 = .ok (.imul, 1) := by decide +kernel
theorem dX9_line_43 : decode cX9_line 43 = .ok (.aload_n 0, 1) := by decide +kernel
theorem dX9_line_44 : decode cX9_line 44 = .ok (.getfield 22, 3) := by decide +kernel
theorem dX9_line_47 : decode cX9_line 47 = .ok (.iload_n 1, 1) := by decide +kernel
theorem dX9_line_48 : decode cX9_line 48 = .ok (.iaload, 1) := by decide +kernel
theorem dX9_line_49 : decode cX9_line 49 = .ok (.iadd, 1) := by decide +kernel
theorem dX9_line_50 : decode cX9_line 50 = .ok (.iload_n 2, 1) := by decide +kernel
theorem dX9_line_51 : decode cX9_line 51 = .ok (.iload_n 3, 1) := by decide +kernel
theorem dX9_line_52 : decode cX9_line 52 = .ok (.iload 4, 2) := by decide +kernel
theorem dX9_line_54 : decode cX9_line 54 = .ok (.iload 5, 2) := by decide +kernel
theorem dX9_line_56 : decode cX9_line 56 = .ok (.invokevirtual 118, 3) := by decide +kernel
theorem dX9_line_59 : decode cX9_line 59 = .ok (.aload_n 0, 1) := by decide +kernel
theorem dX9_line_60 : decode cX9_line 60 = .ok (.iload_n 1, 1) := by decide +kernel
theorem dX9_line_61 : decode cX9_line 61 = .ok (.invokevirtual 122, 3) := by decide +kernel
theorem dX9_line_64 : decode cX9_line 64 = .ok (.aload_n 0, 1) := by decide +kernel
theorem dX9_line_65 : decode cX9_line 65 = .ok (.getfield 22, 3) := by decide +kernel
theorem dX9_line_68 : decode cX9_line 68 = .ok (.iload_n 1, 1) := by decide +kernel
theorem dX9_line_69 : decode cX9_line 69 = .ok (.dup2, 1) := by decide +kernel
theorem dX9_line_70 : decode cX9_line 70 = .ok (.iaload, 1) := by decide +kernel
theorem dX9_line_71 : decode cX9_line 71 = .ok (.iconst 1, 1) := by decide +kernel
theorem dX9_line_72 : decode cX9_line 72 = .ok (.iadd, 1) := by decide +kernel
theorem dX9_line_73 : decode cX9_line 73 = .ok (.iastore, 1) := by decide +kernel
theorem dX9_line_74 : decode cX9_line 74 = .ok (.aload_n 0, 1) := by decide +kernel
theorem dX9_line_75 : decode cX9_line 75 = .ok (.getfield 22, 3) := by decide +kernel
theorem dX9_line_78 : decode cX9_line 78 = .ok (.iload_n 1, 1) := by decide +kernel
theorem dX9_line_79 : decode cX9_line 79 = .ok (.iaload, 1) := by decide +kernel
theorem dX9_line_80 : decode cX9_line 80 = .ok (.iconst 1, 1) := by decide +kernel
theorem dX9_line_81 : decode cX9_line 81 = .ok (.isub, 1) := by decide +kernel
theorem dX9_line_82 : decode cX9_line 82 = .ok (.ireturn, 1) := by decide +kernel
theorem dX9_change_0 : decode cX9_change 0 = .ok (.iload_n 1, 1) := by decide +kernel
theorem dX9_change_1 : decode cX9_change 1 = .ok (.invokestatic 111, 3) := by decide +kernel
theorem dX9_change_4 : decode cX9_change 4 = .ok (.ifCond .eq 21, 3) := by decide +kernel
theorem dX9_change_7 : decode cX9_change 7 = .ok (.iload_n 2, 1) := by decide +kernel
theorem dX9_change_8 : decode cX9_change 8 = .ok (.i2l, 1) := by decide +kernel
theorem dX9_change_9 : decode cX9_change 9 = .ok (.lconst 0, 1) := by decide +kernel
theorem dX9_change_10 : decode cX9_change 10 = .ok (.aload_n 0, 1) := by decide +kernel
theorem dX9_change_11 : decode cX9_change 11 = .ok (.getfield 22, 3) := by decide +kernel
theorem dX9_change_14 : decode cX9_change 14 = .ok (.iload_n 1, 1) := by decide +kernel
theorem dX9_change_15 : decode cX9_change 15 = .ok (.iaload, 1) := by decide +kernel
theorem dX9_change_16 : decode cX9_change 16 = .ok (.iconst 1, 1) := by decide +kernel
theorem dX9_change_17 : decode cX9_change 17 = .ok (.isub, 1) := by decide +kernel
theorem dX9_change_18 : decode cX9_change 18 = .ok (.i2l, 1) := by decide +kernel
theorem dX9_change_19 : decode cX9_change 19 = .ok (.invokestatic 101, 3) := by decide +kernel
theorem dX9_change_22 : decode cX9_change 22 = .ok (.ifCond .ne 5, 3) := by decide +kernel
theorem dX9_change_25 : decode cX9_change 25 = .ok (.iconst (-1), 1) := by decide +kernel
theorem dX9_change_26 : decode cX9_change 26 = .ok (.ireturn, 1) := by decide +kernel
theorem dX9_change_27 : decode cX9_change 27 = .ok (.iload_n 3, 1) := by decide +kernel
theorem dX9_change_28 : decode cX9_change 28 = .ok (.iload 4, 2) := by decide +kernel
theorem dX9_change_30 : decode cX9_change 30 = .ok (.iload 5, 2) := by decide +kernel
theorem dX9_change_32 : decode cX9_change 32 = .ok (.iload 6, 2) := by decide +kernel
theorem dX9_change_34 : decode cX9_change 34 = .ok (.invokestatic 114, 3) := by decide +kernel
theorem dX9_change_37 : decode cX9_change 37 = .ok (.ifCond .ne 6, 3) := by decide +kernel
theorem dX9_change_40 : decode cX9_change 40 = .ok (.bipush (-2), 2) := by decide +kernel
theorem dX9_change_42 : decode cX9_change 42 = .ok (.ireturn, 1) := by decide +kernel
theorem dX9_change_43 : decode cX9_change 43 = .ok (.aload_n 0, 1) := by decide +kernel
theorem dX9_change_44 : decode cX9_change 44 = .ok (.getfield 7, 3) := by decide +kernel
theorem dX9_change_47 : decode cX9_change 47 = .ok (.bipush 12, 2) := by decide +kernel
theorem dX9_change_49 : decode cX9_change 49 = .ok (.iload_n 1, 1) := by decide +kernel
theorem dX9_change_50 : decode cX9_change 50 = .ok (.imul, 1) := by decide +kernel
theorem dX9_change_51 : decode cX9_change 51 = .ok (.iload_n 2, 1) := by decide +kernel
theorem dX9_change_52 : decode cX9_change 52 = .ok (.iadd, 1) := by decide +kernel
theorem dX9_change_53 : decode cX9_change 53 = .ok (.iaload, 1) := by decide +kernel
theorem dX9_change_54 : decode cX9_change 54 = .ok (.istore 7, 2) := by decide +kernel
theorem dX9_change_56 : decode cX9_change 56 = .ok (.aload_n 0, 1) := by decide +kernel
theorem dX9_change_57 : decode cX9_change 57 = .ok (.bipush 12, 2) := by decide +kernel
theorem dX9_change_59 : decode cX9_change 59 = .ok (.iload_n 1, 1) := by decide +kernel
theorem dX9_change_60 : decode cX9_change 60 = .ok (.imul, 1) := by decide +kernel
theorem dX9_change_61 : decode cX9_change 61 = .ok (.iload_n 2, 1) := by decide +kernel
theorem dX9_change_62 : decode cX9_change 62 = .ok (.iadd, 1) := by decide +kernel
theorem dX9_change_63 : decode cX9_change 63 = .ok (.iload_n 3, 1) := by decide +kernel
theorem dX9_change_64 : decode cX9_change 64 = .ok (.iload 4, 2) := by decide +kernel
theorem dX9_change_66 : decode cX9_change 66 = .ok (.iload 5, 2) := by decide +kernel
theorem dX9_change_68 : decode cX9_change 68 = .ok (.iload 6, 2) := by decide +kernel
theorem dX9_change_70 : decode cX9_change 70 = .ok (.invokevirtual 118, 3) := by decide +kernel
theorem dX9_change_73 : decode cX9_change 73 = .ok (.aload_n 0, 1) := by decide +kernel
theorem dX9_change_74 : decode cX9_change 74 = .ok (.iload_n 1, 1) := by decide +kernel
theorem dX9_change_75 : decode cX9_change 75 = .ok (.invokevirtual 122, 3) := by decide +kernel
theorem dX9_change_78 : decode cX9_change 78 = .ok (.iload 7, 2) := by decide +kernel
theorem dX9_change_80 : decode cX9_change 80 = .ok (.ireturn, 1) := by decide +kernel
theorem dX9_clear_0 : decode cX9_clear 0 = .ok (.iload_n 1, 1) := by decide +kernel
theorem dX9_clear_1 : decode cX9_clear 1 = .ok (.invokestatic 111, 3) := by decide +kernel
theorem dX9_clear_4 : decode cX9_clear 4 = .ok (.ifCond .ne 5, 3) := by decide +kernel
theorem dX9_clear_7 : decode cX9_clear 7 = .ok (.iconst (-1), 1) := by decide +kernel
theorem dX9_clear_8 : decode cX9_clear 8 = .ok (.ireturn, 1) := by decide +kernel
theorem dX9_clear_9 : decode cX9_clear 9 = .ok (.aload_n 0, 1) := by decide +kernel
theorem dX9_clear_10 : decode cX9_clear 10 = .ok (.getfield 22, 3) := by decide +kernel
theorem dX9_clear_13 : decode cX9_clear 13 = .ok (.iload_n 1, 1) := by decide +kernel
theorem dX9_clear_14 : decode cX9_clear 14 = .ok (.iaload, 1) := by decide +kernel
theorem dX9_clear_15 : decode cX9_clear 15 = .ok (.istore_n 2, 1) := by decide +kernel
theorem dX9_clear_16 : decode cX9_clear 16 = .ok (.aload_n 0, 1) := by decide +kernel
theorem dX9_clear_17 : decode cX9_clear 17 = .ok (.getfield 22, 3) := by decide +kernel
theorem dX9_clear_20 : decode cX9_clear 20 = .ok (.iload_n 1, 1) := by decide +kernel
theorem dX9_clear_21 : decode cX9_clear 21 = .ok (.iconst 0, 1) := by decide +kernel
theorem dX9_clear_22 : decode cX9_clear 22 = .ok (.iastore, 1) := by decide +kernel
theorem dX9_clear_23 : decode cX9_clear 23 = .ok (.aload_n 0, 1) := by decide +kernel
theorem dX9_clear_24 : decode cX9_clear 24 = .ok (.getfield 25, 3) := by decide +kernel
theorem dX9_clear_27 : decode cX9_clear 27 = .ok (.iload_n 1, 1) := by decide +kernel
theorem dX9_clear_28 : decode cX9_clear 28 = .ok (.iconst 0, 1) := by decide +kernel
theorem dX9_clear_29 : decode cX9_clear 29 = .ok (.iastore, 1) := by decide +kernel
theorem dX9_clear_30 : decode cX9_clear 30 = .ok (.aload_n 0, 1) := by decide +kernel
theorem dX9_clear_31 : decode cX9_clear 31 = .ok (.iload_n 1, 1) := by decide +kernel
theorem dX9_clear_32 : decode cX9_clear 32 = .ok (.invokevirtual 122, 3) := by decide +kernel
theorem dX9_clear_35 : decode cX9_clear 35 = .ok (.iload_n 2, 1) := by decide +kernel
theorem dX9_clear_36 : decode cX9_clear 36 = .ok (.ireturn, 1) := by decide +kernel
theorem dX9_silent_0 : decode cX9_silent 0 = .ok (.iload_n 1, 1) := by decide +kernel
theorem dX9_silent_1 : decode cX9_silent 1 = .ok (.invokestatic 111, 3) := by decide +kernel
theorem dX9_silent_4 : decode cX9_silent 4 = .ok (.ifCond .ne 5, 3) := by decide +kernel
theorem dX9_silent_7 : decode cX9_silent 7 = .ok (.iconst (-1), 1) := by decide +kernel
theorem dX9_silent_8 : decode cX9_silent 8 = .ok (.ireturn, 1) := by decide +kernel
theorem dX9_silent_9 : decode cX9_silent 9 = .ok (.iload_n 2, 1) := by decide +kernel
theorem dX9_silent_10 : decode cX9_silent 10 = .ok (.i2l, 1) := by decide +kernel
theorem dX9_silent_11 : decode cX9_silent 11 = .ok (.lconst 0, 1) := by decide +kernel
theorem dX9_silent_12 : decode cX9_silent 12 = .ok (.ldc2_w 126, 3) := by decide +kernel
theorem dX9_silent_15 : decode cX9_silent 15 = .ok (.invokestatic 101, 3) := by decide +kernel
theorem dX9_silent_18 : decode cX9_silent 18 = .ok (.ifCond .ne 6, 3) := by decide +kernel
theorem dX9_silent_21 : decode cX9_silent 21 = .ok (.bipush (-2), 2) := by decide +kernel
theorem dX9_silent_23 : decode cX9_silent 23 = .ok (.ireturn, 1) := by decide +kernel
theorem dX9_silent_24 : decode cX9_silent 24 = .ok (.aload_n 0, 1) := by decide +kernel
theorem dX9_silent_25 : decode cX9_silent 25 = .ok (.getfield 25, 3) := by decide +kernel
theorem dX9_silent_28 : decode cX9_silent 28 = .ok (.iload_n 1, 1) := by decide +kernel
theorem dX9_silent_29 : decode cX9_silent 29 = .ok (.iaload, 1) := by decide +kernel
theorem dX9_silent_30 : decode cX9_silent 30 = .ok (.istore_n 3, 1) := by decide +kernel
theorem dX9_silent_31 : decode cX9_silent 31 = .ok (.aload_n 0, 1) := by decide +kernel
theorem dX9_silent_32 : decode cX9_silent 32 = .ok (.getfield 25, 3) := by decide +kernel
theorem dX9_silent_35 : decode cX9_silent 35 = .ok (.iload_n 1, 1) := by decide +kernel
theorem dX9_silent_36 : decode cX9_silent 36 = .ok (.iload_n 2, 1) := by decide +kernel
theorem dX9_silent_37 : decode cX9_silent 37 = .ok (.iastore, 1) := by decide +kernel
theorem dX9_silent_38 : decode cX9_silent 38 = .ok (.aload_n 0, 1) := by decide +kernel
theorem dX9_silent_39 : decode cX9_silent 39 = .ok (.dup, 1) := by decide +kernel
theorem dX9_silent_40 : decode cX9_silent 40 = .ok (.getfield 93, 3) := by decide +kernel
theorem dX9_silent_43 : decode cX9_silent 43 = .ok (.iconst 1, 1) := by decide +kernel
theorem dX9_silent_44 : decode cX9_silent 44 = .ok (.iadd, 1) := by decide +kernel
theorem dX9_silent_45 : decode cX9_silent 45 = .ok (.putfield 93, 3) := by decide +kernel
theorem dX9_silent_48 : decode cX9_silent 48 = .ok (.iload_n 3, 1) := by decide +kernel
theorem dX9_silent_49 : decode cX9_silent 49 = .ok (.ireturn, 1) := by decide +kernel
theorem dX9_valueOf_0 : decode cX9_valueOf 0 = .ok (.iload_n 0, 1) := by decide +kernel
theorem dX9_valueOf_1 : decode cX9_valueOf 1 = .ok (.iconst 2, 1) := by decide +kernel
theorem dX9_valueOf_2 : decode cX9_valueOf 2 = .ok (.iconst 3, 1) := by decide +kernel
theorem dX9_valueOf_3 : decode cX9_valueOf 3 = .ok (.iload_n 1, 1) := by decide +kernel
theorem dX9_valueOf_4 : decode cX9_valueOf 4 = .ok (.isub, 1) := by decide +kernel
theorem dX9_valueOf_5 : decode cX9_valueOf 5 = .ok (.imul, 1) := by decide +kernel
theorem dX9_valueOf_6 : decode cX9_valueOf 6 = .ok (.ishr, 1) := by decide +kernel
theorem dX9_valueOf_7 : decode cX9_valueOf 7 = .ok (.iconst 3, 1) := by decide +kernel
theorem dX9_valueOf_8 : decode cX9_valueOf 8 = .ok (.iand, 1) := by decide +kernel
theorem dX9_valueOf_9 : decode cX9_valueOf 9 = .ok (.ireturn, 1) := by decide +kernel
theorem dX9_with_0 : decode cX9_with 0 = .ok (.iconst 2, 1) := by decide +kernel
theorem dX9_with_1 : decode cX9_with 1 = .ok (.iconst 3, 1) := by decide +kernel
theorem dX9_with_2 : decode cX9_with 2 = .ok (.iload_n 1, 1) := by decide +kernel
theorem dX9_with_3 : decode cX9_with 3 = .ok (.isub, 1) := by decide +kernel
theorem dX9_with_4 : decode cX9_with 4 = .ok (.imul, 1) := by decide +kernel
theorem dX9_with_5 : decode cX9_with 5 = .ok (.istore_n 3, 1) := by decide +kernel
theorem dX9_with_6 : decode cX9_with 6 = .ok (.iload_n 0, 1) := by decide +kernel
theorem dX9_with_7 : decode cX9_with 7 = .ok (.iconst 3, 1) := by decide +kernel
theorem dX9_with_8 : decode cX9_with 8 = .ok (.iload_n 3, 1) := by decide +kernel
theorem dX9_with_9 : decode cX9_with 9 = .ok (.ishl, 1) := by decide +kernel
theorem dX9_with_10 : decode cX9_with 10 = .ok (.iconst (-1), 1) := by decide +kernel
theorem dX9_with_11 : decode cX9_with 11 = .ok (.ixor, 1) := by decide +kernel
theorem dX9_with_12 : decode cX9_with 12 = .ok (.iand, 1) := by decide +kernel
theorem dX9_with_13 : decode cX9_with 13 = .ok (.iload_n 2, 1) := by decide +kernel
theorem dX9_with_14 : decode cX9_with 14 = .ok (.iload_n 3, 1) := by decide +kernel
theorem dX9_with_15 : decode cX9_with 15 = .ok (.ishl, 1) := by decide +kernel
theorem dX9_with_16 : decode cX9_with 16 = .ok (.ior, 1) := by decide +kernel
theorem dX9_with_17 : decode cX9_with 17 = .ok (.ireturn, 1) := by decide +kernel
theorem dX9_held_0 : decode cX9_held 0 = .ok (.iload_n 2, 1) := by decide +kernel
theorem dX9_held_1 : decode cX9_held 1 = .ok (.aload_n 0, 1) := by decide +kernel
theorem dX9_held_2 : decode cX9_held 2 = .ok (.getfield 22, 3) := by decide +kernel
theorem dX9_held_5 : decode cX9_held 5 = .ok (.iload_n 1, 1) := by decide +kernel
theorem dX9_held_6 : decode cX9_held 6 = .ok (.iaload, 1) := by decide +kernel
theorem dX9_held_7 : decode cX9_held 7 = .ok (.if_icmp .lt 8, 3) := by decide +kernel
theorem dX9_held_10 : decode cX9_held 10 = .ok (.bipush 12, 2) := by decide +kernel
theorem dX9_held_12 : decode cX9_held 12 = .ok (.goto 4, 3) := by decide +kernel
theorem dX9_held_15 : decode cX9_held 15 = .ok (.iload_n 2, 1) := by decide +kernel
theorem dX9_held_16 : decode cX9_held 16 = .ok (.ireturn, 1) := by decide +kernel
theorem dX9_work_0 : decode cX9_work 0 = .ok (.bipush 12, 2) := by decide +kernel
theorem dX9_work_2 : decode cX9_work 2 = .ok (.iload_n 1, 1) := by decide +kernel
theorem dX9_work_3 : decode cX9_work 3 = .ok (.imul, 1) := by decide +kernel
theorem dX9_work_4 : decode cX9_work 4 = .ok (.iload_n 2, 1) := by decide +kernel
theorem dX9_work_5 : decode cX9_work 5 = .ok (.iadd, 1) := by decide +kernel
theorem dX9_work_6 : decode cX9_work 6 = .ok (.istore 4, 2) := by decide +kernel
theorem dX9_work_8 : decode cX9_work 8 = .ok (.iload_n 3, 1) := by decide +kernel
theorem dX9_work_9 : decode cX9_work 9 = .ok (.aload_n 0, 1) := by decide +kernel
theorem dX9_work_10 : decode cX9_work 10 = .ok (.getfield 16, 3) := by decide +kernel
theorem dX9_work_13 : decode cX9_work 13 = .ok (.iload 4, 2) := by decide +kernel
theorem dX9_work_15 : decode cX9_work 15 = .ok (.iaload, 1) := by decide +kernel
theorem dX9_work_16 : decode cX9_work 16 = .ok (.iconst 3, 1) := by decide +kernel
theorem dX9_work_17 : decode cX9_work 17 = .ok (.iand, 1) := by decide +kernel
theorem dX9_work_18 : decode cX9_work 18 = .ok (.invokestatic 128, 3) := by decide +kernel
theorem dX9_work_21 : decode cX9_work 21 = .ok (.istore 5, 2) := by decide +kernel
theorem dX9_work_23 : decode cX9_work 23 = .ok (.iload_n 3, 1) := by decide +kernel
theorem dX9_work_24 : decode cX9_work 24 = .ok (.aload_n 0, 1) := by decide +kernel
theorem dX9_work_25 : decode cX9_work 25 = .ok (.getfield 19, 3) := by decide +kernel
theorem dX9_work_28 : decode cX9_work 28 = .ok (.iload 4, 2) := by decide +kernel
theorem dX9_work_30 : decode cX9_work 30 = .ok (.iaload, 1) := by decide +kernel
theorem dX9_work_31 : decode cX9_work 31 = .ok (.iconst 3, 1) := by decide +kernel
theorem dX9_work_32 : decode cX9_work 32 = .ok (.iand, 1) := by decide +kernel
theorem dX9_work_33 : decode cX9_work 33 = .ok (.invokestatic 128, 3) := by decide +kernel
theorem dX9_work_36 : decode cX9_work 36 = .ok (.istore 6, 2) := by decide +kernel
theorem dX9_work_38 : decode cX9_work 38 = .ok (.aload_n 0, 1) := by decide +kernel
theorem dX9_work_39 : decode cX9_work 39 = .ok (.iload_n 3, 1) := by decide +kernel
theorem dX9_work_40 : decode cX9_work 40 = .ok (.putfield 131, 3) := by decide +kernel
theorem dX9_work_43 : decode cX9_work 43 = .ok (.aload_n 0, 1) := by decide +kernel
theorem dX9_work_44 : decode cX9_work 44 = .ok (.aload_n 0, 1) := by decide +kernel
theorem dX9_work_45 : decode cX9_work 45 = .ok (.iload_n 1, 1) := by decide +kernel
theorem dX9_work_46 : decode cX9_work 46 = .ok (.iload_n 2, 1) := by decide +kernel
theorem dX9_work_47 : decode cX9_work 47 = .ok (.iconst 1, 1) := by decide +kernel
theorem dX9_work_48 : decode cX9_work 48 = .ok (.iadd, 1) := by decide +kernel
theorem dX9_work_49 : decode cX9_work 49 = .ok (.invokevirtual 134, 3) := by decide +kernel
theorem dX9_work_52 : decode cX9_work 52 = .ok (.putfield 137, 3) := by decide +kernel
theorem dX9_work_55 : decode cX9_work 55 = .ok (.aload_n 0, 1) := by decide +kernel
theorem dX9_work_56 : decode cX9_work 56 = .ok (.iconst 0, 1) := by decide +kernel
theorem dX9_work_57 : decode cX9_work 57 = .ok (.putfield 140, 3) := by decide +kernel
theorem dX9_work_60 : decode cX9_work 60 = .ok (.aload_n 0, 1) := by decide +kernel
theorem dX9_work_61 : decode cX9_work 61 = .ok (.getfield 7, 3) := by decide +kernel
theorem dX9_work_64 : decode cX9_work 64 = .ok (.iload 4, 2) := by decide +kernel
theorem dX9_work_66 : decode cX9_work 66 = .ok (.iaload, 1) := by decide +kernel
theorem dX9_work_67 : decode cX9_work 67 = .ok (.tableswitch 253 0 7 #[45, 70, 90, 115, 140, 204, 253, 244], 45) := by decide +kernel
theorem dX9_work_112 : decode cX9_work 112 = .ok (.aload_n 0, 1) := by decide +kernel
theorem dX9_work_113 : decode cX9_work 113 = .ok (.iload_n 3, 1) := by decide +kernel
theorem dX9_work_114 : decode cX9_work 114 = .ok (.aload_n 0, 1) := by decide +kernel
theorem dX9_work_115 : decode cX9_work 115 = .ok (.getfield 13, 3) := by decide +kernel
theorem dX9_work_118 : decode cX9_work 118 = .ok (.iload 4, 2) := by decide +kernel
theorem dX9_work_120 : decode cX9_work 120 = .ok (.iaload, 1) := by decide +kernel
theorem dX9_work_121 : decode cX9_work 121 = .ok (.aload_n 0, 1) := by decide +kernel
theorem dX9_work_122 : decode cX9_work 122 = .ok (.getfield 16, 3) := by decide +kernel
theorem dX9_work_125 : decode cX9_work 125 = .ok (.iload 4, 2) := by decide +kernel
theorem dX9_work_127 : decode cX9_work 127 = .ok (.iaload, 1) := by decide +kernel
theorem dX9_work_128 : decode cX9_work 128 = .ok (.invokestatic 143, 3) := by decide +kernel
theorem dX9_work_131 : decode cX9_work 131 = .ok (.putfield 131, 3) := by decide +kernel
theorem dX9_work_134 : decode cX9_work 134 = .ok (.goto 186, 3) := by decide +kernel
theorem dX9_work_137 : decode cX9_work 137 = .ok (.aload_n 0, 1) := by decide +kernel
theorem dX9_work_138 : decode cX9_work 138 = .ok (.iload_n 3, 1) := by decide +kernel
theorem dX9_work_139 : decode cX9_work 139 = .ok (.aload_n 0, 1) := by decide +kernel
theorem dX9_work_140 : decode cX9_work 140 = .ok (.getfield 13, 3) := by decide +kernel
theorem dX9_work_143 : decode cX9_work 143 = .ok (.iload 4, 2) := by decide +kernel
theorem dX9_work_145 : decode cX9_work 145 = .ok (.iaload, 1) := by decide +kernel
theorem dX9_work_146 : decode cX9_work 146 = .ok (.iload 5, 2) := by decide +kernel
theorem dX9_work_148 : decode cX9_work 148 = .ok (.invokestatic 143, 3) := by decide +kernel
theorem dX9_work_151 : decode cX9_work 151 = .ok (.putfield 131, 3) := by decide +kernel
theorem dX9_work_154 : decode cX9_work 154 = .ok (.goto 166, 3) := by decide +kernel
theorem dX9_work_157 : decode cX9_work 157 = .ok (.aload_n 0, 1) := by decide +kernel
theorem dX9_work_158 : decode cX9_work 158 = .ok (.iload_n 3, 1) := by decide +kernel
theorem dX9_work_159 : decode cX9_work 159 = .ok (.aload_n 0, 1) := by decide +kernel
theorem dX9_work_160 : decode cX9_work 160 = .ok (.getfield 13, 3) := by decide +kernel
theorem dX9_work_163 : decode cX9_work 163 = .ok (.iload 4, 2) := by decide +kernel
theorem dX9_work_165 : decode cX9_work 165 = .ok (.iaload, 1) := by decide +kernel
theorem dX9_work_166 : decode cX9_work 166 = .ok (.iload 5, 2) := by decide +kernel
theorem dX9_work_168 : decode cX9_work 168 = .ok (.iload 6, 2) := by decide +kernel
theorem dX9_work_170 : decode cX9_work 170 = .ok (.iadd, 1) := by decide +kernel
theorem dX9_work_171 : decode cX9_work 171 = .ok (.iconst 3, 1) := by decide +kernel
theorem dX9_work_172 : decode cX9_work 172 = .ok (.iand, 1) := by decide +kernel
theorem dX9_work_173 : decode cX9_work 173 = .ok (.invokestatic 143, 3) := by decide +kernel
theorem dX9_work_176 : decode cX9_work 176 = .ok (.putfield 131, 3) := by decide +kernel
theorem dX9_work_179 : decode cX9_work 179 = .ok (.goto 141, 3) := by decide +kernel
theorem dX9_work_182 : decode cX9_work 182 = .ok (.aload_n 0, 1) := by decide +kernel
theorem dX9_work_183 : decode cX9_work 183 = .ok (.iload_n 3, 1) := by decide +kernel
theorem dX9_work_184 : decode cX9_work 184 = .ok (.aload_n 0, 1) := by decide +kernel
theorem dX9_work_185 : decode cX9_work 185 = .ok (.getfield 13, 3) := by decide +kernel
theorem dX9_work_188 : decode cX9_work 188 = .ok (.iload 4, 2) := by decide +kernel
theorem dX9_work_190 : decode cX9_work 190 = .ok (.iaload, 1) := by decide +kernel
theorem dX9_work_191 : decode cX9_work 191 = .ok (.iload 5, 2) := by decide +kernel
theorem dX9_work_193 : decode cX9_work 193 = .ok (.iload 6, 2) := by decide +kernel
theorem dX9_work_195 : decode cX9_work 195 = .ok (.isub, 1) := by decide +kernel
theorem dX9_work_196 : decode cX9_work 196 = .ok (.iconst 3, 1) := by decide +kernel
theorem dX9_work_197 : decode cX9_work 197 = .ok (.iand, 1) := by decide +kernel
theorem dX9_work_198 : decode cX9_work 198 = .ok (.invokestatic 143, 3) := by decide +kernel
theorem dX9_work_201 : decode cX9_work 201 = .ok (.putfield 131, 3) := by decide +kernel
theorem dX9_work_204 : decode cX9_work 204 = .ok (.goto 116, 3) := by decide +kernel
theorem dX9_work_207 : decode cX9_work 207 = .ok (.aload_n 0, 1) := by decide +kernel
theorem dX9_work_208 : decode cX9_work 208 = .ok (.iload 6, 2) := by decide +kernel
theorem dX9_work_210 : decode cX9_work 210 = .ok (.ifCond .ne 7, 3) := by decide +kernel
theorem dX9_work_213 : decode cX9_work 213 = .ok (.iconst 1, 1) := by decide +kernel
theorem dX9_work_214 : decode cX9_work 214 = .ok (.goto 4, 3) := by decide +kernel
theorem dX9_work_217 : decode cX9_work 217 = .ok (.iconst 0, 1) := by decide +kernel
theorem dX9_work_218 : decode cX9_work 218 = .ok (.putfield 140, 3) := by decide +kernel
theorem dX9_work_221 : decode cX9_work 221 = .ok (.aload_n 0, 1) := by decide +kernel
theorem dX9_work_222 : decode cX9_work 222 = .ok (.iload 6, 2) := by decide +kernel
theorem dX9_work_224 : decode cX9_work 224 = .ok (.ifCond .ne 7, 3) := by decide +kernel
theorem dX9_work_227 : decode cX9_work 227 = .ok (.iload_n 3, 1) := by decide +kernel
theorem dX9_work_228 : decode cX9_work 228 = .ok (.goto 19, 3) := by decide +kernel
theorem dX9_work_231 : decode cX9_work 231 = .ok (.iload_n 3, 1) := by decide +kernel
theorem dX9_work_232 : decode cX9_work 232 = .ok (.aload_n 0, 1) := by decide +kernel
theorem dX9_work_233 : decode cX9_work 233 = .ok (.getfield 13, 3) := by decide +kernel
theorem dX9_work_236 : decode cX9_work 236 = .ok (.iload 4, 2) := by decide +kernel
theorem dX9_work_238 : decode cX9_work 238 = .ok (.iaload, 1) := by decide +kernel
theorem dX9_work_239 : decode cX9_work 239 = .ok (.iload 5, 2) := by decide +kernel
theorem dX9_work_241 : decode cX9_work 241 = .ok (.iload 6, 2) := by decide +kernel
theorem dX9_work_243 : decode cX9_work 243 = .ok (.irem, 1) := by decide +kernel
theorem dX9_work_244 : decode cX9_work 244 = .ok (.invokestatic 143, 3) := by decide +kernel
theorem dX9_work_247 : decode cX9_work 247 = .ok (.putfield 131, 3) := by decide +kernel
theorem dX9_work_250 : decode cX9_work 250 = .ok (.aload_n 0, 1) := by decide +kernel
theorem dX9_work_251 : decode cX9_work 251 = .ok (.iload 6, 2) := by decide +kernel
theorem dX9_work_253 : decode cX9_work 253 = .ok (.ifCond .ne 8, 3) := by decide +kernel
theorem dX9_work_256 : decode cX9_work 256 = .ok (.bipush 12, 2) := by decide +kernel
theorem dX9_work_258 : decode cX9_work 258 = .ok (.goto 7, 3) := by decide +kernel
theorem dX9_work_261 : decode cX9_work 261 = .ok (.aload_n 0, 1) := by decide +kernel
theorem dX9_work_262 : decode cX9_work 262 = .ok (.getfield 137, 3) := by decide +kernel
theorem dX9_work_265 : decode cX9_work 265 = .ok (.putfield 137, 3) := by decide +kernel
theorem dX9_work_268 : decode cX9_work 268 = .ok (.goto 52, 3) := by decide +kernel
theorem dX9_work_271 : decode cX9_work 271 = .ok (.aload_n 0, 1) := by decide +kernel
theorem dX9_work_272 : decode cX9_work 272 = .ok (.iload_n 3, 1) := by decide +kernel
theorem dX9_work_273 : decode cX9_work 273 = .ok (.aload_n 0, 1) := by decide +kernel
theorem dX9_work_274 : decode cX9_work 274 = .ok (.getfield 13, 3) := by decide +kernel
theorem dX9_work_277 : decode cX9_work 277 = .ok (.iload 4, 2) := by decide +kernel
theorem dX9_work_279 : decode cX9_work 279 = .ok (.iaload, 1) := by decide +kernel
theorem dX9_work_280 : decode cX9_work 280 = .ok (.invokestatic 128, 3) := by decide +kernel
theorem dX9_work_283 : decode cX9_work 283 = .ok (.ifCond .le 18, 3) := by decide +kernel
theorem dX9_work_286 : decode cX9_work 286 = .ok (.aload_n 0, 1) := by decide +kernel
theorem dX9_work_287 : decode cX9_work 287 = .ok (.iload_n 1, 1) := by decide +kernel
theorem dX9_work_288 : decode cX9_work 288 = .ok (.aload_n 0, 1) := by decide +kernel
theorem dX9_work_289 : decode cX9_work 289 = .ok (.getfield 16, 3) := by decide +kernel
theorem dX9_work_292 : decode cX9_work 292 = .ok (.iload 4, 2) := by decide +kernel
theorem dX9_work_294 : decode cX9_work 294 = .ok (.iaload, 1) := by decide +kernel
theorem dX9_work_295 : decode cX9_work 295 = .ok (.invokevirtual 134, 3) := by decide +kernel
theorem dX9_work_298 : decode cX9_work 298 = .ok (.goto 7, 3) := by decide +kernel
theorem dX9_work_301 : decode cX9_work 301 = .ok (.aload_n 0, 1) := by decide +kernel
theorem dX9_work_302 : decode cX9_work 302 = .ok (.getfield 137, 3) := by decide +kernel
theorem dX9_work_305 : decode cX9_work 305 = .ok (.putfield 137, 3) := by decide +kernel
theorem dX9_work_308 : decode cX9_work 308 = .ok (.goto 12, 3) := by decide +kernel
theorem dX9_work_311 : decode cX9_work 311 = .ok (.aload_n 0, 1) := by decide +kernel
theorem dX9_work_312 : decode cX9_work 312 = .ok (.bipush 12, 2) := by decide +kernel
theorem dX9_work_314 : decode cX9_work 314 = .ok (.putfield 137, 3) := by decide +kernel
theorem dX9_work_317 : decode cX9_work 317 = .ok (.goto 3, 3) := by decide +kernel
theorem dX9_work_320 : decode cX9_work 320 = .ok (.return_, 1) := by decide +kernel
theorem dX9_layTable_0 : decode cX9_layTable 0 = .ok (.iconst 0, 1) := by decide +kernel
theorem dX9_layTable_1 : decode cX9_layTable 1 = .ok (.istore_n 2, 1) := by decide +kernel
theorem dX9_layTable_2 : decode cX9_layTable 2 = .ok (.iload_n 2, 1) := by decide +kernel
theorem dX9_layTable_3 : decode cX9_layTable 3 = .ok (.aload_n 0, 1) := by decide +kernel
theorem dX9_layTable_4 : decode cX9_layTable 4 = .ok (.getfield 22, 3) := by decide +kernel
theorem dX9_layTable_7 : decode cX9_layTable 7 = .ok (.iload_n 1, 1) := by decide +kernel
theorem dX9_layTable_8 : decode cX9_layTable 8 = .ok (.iaload, 1) := by decide +kernel
theorem dX9_layTable_9 : decode cX9_layTable 9 = .ok (.if_icmp .ge 79, 3) := by decide +kernel
theorem dX9_layTable_12 : decode cX9_layTable 12 = .ok (.aload_n 0, 1) := by decide +kernel
theorem dX9_layTable_13 : decode cX9_layTable 13 = .ok (.getfield 28, 3) := by decide +kernel
theorem dX9_layTable_16 : decode cX9_layTable 16 = .ok (.iload_n 1, 1) := by decide +kernel
theorem dX9_layTable_17 : decode cX9_layTable 17 = .ok (.baload, 1) := by decide +kernel
theorem dX9_layTable_18 : decode cX9_layTable 18 = .ok (.ifCond .ne 70, 3) := by decide +kernel
theorem dX9_layTable_21 : decode cX9_layTable 21 = .ok (.iconst 0, 1) := by decide +kernel
theorem dX9_layTable_22 : decode cX9_layTable 22 = .ok (.istore_n 3, 1) := by decide +kernel
theorem dX9_layTable_23 : decode cX9_layTable 23 = .ok (.iload_n 3, 1) := by decide +kernel
theorem dX9_layTable_24 : decode cX9_layTable 24 = .ok (.sipush 256, 3) := by decide +kernel
theorem dX9_layTable_27 : decode cX9_layTable 27 = .ok (.if_icmp .ge 55, 3) := by decide +kernel
theorem dX9_layTable_30 : decode cX9_layTable 30 = .ok (.aload_n 0, 1) := by decide +kernel
theorem dX9_layTable_31 : decode cX9_layTable 31 = .ok (.iload_n 1, 1) := by decide +kernel
theorem dX9_layTable_32 : decode cX9_layTable 32 = .ok (.iload_n 2, 1) := by decide +kernel
theorem dX9_layTable_33 : decode cX9_layTable 33 = .ok (.iload_n 3, 1) := by decide +kernel
theorem dX9_layTable_34 : decode cX9_layTable 34 = .ok (.invokevirtual 147, 3) := by decide +kernel
theorem dX9_layTable_37 : decode cX9_layTable 37 = .ok (.aload_n 0, 1) := by decide +kernel
theorem dX9_layTable_38 : decode cX9_layTable 38 = .ok (.getfield 32, 3) := by decide +kernel
theorem dX9_layTable_41 : decode cX9_layTable 41 = .ok (.sipush 256, 3) := by decide +kernel
theorem dX9_layTable_44 : decode cX9_layTable 44 = .ok (.bipush 12, 2) := by decide +kernel
theorem dX9_layTable_46 : decode cX9_layTable 46 = .ok (.iload_n 1, 1) := by decide +kernel
theorem dX9_layTable_47 : decode cX9_layTable 47 = .ok (.imul, 1) := by decide +kernel
theorem dX9_layTable_48 : decode cX9_layTable 48 = .ok (.iload_n 2, 1) := by decide +kernel
theorem dX9_layTable_49 : decode cX9_layTable 49 = .ok (.iadd, 1) := by decide +kernel
theorem dX9_layTable_50 : decode cX9_layTable 50 = .ok (.imul, 1) := by decide +kernel
theorem dX9_layTable_51 : decode cX9_layTable 51 = .ok (.iload_n 3, 1) := by decide +kernel
theorem dX9_layTable_52 : decode cX9_layTable 52 = .ok (.iadd, 1) := by decide +kernel
theorem dX9_layTable_53 : decode cX9_layTable 53 = .ok (.sipush 256, 3) := by decide +kernel
theorem dX9_layTable_56 : decode cX9_layTable 56 = .ok (.aload_n 0, 1) := by decide +kernel
theorem dX9_layTable_57 : decode cX9_layTable 57 = .ok (.getfield 137, 3) := by decide +kernel
theorem dX9_layTable_60 : decode cX9_layTable 60 = .ok (.imul, 1) := by decide +kernel
theorem dX9_layTable_61 : decode cX9_layTable 61 = .ok (.aload_n 0, 1) := by decide +kernel
theorem dX9_layTable_62 : decode cX9_layTable 62 = .ok (.getfield 131, 3) := by decide +kernel
theorem dX9_layTable_65 : decode cX9_layTable 65 = .ok (.iadd, 1) := by decide +kernel
theorem dX9_layTable_66 : decode cX9_layTable 66 = .ok (.sipush 4096, 3) := by decide +kernel
theorem dX9_layTable_69 : decode cX9_layTable 69 = .ok (.aload_n 0, 1) := by decide +kernel
theorem dX9_layTable_70 : decode cX9_layTable 70 = .ok (.getfield 140, 3) := by decide +kernel
theorem dX9_layTable_73 : decode cX9_layTable 73 = .ok (.imul, 1) := by decide +kernel
theorem dX9_layTable_74 : decode cX9_layTable 74 = .ok (.iadd, 1) := by decide +kernel
theorem dX9_layTable_75 : decode cX9_layTable 75 = .ok (.iastore, 1) := by decide +kernel
theorem dX9_layTable_76 : decode cX9_layTable 76 = .ok (.iinc 3 1, 3) := by decide +kernel
theorem dX9_layTable_79 : decode cX9_layTable 79 = .ok (.goto (-56), 3) := by decide +kernel
theorem dX9_layTable_82 : decode cX9_layTable 82 = .ok (.iinc 2 1, 3) := by decide +kernel
theorem dX9_layTable_85 : decode cX9_layTable 85 = .ok (.goto (-83), 3) := by decide +kernel
theorem dX9_layTable_88 : decode cX9_layTable 88 = .ok (.aload_n 0, 1) := by decide +kernel
theorem dX9_layTable_89 : decode cX9_layTable 89 = .ok (.getfield 28, 3) := by decide +kernel
theorem dX9_layTable_92 : decode cX9_layTable 92 = .ok (.iload_n 1, 1) := by decide +kernel
theorem dX9_layTable_93 : decode cX9_layTable 93 = .ok (.iconst 1, 1) := by decide +kernel
theorem dX9_layTable_94 : decode cX9_layTable 94 = .ok (.bastore, 1) := by decide +kernel
theorem dX9_layTable_95 : decode cX9_layTable 95 = .ok (.return_, 1) := by decide +kernel
theorem dX9_step_0 : decode cX9_step 0 = .ok (.aload_n 0, 1) := by decide +kernel
theorem dX9_step_1 : decode cX9_step 1 = .ok (.getfield 32, 3) := by decide +kernel
theorem dX9_step_4 : decode cX9_step 4 = .ok (.sipush 256, 3) := by decide +kernel
theorem dX9_step_7 : decode cX9_step 7 = .ok (.bipush 12, 2) := by decide +kernel
theorem dX9_step_9 : decode cX9_step 9 = .ok (.iload_n 1, 1) := by decide +kernel
theorem dX9_step_10 : decode cX9_step 10 = .ok (.imul, 1) := by decide +kernel
theorem dX9_step_11 : decode cX9_step 11 = .ok (.iload_n 2, 1) := by decide +kernel
theorem dX9_step_12 : decode cX9_step 12 = .ok (.iadd, 1) := by decide +kernel
theorem dX9_step_13 : decode cX9_step 13 = .ok (.imul, 1) := by decide +kernel
theorem dX9_step_14 : decode cX9_step 14 = .ok (.iload_n 3, 1) := by decide +kernel
theorem dX9_step_15 : decode cX9_step 15 = .ok (.iadd, 1) := by decide +kernel
theorem dX9_step_16 : decode cX9_step 16 = .ok (.iaload, 1) := by decide +kernel
theorem dX9_step_17 : decode cX9_step 17 = .ok (.istore 4, 2) := by decide +kernel
theorem dX9_step_19 : decode cX9_step 19 = .ok (.aload_n 0, 1) := by decide +kernel
theorem dX9_step_20 : decode cX9_step 20 = .ok (.iload 4, 2) := by decide +kernel
theorem dX9_step_22 : decode cX9_step 22 = .ok (.bipush 12, 2) := by decide +kernel
theorem dX9_step_24 : decode cX9_step 24 = .ok (.ishr, 1) := by decide +kernel
theorem dX9_step_25 : decode cX9_step 25 = .ok (.putfield 140, 3) := by decide +kernel
theorem dX9_step_28 : decode cX9_step 28 = .ok (.aload_n 0, 1) := by decide +kernel
theorem dX9_step_29 : decode cX9_step 29 = .ok (.iload 4, 2) := by decide +kernel
theorem dX9_step_31 : decode cX9_step 31 = .ok (.bipush 8, 2) := by decide +kernel
theorem dX9_step_33 : decode cX9_step 33 = .ok (.ishr, 1) := by decide +kernel
theorem dX9_step_34 : decode cX9_step 34 = .ok (.bipush 15, 2) := by decide +kernel
theorem dX9_step_36 : decode cX9_step 36 = .ok (.iand, 1) := by decide +kernel
theorem dX9_step_37 : decode cX9_step 37 = .ok (.putfield 137, 3) := by decide +kernel
theorem dX9_step_40 : decode cX9_step 40 = .ok (.aload_n 0, 1) := by decide +kernel
theorem dX9_step_41 : decode cX9_step 41 = .ok (.iload 4, 2) := by decide +kernel
theorem dX9_step_43 : decode cX9_step 43 = .ok (.sipush 255, 3) := by decide +kernel
theorem dX9_step_46 : decode cX9_step 46 = .ok (.iand, 1) := by decide +kernel
theorem dX9_step_47 : decode cX9_step 47 = .ok (.putfield 131, 3) := by decide +kernel
theorem dX9_step_50 : decode cX9_step 50 = .ok (.return_, 1) := by decide +kernel
theorem dX9_runOne_0 : decode cX9_runOne 0 = .ok (.aload_n 0, 1) := by decide +kernel
theorem dX9_runOne_1 : decode cX9_runOne 1 = .ok (.iload_n 1, 1) := by decide +kernel
theorem dX9_runOne_2 : decode cX9_runOne 2 = .ok (.invokevirtual 151, 3) := by decide +kernel
theorem dX9_runOne_5 : decode cX9_runOne 5 = .ok (.aload_n 0, 1) := by decide +kernel
theorem dX9_runOne_6 : decode cX9_runOne 6 = .ok (.iload_n 1, 1) := by decide +kernel
theorem dX9_runOne_7 : decode cX9_runOne 7 = .ok (.iconst 0, 1) := by decide +kernel
theorem dX9_runOne_8 : decode cX9_runOne 8 = .ok (.invokevirtual 134, 3) := by decide +kernel
theorem dX9_runOne_11 : decode cX9_runOne 11 = .ok (.istore 4, 2) := by decide +kernel
theorem dX9_runOne_13 : decode cX9_runOne 13 = .ok (.iload_n 2, 1) := by decide +kernel
theorem dX9_runOne_14 : decode cX9_runOne 14 = .ok (.istore 5, 2) := by decide +kernel
theorem dX9_runOne_16 : decode cX9_runOne 16 = .ok (.iconst 0, 1) := by decide +kernel
theorem dX9_runOne_17 : decode cX9_runOne 17 = .ok (.istore 6, 2) := by decide +kernel
theorem dX9_runOne_19 : decode cX9_runOne 19 = .ok (.iconst 0, 1) := by decide +kernel
theorem dX9_runOne_20 : decode cX9_runOne 20 = .ok (.istore 7, 2) := by decide +kernel
theorem dX9_runOne_22 : decode cX9_runOne 22 = .ok (.aload_n 0, 1) := by decide +kernel
theorem dX9_runOne_23 : decode cX9_runOne 23 = .ok (.getfield 44, 3) := by decide +kernel
theorem dX9_runOne_26 : decode cX9_runOne 26 = .ok (.iload_n 3, 1) := by decide +kernel
theorem dX9_runOne_27 : decode cX9_runOne 27 = .ok (.iconst 0, 1) := by decide +kernel
theorem dX9_runOne_28 : decode cX9_runOne 28 = .ok (.iastore, 1) := by decide +kernel
theorem dX9_runOne_29 : decode cX9_runOne 29 = .ok (.iload 4, 2) := by decide +kernel
theorem dX9_runOne_31 : decode cX9_runOne 31 = .ok (.bipush 12, 2) := by decide +kernel
theorem dX9_runOne_33 : decode cX9_runOne 33 = .ok (.if_icmp .ge 117, 3) := by decide +kernel
theorem dX9_runOne_36 : decode cX9_runOne 36 = .ok (.iload 6, 2) := by decide +kernel
theorem dX9_runOne_38 : decode cX9_runOne 38 = .ok (.bipush 24, 2) := by decide +kernel
theorem dX9_runOne_40 : decode cX9_runOne 40 = .ok (.if_icmp .ge 110, 3) := by decide +kernel
theorem dX9_runOne_43 : decode cX9_runOne 43 = .ok (.aload_n 0, 1) := by decide +kernel
theorem dX9_runOne_44 : decode cX9_runOne 44 = .ok (.getfield 7, 3) := by decide +kernel
theorem dX9_runOne_47 : decode cX9_runOne 47 = .ok (.bipush 12, 2) := by decide +kernel
theorem dX9_runOne_49 : decode cX9_runOne 49 = .ok (.iload_n 1, 1) := by decide +kernel
theorem dX9_runOne_50 : decode cX9_runOne 50 = .ok (.imul, 1) := by decide +kernel
theorem dX9_runOne_51 : decode cX9_runOne 51 = .ok (.iload 4, 2) := by decide +kernel
theorem dX9_runOne_53 : decode cX9_runOne 53 = .ok (.iadd, 1) := by decide +kernel
theorem dX9_runOne_54 : decode cX9_runOne 54 = .ok (.iaload, 1) := by decide +kernel
theorem dX9_runOne_55 : decode cX9_runOne 55 = .ok (.bipush 6, 2) := by decide +kernel
theorem dX9_runOne_57 : decode cX9_runOne 57 = .ok (.if_icmp .ne 60, 3) := by decide +kernel
theorem dX9_runOne_60 : decode cX9_runOne 60 = .ok (.aload_n 0, 1) := by decide +kernel
theorem dX9_runOne_61 : decode cX9_runOne 61 = .ok (.getfield 25, 3) := by decide +kernel
theorem dX9_runOne_64 : decode cX9_runOne 64 = .ok (.iload_n 1, 1) := by decide +kernel
theorem dX9_runOne_65 : decode cX9_runOne 65 = .ok (.iaload, 1) := by decide +kernel
theorem dX9_runOne_66 : decode cX9_runOne 66 = .ok (.iload 4, 2) := by decide +kernel
theorem dX9_runOne_68 : decode cX9_runOne 68 = .ok (.ishr, 1) := by decide +kernel
theorem dX9_runOne_69 : decode cX9_runOne 69 = .ok (.iconst 1, 1) := by decide +kernel
theorem dX9_runOne_70 : decode cX9_runOne 70 = .ok (.iand, 1) := by decide +kernel
theorem dX9_runOne_71 : decode cX9_runOne 71 = .ok (.ifCond .ne 46, 3) := by decide +kernel
theorem dX9_runOne_74 : decode cX9_runOne 74 = .ok (.aload_n 0, 1) := by decide +kernel
theorem dX9_runOne_75 : decode cX9_runOne 75 = .ok (.getfield 47, 3) := by decide +kernel
theorem dX9_runOne_78 : decode cX9_runOne 78 = .ok (.bipush 24, 2) := by decide +kernel
theorem dX9_runOne_80 : decode cX9_runOne 80 = .ok (.iload_n 3, 1) := by decide +kernel
theorem dX9_runOne_81 : decode cX9_runOne 81 = .ok (.imul, 1) := by decide +kernel
theorem dX9_runOne_82 : decode cX9_runOne 82 = .ok (.aload_n 0, 1) := by decide +kernel
theorem dX9_runOne_83 : decode cX9_runOne 83 = .ok (.getfield 44, 3) := by decide +kernel
theorem dX9_runOne_86 : decode cX9_runOne 86 = .ok (.iload_n 3, 1) := by decide +kernel
theorem dX9_runOne_87 : decode cX9_runOne 87 = .ok (.iaload, 1) := by decide +kernel
theorem dX9_runOne_88 : decode cX9_runOne 88 = .ok (.iadd, 1) := by decide +kernel
theorem dX9_runOne_89 : decode cX9_runOne 89 = .ok (.iload 5, 2) := by decide +kernel
theorem dX9_runOne_91 : decode cX9_runOne 91 = .ok (.aload_n 0, 1) := by decide +kernel
theorem dX9_runOne_92 : decode cX9_runOne 92 = .ok (.getfield 13, 3) := by decide +kernel
theorem dX9_runOne_95 : decode cX9_runOne 95 = .ok (.bipush 12, 2) := by decide +kernel
theorem dX9_runOne_97 : decode cX9_runOne 97 = .ok (.iload_n 1, 1) := by decide +kernel
theorem dX9_runOne_98 : decode cX9_runOne 98 = .ok (.imul, 1) := by decide +kernel
theorem dX9_runOne_99 : decode cX9_runOne 99 = .ok (.iload 4, 2) := by decide +kernel
theorem dX9_runOne_101 : decode cX9_runOne 101 = .ok (.iadd, 1) := by decide +kernel
theorem dX9_runOne_102 : decode cX9_runOne 102 = .ok (.iaload, 1) := by decide +kernel
theorem dX9_runOne_103 : decode cX9_runOne 103 = .ok (.invokestatic 128, 3) := by decide +kernel
theorem dX9_runOne_106 : decode cX9_runOne 106 = .ok (.iastore, 1) := by decide +kernel
theorem dX9_runOne_107 : decode cX9_runOne 107 = .ok (.aload_n 0, 1) := by decide +kernel
theorem dX9_runOne_108 : decode cX9_runOne 108 = .ok (.getfield 44, 3) := by decide +kernel
theorem dX9_runOne_111 : decode cX9_runOne 111 = .ok (.iload_n 3, 1) := by decide +kernel
theorem dX9_runOne_112 : decode cX9_runOne 112 = .ok (.dup2, 1) := by decide +kernel
theorem dX9_runOne_113 : decode cX9_runOne 113 = .ok (.iaload, 1) := by decide +kernel
theorem dX9_runOne_114 : decode cX9_runOne 114 = .ok (.iconst 1, 1) := by decide +kernel
theorem dX9_runOne_115 : decode cX9_runOne 115 = .ok (.iadd, 1) := by decide +kernel
theorem dX9_runOne_116 : decode cX9_runOne 116 = .ok (.iastore, 1) := by decide +kernel
theorem dX9_runOne_117 : decode cX9_runOne 117 = .ok (.aload_n 0, 1) := by decide +kernel
theorem dX9_runOne_118 : decode cX9_runOne 118 = .ok (.iload_n 1, 1) := by decide +kernel
theorem dX9_runOne_119 : decode cX9_runOne 119 = .ok (.iload 4, 2) := by decide +kernel
theorem dX9_runOne_121 : decode cX9_runOne 121 = .ok (.iload 5, 2) := by decide +kernel
theorem dX9_runOne_123 : decode cX9_runOne 123 = .ok (.invokevirtual 154, 3) := by decide +kernel
theorem dX9_runOne_126 : decode cX9_runOne 126 = .ok (.aload_n 0, 1) := by decide +kernel
theorem dX9_runOne_127 : decode cX9_runOne 127 = .ok (.getfield 140, 3) := by decide +kernel
theorem dX9_runOne_130 : decode cX9_runOne 130 = .ok (.istore 7, 2) := by decide +kernel
theorem dX9_runOne_132 : decode cX9_runOne 132 = .ok (.aload_n 0, 1) := by decide +kernel
theorem dX9_runOne_133 : decode cX9_runOne 133 = .ok (.getfield 137, 3) := by decide +kernel
theorem dX9_runOne_136 : decode cX9_runOne 136 = .ok (.istore 4, 2) := by decide +kernel
theorem dX9_runOne_138 : decode cX9_runOne 138 = .ok (.aload_n 0, 1) := by decide +kernel
theorem dX9_runOne_139 : decode cX9_runOne 139 = .ok (.getfield 131, 3) := by decide +kernel
theorem dX9_runOne_142 : decode cX9_runOne 142 = .ok (.istore 5, 2) := by decide +kernel
theorem dX9_runOne_144 : decode cX9_runOne 144 = .ok (.iinc 6 1, 3) := by decide +kernel
theorem dX9_runOne_147 : decode cX9_runOne 147 = .ok (.goto (-118), 3) := by decide +kernel
theorem dX9_runOne_150 : decode cX9_runOne 150 = .ok (.aload_n 0, 1) := by decide +kernel
theorem dX9_runOne_151 : decode cX9_runOne 151 = .ok (.getfield 35, 3) := by decide +kernel
theorem dX9_runOne_154 : decode cX9_runOne 154 = .ok (.iload_n 3, 1) := by decide +kernel
theorem dX9_runOne_155 : decode cX9_runOne 155 = .ok (.iload 4, 2) := by decide +kernel
theorem dX9_runOne_157 : decode cX9_runOne 157 = .ok (.bipush 12, 2) := by decide +kernel
theorem dX9_runOne_159 : decode cX9_runOne 159 = .ok (.if_icmp .ge 7, 3) := by decide +kernel
theorem dX9_runOne_162 : decode cX9_runOne 162 = .ok (.iconst 2, 1) := by decide +kernel
theorem dX9_runOne_163 : decode cX9_runOne 163 = .ok (.goto 5, 3) := by decide +kernel
theorem dX9_runOne_166 : decode cX9_runOne 166 = .ok (.iload 7, 2) := by decide +kernel
theorem dX9_runOne_168 : decode cX9_runOne 168 = .ok (.iastore, 1) := by decide +kernel
theorem dX9_runOne_169 : decode cX9_runOne 169 = .ok (.aload_n 0, 1) := by decide +kernel
theorem dX9_runOne_170 : decode cX9_runOne 170 = .ok (.getfield 38, 3) := by decide +kernel
theorem dX9_runOne_173 : decode cX9_runOne 173 = .ok (.iload_n 3, 1) := by decide +kernel
theorem dX9_runOne_174 : decode cX9_runOne 174 = .ok (.iload 5, 2) := by decide +kernel
theorem dX9_runOne_176 : decode cX9_runOne 176 = .ok (.iastore, 1) := by decide +kernel
theorem dX9_runOne_177 : decode cX9_runOne 177 = .ok (.aload_n 0, 1) := by decide +kernel
theorem dX9_runOne_178 : decode cX9_runOne 178 = .ok (.getfield 41, 3) := by decide +kernel
theorem dX9_runOne_181 : decode cX9_runOne 181 = .ok (.iload_n 3, 1) := by decide +kernel
theorem dX9_runOne_182 : decode cX9_runOne 182 = .ok (.iload 6, 2) := by decide +kernel
theorem dX9_runOne_184 : decode cX9_runOne 184 = .ok (.iastore, 1) := by decide +kernel
theorem dX9_runOne_185 : decode cX9_runOne 185 = .ok (.return_, 1) := by decide +kernel
theorem dX9_runAll_0 : decode cX9_runAll 0 = .ok (.iconst 0, 1) := by decide +kernel
theorem dX9_runAll_1 : decode cX9_runAll 1 = .ok (.istore_n 3, 1) := by decide +kernel
theorem dX9_runAll_2 : decode cX9_runAll 2 = .ok (.iload_n 3, 1) := by decide +kernel
theorem dX9_runAll_3 : decode cX9_runAll 3 = .ok (.sipush 256, 3) := by decide +kernel
theorem dX9_runAll_6 : decode cX9_runAll 6 = .ok (.if_icmp .ge 27, 3) := by decide +kernel
theorem dX9_runAll_9 : decode cX9_runAll 9 = .ok (.aload_n 0, 1) := by decide +kernel
theorem dX9_runAll_10 : decode cX9_runAll 10 = .ok (.iload_n 1, 1) := by decide +kernel
theorem dX9_runAll_11 : decode cX9_runAll 11 = .ok (.iload_n 3, 1) := by decide +kernel
theorem dX9_runAll_12 : decode cX9_runAll 12 = .ok (.iload_n 3, 1) := by decide +kernel
theorem dX9_runAll_13 : decode cX9_runAll 13 = .ok (.invokevirtual 157, 3) := by decide +kernel
theorem dX9_runAll_16 : decode cX9_runAll 16 = .ok (.aload_n 0, 1) := by decide +kernel
theorem dX9_runAll_17 : decode cX9_runAll 17 = .ok (.iload_n 2, 1) := by decide +kernel
theorem dX9_runAll_18 : decode cX9_runAll 18 = .ok (.iload_n 3, 1) := by decide +kernel
theorem dX9_runAll_19 : decode cX9_runAll 19 = .ok (.sipush 256, 3) := by decide +kernel
theorem dX9_runAll_22 : decode cX9_runAll 22 = .ok (.iload_n 3, 1) := by decide +kernel
theorem dX9_runAll_23 : decode cX9_runAll 23 = .ok (.iadd, 1) := by decide +kernel
theorem dX9_runAll_24 : decode cX9_runAll 24 = .ok (.invokevirtual 157, 3) := by decide +kernel
theorem dX9_runAll_27 : decode cX9_runAll 27 = .ok (.iinc 3 1, 3) := by decide +kernel
theorem dX9_runAll_30 : decode cX9_runAll 30 = .ok (.goto (-28), 3) := by decide +kernel
theorem dX9_runAll_33 : decode cX9_runAll 33 = .ok (.return_, 1) := by decide +kernel
theorem dX9_isStart_0 : decode cX9_isStart 0 = .ok (.iload_n 0, 1) := by decide +kernel
theorem dX9_isStart_1 : decode cX9_isStart 1 = .ok (.i2l, 1) := by decide +kernel
theorem dX9_isStart_2 : decode cX9_isStart 2 = .ok (.lconst 0, 1) := by decide +kernel
theorem dX9_isStart_3 : decode cX9_isStart 3 = .ok (.ldc2_w 160, 3) := by decide +kernel
theorem dX9_isStart_6 : decode cX9_isStart 6 = .ok (.invokestatic 101, 3) := by decide +kernel
theorem dX9_isStart_9 : decode cX9_isStart 9 = .ok (.ireturn, 1) := by decide +kernel
theorem dX9_run_0 : decode cX9_run 0 = .ok (.iload_n 1, 1) := by decide +kernel
theorem dX9_run_1 : decode cX9_run 1 = .ok (.invokestatic 111, 3) := by decide +kernel
theorem dX9_run_4 : decode cX9_run 4 = .ok (.ifCond .ne 5, 3) := by decide +kernel
theorem dX9_run_7 : decode cX9_run 7 = .ok (.iconst (-1), 1) := by decide +kernel
theorem dX9_run_8 : decode cX9_run 8 = .ok (.ireturn, 1) := by decide +kernel
theorem dX9_run_9 : decode cX9_run 9 = .ok (.iload_n 2, 1) := by decide +kernel
theorem dX9_run_10 : decode cX9_run 10 = .ok (.invokestatic 162, 3) := by decide +kernel
theorem dX9_run_13 : decode cX9_run 13 = .ok (.ifCond .eq 29, 3) := by decide +kernel
theorem dX9_run_16 : decode cX9_run 16 = .ok (.iload_n 3, 1) := by decide +kernel
theorem dX9_run_17 : decode cX9_run 17 = .ok (.i2l, 1) := by decide +kernel
theorem dX9_run_18 : decode cX9_run 18 = .ok (.lconst 0, 1) := by decide +kernel
theorem dX9_run_19 : decode cX9_run 19 = .ok (.ldc2_w 99, 3) := by decide +kernel
theorem dX9_run_22 : decode cX9_run 22 = .ok (.invokestatic 101, 3) := by decide +kernel
theorem dX9_run_25 : decode cX9_run 25 = .ok (.ifCond .ne 20, 3) := by decide +kernel
theorem dX9_run_28 : decode cX9_run 28 = .ok (.iload_n 3, 1) := by decide +kernel
theorem dX9_run_29 : decode cX9_run 29 = .ok (.i2l, 1) := by decide +kernel
theorem dX9_run_30 : decode cX9_run 30 = .ok (.ldc2_w 165, 3) := by decide +kernel
theorem dX9_run_33 : decode cX9_run 33 = .ok (.ldc2_w 167, 3) := by decide +kernel
theorem dX9_run_36 : decode cX9_run 36 = .ok (.invokestatic 101, 3) := by decide +kernel
theorem dX9_run_39 : decode cX9_run 39 = .ok (.ifCond .ne 6, 3) := by decide +kernel
theorem dX9_run_42 : decode cX9_run 42 = .ok (.bipush (-2), 2) := by decide +kernel
theorem dX9_run_44 : decode cX9_run 44 = .ok (.ireturn, 1) := by decide +kernel
theorem dX9_run_45 : decode cX9_run 45 = .ok (.aload_n 0, 1) := by decide +kernel
theorem dX9_run_46 : decode cX9_run 46 = .ok (.iload_n 1, 1) := by decide +kernel
theorem dX9_run_47 : decode cX9_run 47 = .ok (.iload_n 2, 1) := by decide +kernel
theorem dX9_run_48 : decode cX9_run 48 = .ok (.iconst 0, 1) := by decide +kernel
theorem dX9_run_49 : decode cX9_run 49 = .ok (.invokevirtual 157, 3) := by decide +kernel
theorem dX9_run_52 : decode cX9_run 52 = .ok (.iload_n 3, 1) := by decide +kernel
theorem dX9_run_53 : decode cX9_run 53 = .ok (.tableswitch 59 0 3 #[31, 38, 45, 52], 31) := by decide +kernel
theorem dX9_run_84 : decode cX9_run 84 = .ok (.aload_n 0, 1) := by decide +kernel
theorem dX9_run_85 : decode cX9_run 85 = .ok (.getfield 35, 3) := by decide +kernel
theorem dX9_run_88 : decode cX9_run 88 = .ok (.iconst 0, 1) := by decide +kernel
theorem dX9_run_89 : decode cX9_run 89 = .ok (.iaload, 1) := by decide +kernel
theorem dX9_run_90 : decode cX9_run 90 = .ok (.ireturn, 1) := by decide +kernel
theorem dX9_run_91 : decode cX9_run 91 = .ok (.aload_n 0, 1) := by decide +kernel
theorem dX9_run_92 : decode cX9_run 92 = .ok (.getfield 38, 3) := by decide +kernel
theorem dX9_run_95 : decode cX9_run 95 = .ok (.iconst 0, 1) := by decide +kernel
theorem dX9_run_96 : decode cX9_run 96 = .ok (.iaload, 1) := by decide +kernel
theorem dX9_run_97 : decode cX9_run 97 = .ok (.ireturn, 1) := by decide +kernel
theorem dX9_run_98 : decode cX9_run 98 = .ok (.aload_n 0, 1) := by decide +kernel
theorem dX9_run_99 : decode cX9_run 99 = .ok (.getfield 41, 3) := by decide +kernel
theorem dX9_run_102 : decode cX9_run 102 = .ok (.iconst 0, 1) := by decide +kernel
theorem dX9_run_103 : decode cX9_run 103 = .ok (.iaload, 1) := by decide +kernel
theorem dX9_run_104 : decode cX9_run 104 = .ok (.ireturn, 1) := by decide +kernel
theorem dX9_run_105 : decode cX9_run 105 = .ok (.aload_n 0, 1) := by decide +kernel
theorem dX9_run_106 : decode cX9_run 106 = .ok (.getfield 44, 3) := by decide +kernel
theorem dX9_run_109 : decode cX9_run 109 = .ok (.iconst 0, 1) := by decide +kernel
theorem dX9_run_110 : decode cX9_run 110 = .ok (.iaload, 1) := by decide +kernel
theorem dX9_run_111 : decode cX9_run 111 = .ok (.ireturn, 1) := by decide +kernel
theorem dX9_run_112 : decode cX9_run 112 = .ok (.iload_n 3, 1) := by decide +kernel
theorem dX9_run_113 : decode cX9_run 113 = .ok (.bipush 10, 2) := by decide +kernel
theorem dX9_run_115 : decode cX9_run 115 = .ok (.isub, 1) := by decide +kernel
theorem dX9_run_116 : decode cX9_run 116 = .ok (.aload_n 0, 1) := by decide +kernel
theorem dX9_run_117 : decode cX9_run 117 = .ok (.getfield 44, 3) := by decide +kernel
theorem dX9_run_120 : decode cX9_run 120 = .ok (.iconst 0, 1) := by decide +kernel
theorem dX9_run_121 : decode cX9_run 121 = .ok (.iaload, 1) := by decide +kernel
theorem dX9_run_122 : decode cX9_run 122 = .ok (.if_icmp .ge 15, 3) := by decide +kernel
theorem dX9_run_125 : decode cX9_run 125 = .ok (.aload_n 0, 1) := by decide +kernel
theorem dX9_run_126 : decode cX9_run 126 = .ok (.getfield 47, 3) := by decide +kernel
theorem dX9_run_129 : decode cX9_run 129 = .ok (.iload_n 3, 1) := by decide +kernel
theorem dX9_run_130 : decode cX9_run 130 = .ok (.bipush 10, 2) := by decide +kernel
theorem dX9_run_132 : decode cX9_run 132 = .ok (.isub, 1) := by decide +kernel
theorem dX9_run_133 : decode cX9_run 133 = .ok (.iaload, 1) := by decide +kernel
theorem dX9_run_134 : decode cX9_run 134 = .ok (.goto 5, 3) := by decide +kernel
theorem dX9_run_137 : decode cX9_run 137 = .ok (.bipush (-6), 2) := by decide +kernel
theorem dX9_run_139 : decode cX9_run 139 = .ok (.ireturn, 1) := by decide +kernel
theorem dX9_areShownAlike_0 : decode cX9_areShownAlike 0 = .ok (.iconst 1, 1) := by decide +kernel
theorem dX9_areShownAlike_1 : decode cX9_areShownAlike 1 = .ok (.istore 4, 2) := by decide +kernel
theorem dX9_areShownAlike_3 : decode cX9_areShownAlike 3 = .ok (.iconst 0, 1) := by decide +kernel
theorem dX9_areShownAlike_4 : decode cX9_areShownAlike 4 = .ok (.istore 5, 2) := by decide +kernel
theorem dX9_areShownAlike_6 : decode cX9_areShownAlike 6 = .ok (.iload 5, 2) := by decide +kernel
theorem dX9_areShownAlike_8 : decode cX9_areShownAlike 8 = .ok (.iload_n 3, 1) := by decide +kernel
theorem dX9_areShownAlike_9 : decode cX9_areShownAlike 9 = .ok (.if_icmp .ge 48, 3) := by decide +kernel
theorem dX9_areShownAlike_12 : decode cX9_areShownAlike 12 = .ok (.iload 4, 2) := by decide +kernel
theorem dX9_areShownAlike_14 : decode cX9_areShownAlike 14 = .ok (.ifCond .eq 43, 3) := by decide +kernel
theorem dX9_areShownAlike_17 : decode cX9_areShownAlike 17 = .ok (.aload_n 0, 1) := by decide +kernel
theorem dX9_areShownAlike_18 : decode cX9_areShownAlike 18 = .ok (.getfield 47, 3) := by decide +kernel
theorem dX9_areShownAlike_21 : decode cX9_areShownAlike 21 = .ok (.bipush 24, 2) := by decide +kernel
theorem dX9_areShownAlike_23 : decode cX9_areShownAlike 23 = .ok (.iload_n 1, 1) := by decide +kernel
theorem dX9_areShownAlike_24 : decode cX9_areShownAlike 24 = .ok (.imul, 1) := by decide +kernel
theorem dX9_areShownAlike_25 : decode cX9_areShownAlike 25 = .ok (.iload 5, 2) := by decide +kernel
theorem dX9_areShownAlike_27 : decode cX9_areShownAlike 27 = .ok (.iadd, 1) := by decide +kernel
theorem dX9_areShownAlike_28 : decode cX9_areShownAlike 28 = .ok (.iaload, 1) := by decide +kernel
theorem dX9_areShownAlike_29 : decode cX9_areShownAlike 29 = .ok (.aload_n 0, 1) := by decide +kernel
theorem dX9_areShownAlike_30 : decode cX9_areShownAlike 30 = .ok (.getfield 47, 3) := by decide +kernel
theorem dX9_areShownAlike_33 : decode cX9_areShownAlike 33 = .ok (.bipush 24, 2) := by decide +kernel
theorem dX9_areShownAlike_35 : decode cX9_areShownAlike 35 = .ok (.iload_n 2, 1) := by decide +kernel
theorem dX9_areShownAlike_36 : decode cX9_areShownAlike 36 = .ok (.imul, 1) := by decide +kernel
theorem dX9_areShownAlike_37 : decode cX9_areShownAlike 37 = .ok (.iload 5, 2) := by decide +kernel
theorem dX9_areShownAlike_39 : decode cX9_areShownAlike 39 = .ok (.iadd, 1) := by decide +kernel
theorem dX9_areShownAlike_40 : decode cX9_areShownAlike 40 = .ok (.iaload, 1) := by decide +kernel
theorem dX9_areShownAlike_41 : decode cX9_areShownAlike 41 = .ok (.if_icmp .ne 7, 3) := by decide +kernel
theorem dX9_areShownAlike_44 : decode cX9_areShownAlike 44 = .ok (.iconst 1, 1) := by decide +kernel
theorem dX9_areShownAlike_45 : decode cX9_areShownAlike 45 = .ok (.goto 4, 3) := by decide +kernel
theorem dX9_areShownAlike_48 : decode cX9_areShownAlike 48 = .ok (.iconst 0, 1) := by decide +kernel
theorem dX9_areShownAlike_49 : decode cX9_areShownAlike 49 = .ok (.istore 4, 2) := by decide +kernel
theorem dX9_areShownAlike_51 : decode cX9_areShownAlike 51 = .ok (.iinc 5 1, 3) := by decide +kernel
theorem dX9_areShownAlike_54 : decode cX9_areShownAlike 54 = .ok (.goto (-48), 3) := by decide +kernel
theorem dX9_areShownAlike_57 : decode cX9_areShownAlike 57 = .ok (.iload 4, 2) := by decide +kernel
theorem dX9_areShownAlike_59 : decode cX9_areShownAlike 59 = .ok (.ireturn, 1) := by decide +kernel
theorem dX9_say_0 : decode cX9_say 0 = .ok (.iload_n 1, 1) := by decide +kernel
theorem dX9_say_1 : decode cX9_say 1 = .ok (.i2l, 1) := by decide +kernel
theorem dX9_say_2 : decode cX9_say 2 = .ok (.ldc2_w 167, 3) := by decide +kernel
theorem dX9_say_5 : decode cX9_say 5 = .ok (.ldc2_w 169, 3) := by decide +kernel
theorem dX9_say_8 : decode cX9_say 8 = .ok (.invokestatic 101, 3) := by decide +kernel
theorem dX9_say_11 : decode cX9_say 11 = .ok (.ifCond .ne 6, 3) := by decide +kernel
theorem dX9_say_14 : decode cX9_say 14 = .ok (.bipush (-2), 2) := by decide +kernel
theorem dX9_say_16 : decode cX9_say 16 = .ok (.ireturn, 1) := by decide +kernel
theorem dX9_say_17 : decode cX9_say 17 = .ok (.aload_n 0, 1) := by decide +kernel
theorem dX9_say_18 : decode cX9_say 18 = .ok (.getfield 53, 3) := by decide +kernel
theorem dX9_say_21 : decode cX9_say 21 = .ok (.bipush 6, 2) := by decide +kernel
theorem dX9_say_23 : decode cX9_say 23 = .ok (.iaload, 1) := by decide +kernel
theorem dX9_say_24 : decode cX9_say 24 = .ok (.bipush 40, 2) := by decide +kernel
theorem dX9_say_26 : decode cX9_say 26 = .ok (.if_icmp .ne 6, 3) := by decide +kernel
theorem dX9_say_29 : decode cX9_say 29 = .ok (.bipush (-4), 2) := by decide +kernel
theorem dX9_say_31 : decode cX9_say 31 = .ok (.ireturn, 1) := by decide +kernel
theorem dX9_say_32 : decode cX9_say 32 = .ok (.aload_n 0, 1) := by decide +kernel
theorem dX9_say_33 : decode cX9_say 33 = .ok (.getfield 50, 3) := by decide +kernel
theorem dX9_say_36 : decode cX9_say 36 = .ok (.sipush 240, 3) := by decide +kernel
theorem dX9_say_39 : decode cX9_say 39 = .ok (.aload_n 0, 1) := by decide +kernel
theorem dX9_say_40 : decode cX9_say 40 = .ok (.getfield 53, 3) := by decide +kernel
theorem dX9_say_43 : decode cX9_say 43 = .ok (.bipush 6, 2) := by decide +kernel
theorem dX9_say_45 : decode cX9_say 45 = .ok (.iaload, 1) := by decide +kernel
theorem dX9_say_46 : decode cX9_say 46 = .ok (.iadd, 1) := by decide +kernel
theorem dX9_say_47 : decode cX9_say 47 = .ok (.iload_n 1, 1) := by decide +kernel
theorem dX9_say_48 : decode cX9_say 48 = .ok (.iastore, 1) := by decide +kernel
theorem dX9_say_49 : decode cX9_say 49 = .ok (.aload_n 0, 1) := by decide +kernel
theorem dX9_say_50 : decode cX9_say 50 = .ok (.getfield 53, 3) := by decide +kernel
theorem dX9_say_53 : decode cX9_say 53 = .ok (.bipush 6, 2) := by decide +kernel
theorem dX9_say_55 : decode cX9_say 55 = .ok (.dup2, 1) := by decide +kernel
theorem dX9_say_56 : decode cX9_say 56 = .ok (.iaload, 1) := by decide +kernel
theorem dX9_say_57 : decode cX9_say 57 = .ok (.iconst 1, 1) := by decide +kernel
theorem dX9_say_58 : decode cX9_say 58 = .ok (.iadd, 1) := by decide +kernel
theorem dX9_say_59 : decode cX9_say 59 = .ok (.iastore, 1) := by decide +kernel
theorem dX9_say_60 : decode cX9_say 60 = .ok (.aload_n 0, 1) := by decide +kernel
theorem dX9_say_61 : decode cX9_say 61 = .ok (.getfield 53, 3) := by decide +kernel
theorem dX9_say_64 : decode cX9_say 64 = .ok (.bipush 6, 2) := by decide +kernel
theorem dX9_say_66 : decode cX9_say 66 = .ok (.iaload, 1) := by decide +kernel
theorem dX9_say_67 : decode cX9_say 67 = .ok (.ireturn, 1) := by decide +kernel
theorem dX9_wipe_0 : decode cX9_wipe 0 = .ok (.aload_n 0, 1) := by decide +kernel
theorem dX9_wipe_1 : decode cX9_wipe 1 = .ok (.getfield 53, 3) := by decide +kernel
theorem dX9_wipe_4 : decode cX9_wipe 4 = .ok (.bipush 6, 2) := by decide +kernel
theorem dX9_wipe_6 : decode cX9_wipe 6 = .ok (.iaload, 1) := by decide +kernel
theorem dX9_wipe_7 : decode cX9_wipe 7 = .ok (.istore_n 1, 1) := by decide +kernel
theorem dX9_wipe_8 : decode cX9_wipe 8 = .ok (.aload_n 0, 1) := by decide +kernel
theorem dX9_wipe_9 : decode cX9_wipe 9 = .ok (.getfield 53, 3) := by decide +kernel
theorem dX9_wipe_12 : decode cX9_wipe 12 = .ok (.bipush 6, 2) := by decide +kernel
theorem dX9_wipe_14 : decode cX9_wipe 14 = .ok (.iconst 0, 1) := by decide +kernel
theorem dX9_wipe_15 : decode cX9_wipe 15 = .ok (.iastore, 1) := by decide +kernel
theorem dX9_wipe_16 : decode cX9_wipe 16 = .ok (.iload_n 1, 1) := by decide +kernel
theorem dX9_wipe_17 : decode cX9_wipe 17 = .ok (.ireturn, 1) := by decide +kernel
theorem dX9_isLetter_0 : decode cX9_isLetter 0 = .ok (.iload_n 0, 1) := by decide +kernel
theorem dX9_isLetter_1 : decode cX9_isLetter 1 = .ok (.i2l, 1) := by decide +kernel
theorem dX9_isLetter_2 : decode cX9_isLetter 2 = .ok (.ldc2_w 171, 3) := by decide +kernel
theorem dX9_isLetter_5 : decode cX9_isLetter 5 = .ok (.ldc2_w 173, 3) := by decide +kernel
theorem dX9_isLetter_8 : decode cX9_isLetter 8 = .ok (.invokestatic 101, 3) := by decide +kernel
theorem dX9_isLetter_11 : decode cX9_isLetter 11 = .ok (.ireturn, 1) := by decide +kernel
theorem dX9_isHow_0 : decode cX9_isHow 0 = .ok (.iload_n 0, 1) := by decide +kernel
theorem dX9_isHow_1 : decode cX9_isHow 1 = .ok (.bipush 61, 2) := by decide +kernel
theorem dX9_isHow_3 : decode cX9_isHow 3 = .ok (.if_icmp .eq 21, 3) := by decide +kernel
theorem dX9_isHow_6 : decode cX9_isHow 6 = .ok (.iload_n 0, 1) := by decide +kernel
theorem dX9_isHow_7 : decode cX9_isHow 7 = .ok (.bipush 60, 2) := by decide +kernel
theorem dX9_isHow_9 : decode cX9_isHow 9 = .ok (.if_icmp .eq 15, 3) := by decide +kernel
theorem dX9_isHow_12 : decode cX9_isHow 12 = .ok (.iload_n 0, 1) := by decide +kernel
theorem dX9_isHow_13 : decode cX9_isHow 13 = .ok (.bipush 62, 2) := by decide +kernel
theorem dX9_isHow_15 : decode cX9_isHow 15 = .ok (.if_icmp .eq 9, 3) := by decide +kernel
theorem dX9_isHow_18 : decode cX9_isHow 18 = .ok (.iload_n 0, 1) := by decide +kernel
theorem dX9_isHow_19 : decode cX9_isHow 19 = .ok (.bipush 35, 2) := by decide +kernel
theorem dX9_isHow_21 : decode cX9_isHow 21 = .ok (.if_icmp .ne 7, 3) := by decide +kernel
theorem dX9_isHow_24 : decode cX9_isHow 24 = .ok (.iconst 1, 1) := by decide +kernel
theorem dX9_isHow_25 : decode cX9_isHow 25 = .ok (.goto 4, 3) := by decide +kernel
theorem dX9_isHow_28 : decode cX9_isHow 28 = .ok (.iconst 0, 1) := by decide +kernel
theorem dX9_isHow_29 : decode cX9_isHow 29 = .ok (.ireturn, 1) := by decide +kernel
theorem dX9_isOfEnd_0 : decode cX9_isOfEnd 0 = .ok (.iload_n 0, 1) := by decide +kernel
theorem dX9_isOfEnd_1 : decode cX9_isOfEnd 1 = .ok (.bipush 101, 2) := by decide +kernel
theorem dX9_isOfEnd_3 : decode cX9_isOfEnd 3 = .ok (.if_icmp .eq 15, 3) := by decide +kernel
theorem dX9_isOfEnd_6 : decode cX9_isOfEnd 6 = .ok (.iload_n 0, 1) := by decide +kernel
theorem dX9_isOfEnd_7 : decode cX9_isOfEnd 7 = .ok (.bipush 111, 2) := by decide +kernel
theorem dX9_isOfEnd_9 : decode cX9_isOfEnd 9 = .ok (.if_icmp .eq 9, 3) := by decide +kernel
theorem dX9_isOfEnd_12 : decode cX9_isOfEnd 12 = .ok (.iload_n 0, 1) := by decide +kernel
theorem dX9_isOfEnd_13 : decode cX9_isOfEnd 13 = .ok (.bipush 116, 2) := by decide +kernel
theorem dX9_isOfEnd_15 : decode cX9_isOfEnd 15 = .ok (.if_icmp .ne 7, 3) := by decide +kernel
theorem dX9_isOfEnd_18 : decode cX9_isOfEnd 18 = .ok (.iconst 1, 1) := by decide +kernel
theorem dX9_isOfEnd_19 : decode cX9_isOfEnd 19 = .ok (.goto 4, 3) := by decide +kernel
theorem dX9_isOfEnd_22 : decode cX9_isOfEnd 22 = .ok (.iconst 0, 1) := by decide +kernel
theorem dX9_isOfEnd_23 : decode cX9_isOfEnd 23 = .ok (.ireturn, 1) := by decide +kernel
theorem dX9_stepOf_0 : decode cX9_stepOf 0 = .ok (.iload_n 0, 1) := by decide +kernel
theorem dX9_stepOf_1 : decode cX9_stepOf 1 = .ok (.tableswitch 81 0 2 #[27, 55, 68], 27) := by decide +kernel
theorem dX9_stepOf_28 : decode cX9_stepOf 28 = .ok (.iload_n 1, 1) := by decide +kernel
theorem dX9_stepOf_29 : decode cX9_stepOf 29 = .ok (.invokestatic 175, 3) := by decide +kernel
theorem dX9_stepOf_32 : decode cX9_stepOf 32 = .ok (.ifCond .eq 7, 3) := by decide +kernel
theorem dX9_stepOf_35 : decode cX9_stepOf 35 = .ok (.iconst 1, 1) := by decide +kernel
theorem dX9_stepOf_36 : decode cX9_stepOf 36 = .ok (.goto 19, 3) := by decide +kernel
theorem dX9_stepOf_39 : decode cX9_stepOf 39 = .ok (.iload_n 2, 1) := by decide +kernel
theorem dX9_stepOf_40 : decode cX9_stepOf 40 = .ok (.ifCond .eq 14, 3) := by decide +kernel
theorem dX9_stepOf_43 : decode cX9_stepOf 43 = .ok (.iload_n 1, 1) := by decide +kernel
theorem dX9_stepOf_44 : decode cX9_stepOf 44 = .ok (.invokestatic 178, 3) := by decide +kernel
theorem dX9_stepOf_47 : decode cX9_stepOf 47 = .ok (.ifCond .eq 7, 3) := by decide +kernel
theorem dX9_stepOf_50 : decode cX9_stepOf 50 = .ok (.iconst 3, 1) := by decide +kernel
theorem dX9_stepOf_51 : decode cX9_stepOf 51 = .ok (.goto 4, 3) := by decide +kernel
theorem dX9_stepOf_54 : decode cX9_stepOf 54 = .ok (.iconst (-1), 1) := by decide +kernel
theorem dX9_stepOf_55 : decode cX9_stepOf 55 = .ok (.ireturn, 1) := by decide +kernel
theorem dX9_stepOf_56 : decode cX9_stepOf 56 = .ok (.iload_n 1, 1) := by decide +kernel
theorem dX9_stepOf_57 : decode cX9_stepOf 57 = .ok (.invokestatic 181, 3) := by decide +kernel
theorem dX9_stepOf_60 : decode cX9_stepOf 60 = .ok (.ifCond .eq 7, 3) := by decide +kernel
theorem dX9_stepOf_63 : decode cX9_stepOf 63 = .ok (.iconst 2, 1) := by decide +kernel
theorem dX9_stepOf_64 : decode cX9_stepOf 64 = .ok (.goto 4, 3) := by decide +kernel
theorem dX9_stepOf_67 : decode cX9_stepOf 67 = .ok (.iconst (-1), 1) := by decide +kernel
theorem dX9_stepOf_68 : decode cX9_stepOf 68 = .ok (.ireturn, 1) := by decide +kernel
theorem dX9_stepOf_69 : decode cX9_stepOf 69 = .ok (.iload_n 1, 1) := by decide +kernel
theorem dX9_stepOf_70 : decode cX9_stepOf 70 = .ok (.invokestatic 175, 3) := by decide +kernel
theorem dX9_stepOf_73 : decode cX9_stepOf 73 = .ok (.ifCond .eq 7, 3) := by decide +kernel
theorem dX9_stepOf_76 : decode cX9_stepOf 76 = .ok (.iconst 3, 1) := by decide +kernel
theorem dX9_stepOf_77 : decode cX9_stepOf 77 = .ok (.goto 4, 3) := by decide +kernel
theorem dX9_stepOf_80 : decode cX9_stepOf 80 = .ok (.iconst (-1), 1) := by decide +kernel
theorem dX9_stepOf_81 : decode cX9_stepOf 81 = .ok (.ireturn, 1) := by decide +kernel
theorem dX9_stepOf_82 : decode cX9_stepOf 82 = .ok (.iload_n 1, 1) := by decide +kernel
theorem dX9_stepOf_83 : decode cX9_stepOf 83 = .ok (.bipush 38, 2) := by decide +kernel
theorem dX9_stepOf_85 : decode cX9_stepOf 85 = .ok (.if_icmp .eq 13, 3) := by decide +kernel
theorem dX9_stepOf_88 : decode cX9_stepOf 88 = .ok (.iload_n 1, 1) := by decide +kernel
theorem dX9_stepOf_89 : decode cX9_stepOf 89 = .ok (.bipush 58, 2) := by decide +kernel
theorem dX9_stepOf_91 : decode cX9_stepOf 91 = .ok (.if_icmp .ne 11, 3) := by decide +kernel
theorem dX9_stepOf_94 : decode cX9_stepOf 94 = .ok (.iload_n 2, 1) := by decide +kernel
theorem dX9_stepOf_95 : decode cX9_stepOf 95 = .ok (.ifCond .ne 7, 3) := by decide +kernel
theorem dX9_stepOf_98 : decode cX9_stepOf 98 = .ok (.iconst 0, 1) := by decide +kernel
theorem dX9_stepOf_99 : decode cX9_stepOf 99 = .ok (.goto 4, 3) := by decide +kernel
theorem dX9_stepOf_102 : decode cX9_stepOf 102 = .ok (.iconst (-1), 1) := by decide +kernel
theorem dX9_stepOf_103 : decode cX9_stepOf 103 = .ok (.ireturn, 1) := by decide +kernel
theorem dX9_fault_0 : decode cX9_fault 0 = .ok (.iconst 0, 1) := by decide +kernel
theorem dX9_fault_1 : decode cX9_fault 1 = .ok (.istore_n 1, 1) := by decide +kernel
theorem dX9_fault_2 : decode cX9_fault 2 = .ok (.iconst 0, 1) := by decide +kernel
theorem dX9_fault_3 : decode cX9_fault 3 = .ok (.istore_n 2, 1) := by decide +kernel
theorem dX9_fault_4 : decode cX9_fault 4 = .ok (.iconst 0, 1) := by decide +kernel
theorem dX9_fault_5 : decode cX9_fault 5 = .ok (.istore_n 3, 1) := by decide +kernel
theorem dX9_fault_6 : decode cX9_fault 6 = .ok (.iload_n 3, 1) := by decide +kernel
theorem dX9_fault_7 : decode cX9_fault 7 = .ok (.aload_n 0, 1) := by decide +kernel
theorem dX9_fault_8 : decode cX9_fault 8 = .ok (.getfield 53, 3) := by decide +kernel
theorem dX9_fault_11 : decode cX9_fault 11 = .ok (.bipush 6, 2) := by decide +kernel
theorem dX9_fault_13 : decode cX9_fault 13 = .ok (.iaload, 1) := by decide +kernel
theorem dX9_fault_14 : decode cX9_fault 14 = .ok (.if_icmp .ge 52, 3) := by decide +kernel
theorem dX9_fault_17 : decode cX9_fault 17 = .ok (.aload_n 0, 1) := by decide +kernel
theorem dX9_fault_18 : decode cX9_fault 18 = .ok (.getfield 50, 3) := by decide +kernel
theorem dX9_fault_21 : decode cX9_fault 21 = .ok (.sipush 240, 3) := by decide +kernel
theorem dX9_fault_24 : decode cX9_fault 24 = .ok (.iload_n 3, 1) := by decide +kernel
theorem dX9_fault_25 : decode cX9_fault 25 = .ok (.iadd, 1) := by decide +kernel
theorem dX9_fault_26 : decode cX9_fault 26 = .ok (.iaload, 1) := by decide +kernel
theorem dX9_fault_27 : decode cX9_fault 27 = .ok (.istore 4, 2) := by decide +kernel
theorem dX9_fault_29 : decode cX9_fault 29 = .ok (.iload_n 1, 1) := by decide +kernel
theorem dX9_fault_30 : decode cX9_fault 30 = .ok (.iload 4, 2) := by decide +kernel
theorem dX9_fault_32 : decode cX9_fault 32 = .ok (.iload_n 2, 1) := by decide +kernel
theorem dX9_fault_33 : decode cX9_fault 33 = .ok (.invokestatic 184, 3) := by decide +kernel
theorem dX9_fault_36 : decode cX9_fault 36 = .ok (.istore_n 1, 1) := by decide +kernel
theorem dX9_fault_37 : decode cX9_fault 37 = .ok (.iload_n 1, 1) := by decide +kernel
theorem dX9_fault_38 : decode cX9_fault 38 = .ok (.ifCond .ge 5, 3) := by decide +kernel
theorem dX9_fault_41 : decode cX9_fault 41 = .ok (.iload_n 3, 1) := by decide +kernel
theorem dX9_fault_42 : decode cX9_fault 42 = .ok (.ireturn, 1) := by decide +kernel
theorem dX9_fault_43 : decode cX9_fault 43 = .ok (.iload_n 2, 1) := by decide +kernel
theorem dX9_fault_44 : decode cX9_fault 44 = .ok (.ifCond .ne 10, 3) := by decide +kernel
theorem dX9_fault_47 : decode cX9_fault 47 = .ok (.iload 4, 2) := by decide +kernel
theorem dX9_fault_49 : decode cX9_fault 49 = .ok (.bipush 58, 2) := by decide +kernel
theorem dX9_fault_51 : decode cX9_fault 51 = .ok (.if_icmp .ne 7, 3) := by decide +kernel
theorem dX9_fault_54 : decode cX9_fault 54 = .ok (.iconst 1, 1) := by decide +kernel
theorem dX9_fault_55 : decode cX9_fault 55 = .ok (.goto 4, 3) := by decide +kernel
theorem dX9_fault_58 : decode cX9_fault 58 = .ok (.iconst 0, 1) := by decide +kernel
theorem dX9_fault_59 : decode cX9_fault 59 = .ok (.istore_n 2, 1) := by decide +kernel
theorem dX9_fault_60 : decode cX9_fault 60 = .ok (.iinc 3 1, 3) := by decide +kernel
theorem dX9_fault_63 : decode cX9_fault 63 = .ok (.goto (-57), 3) := by decide +kernel
theorem dX9_fault_66 : decode cX9_fault 66 = .ok (.iload_n 2, 1) := by decide +kernel
theorem dX9_fault_67 : decode cX9_fault 67 = .ok (.ifCond .eq 13, 3) := by decide +kernel
theorem dX9_fault_70 : decode cX9_fault 70 = .ok (.iload_n 1, 1) := by decide +kernel
theorem dX9_fault_71 : decode cX9_fault 71 = .ok (.iconst 3, 1) := by decide +kernel
theorem dX9_fault_72 : decode cX9_fault 72 = .ok (.if_icmp .ne 8, 3) := by decide +kernel
theorem dX9_fault_75 : decode cX9_fault 75 = .ok (.bipush (-6), 2) := by decide +kernel
theorem dX9_fault_77 : decode cX9_fault 77 = .ok (.goto 10, 3) := by decide +kernel
theorem dX9_fault_80 : decode cX9_fault 80 = .ok (.aload_n 0, 1) := by decide +kernel
theorem dX9_fault_81 : decode cX9_fault 81 = .ok (.getfield 53, 3) := by decide +kernel
theorem dX9_fault_84 : decode cX9_fault 84 = .ok (.bipush 6, 2) := by decide +kernel
theorem dX9_fault_86 : decode cX9_fault 86 = .ok (.iaload, 1) := by decide +kernel
theorem dX9_fault_87 : decode cX9_fault 87 = .ok (.ireturn, 1) := by decide +kernel
theorem dX9_saying_0 : decode cX9_saying 0 = .ok (.aload_n 0, 1) := by decide +kernel
theorem dX9_saying_1 : decode cX9_saying 1 = .ok (.getfield 188, 3) := by decide +kernel
theorem dX9_saying_4 : decode cX9_saying 4 = .ok (.bipush 6, 2) := by decide +kernel
theorem dX9_saying_6 : decode cX9_saying 6 = .ok (.if_icmp .ne 6, 3) := by decide +kernel
theorem dX9_saying_9 : decode cX9_saying 9 = .ok (.bipush (-4), 2) := by decide +kernel
theorem dX9_saying_11 : decode cX9_saying 11 = .ok (.ireturn, 1) := by decide +kernel
theorem dX9_saying_12 : decode cX9_saying 12 = .ok (.aload_n 0, 1) := by decide +kernel
theorem dX9_saying_13 : decode cX9_saying 13 = .ok (.invokevirtual 191, 3) := by decide +kernel
theorem dX9_saying_16 : decode cX9_saying 16 = .ok (.ifCond .lt 6, 3) := by decide +kernel
theorem dX9_saying_19 : decode cX9_saying 19 = .ok (.bipush (-5), 2) := by decide +kernel
theorem dX9_saying_21 : decode cX9_saying 21 = .ok (.ireturn, 1) := by decide +kernel
theorem dX9_saying_22 : decode cX9_saying 22 = .ok (.iconst 0, 1) := by decide +kernel
theorem dX9_saying_23 : decode cX9_saying 23 = .ok (.istore_n 1, 1) := by decide +kernel
theorem dX9_saying_24 : decode cX9_saying 24 = .ok (.iload_n 1, 1) := by decide +kernel
theorem dX9_saying_25 : decode cX9_saying 25 = .ok (.aload_n 0, 1) := by decide +kernel
theorem dX9_saying_26 : decode cX9_saying 26 = .ok (.getfield 53, 3) := by decide +kernel
theorem dX9_saying_29 : decode cX9_saying 29 = .ok (.bipush 6, 2) := by decide +kernel
theorem dX9_saying_31 : decode cX9_saying 31 = .ok (.iaload, 1) := by decide +kernel
theorem dX9_saying_32 : decode cX9_saying 32 = .ok (.if_icmp .ge 33, 3) := by decide +kernel
theorem dX9_saying_35 : decode cX9_saying 35 = .ok (.aload_n 0, 1) := by decide +kernel
theorem dX9_saying_36 : decode cX9_saying 36 = .ok (.getfield 50, 3) := by decide +kernel
theorem dX9_saying_39 : decode cX9_saying 39 = .ok (.bipush 40, 2) := by decide +kernel
theorem dX9_saying_41 : decode cX9_saying 41 = .ok (.aload_n 0, 1) := by decide +kernel
