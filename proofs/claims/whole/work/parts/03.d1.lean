theorem dX6_fewest_5 : decode cX6_fewest 5 = .ok (.iconst 1, 1) := by decide +kernel
theorem dX6_fewest_6 : decode cX6_fewest 6 = .ok (.iload_n 3, 1) := by decide +kernel
theorem dX6_fewest_7 : decode cX6_fewest 7 = .ok (.invokestatic 29, 3) := by decide +kernel
theorem dX6_fewest_10 : decode cX6_fewest 10 = .ok (.ishl, 1) := by decide +kernel
theorem dX6_fewest_11 : decode cX6_fewest 11 = .ok (.istore 4, 2) := by decide +kernel
theorem dX6_fewest_13 : decode cX6_fewest 13 = .ok (.aload_n 2, 1) := by decide +kernel
theorem dX6_fewest_14 : decode cX6_fewest 14 = .ok (.invokevirtual 35, 3) := by decide +kernel
theorem dX6_fewest_17 : decode cX6_fewest 17 = .ok (.aload_n 0, 1) := by decide +kernel
theorem dX6_fewest_18 : decode cX6_fewest 18 = .ok (.aload_n 1, 1) := by decide +kernel
theorem dX6_fewest_19 : decode cX6_fewest 19 = .ok (.aload_n 2, 1) := by decide +kernel
theorem dX6_fewest_20 : decode cX6_fewest 20 = .ok (.invokevirtual 38, 3) := by decide +kernel
theorem dX6_fewest_23 : decode cX6_fewest 23 = .ok (.ifCond .ne 6, 3) := by decide +kernel
theorem dX6_fewest_26 : decode cX6_fewest 26 = .ok (.bipush (-6), 2) := by decide +kernel
theorem dX6_fewest_28 : decode cX6_fewest 28 = .ok (.ireturn, 1) := by decide +kernel
theorem dX6_fewest_29 : decode cX6_fewest 29 = .ok (.aload_n 1, 1) := by decide +kernel
theorem dX6_fewest_30 : decode cX6_fewest 30 = .ok (.getfield 42, 3) := by decide +kernel
theorem dX6_fewest_33 : decode cX6_fewest 33 = .ok (.ldc2_w 48, 3) := by decide +kernel
theorem dX6_fewest_36 : decode cX6_fewest 36 = .ok (.land, 1) := by decide +kernel
theorem dX6_fewest_37 : decode cX6_fewest 37 = .ok (.lconst 0, 1) := by decide +kernel
theorem dX6_fewest_38 : decode cX6_fewest 38 = .ok (.lcmp, 1) := by decide +kernel
theorem dX6_fewest_39 : decode cX6_fewest 39 = .ok (.ifCond .ne 5, 3) := by decide +kernel
theorem dX6_fewest_42 : decode cX6_fewest 42 = .ok (.iconst 0, 1) := by decide +kernel
theorem dX6_fewest_43 : decode cX6_fewest 43 = .ok (.ireturn, 1) := by decide +kernel
theorem dX6_fewest_44 : decode cX6_fewest 44 = .ok (.bipush (-6), 2) := by decide +kernel
theorem dX6_fewest_46 : decode cX6_fewest 46 = .ok (.istore 5, 2) := by decide +kernel
theorem dX6_fewest_48 : decode cX6_fewest 48 = .ok (.iconst 0, 1) := by decide +kernel
theorem dX6_fewest_49 : decode cX6_fewest 49 = .ok (.istore 6, 2) := by decide +kernel
theorem dX6_fewest_51 : decode cX6_fewest 51 = .ok (.iconst 0, 1) := by decide +kernel
theorem dX6_fewest_52 : decode cX6_fewest 52 = .ok (.istore 7, 2) := by decide +kernel
theorem dX6_fewest_54 : decode cX6_fewest 54 = .ok (.iload 7, 2) := by decide +kernel
theorem dX6_fewest_56 : decode cX6_fewest 56 = .ok (.iload 4, 2) := by decide +kernel
theorem dX6_fewest_58 : decode cX6_fewest 58 = .ok (.if_icmp .ge 68, 3) := by decide +kernel
theorem dX6_fewest_61 : decode cX6_fewest 61 = .ok (.iload 5, 2) := by decide +kernel
theorem dX6_fewest_63 : decode cX6_fewest 63 = .ok (.bipush (-6), 2) := by decide +kernel
theorem dX6_fewest_65 : decode cX6_fewest 65 = .ok (.if_icmp .eq 16, 3) := by decide +kernel
theorem dX6_fewest_68 : decode cX6_fewest 68 = .ok (.iload 6, 2) := by decide +kernel
theorem dX6_fewest_70 : decode cX6_fewest 70 = .ok (.invokestatic 29, 3) := by decide +kernel
theorem dX6_fewest_73 : decode cX6_fewest 73 = .ok (.iload 5, 2) := by decide +kernel
theorem dX6_fewest_75 : decode cX6_fewest 75 = .ok (.invokestatic 29, 3) := by decide +kernel
theorem dX6_fewest_78 : decode cX6_fewest 78 = .ok (.if_icmp .ge 7, 3) := by decide +kernel
theorem dX6_fewest_81 : decode cX6_fewest 81 = .ok (.iconst 1, 1) := by decide +kernel
theorem dX6_fewest_82 : decode cX6_fewest 82 = .ok (.goto 4, 3) := by decide +kernel
theorem dX6_fewest_85 : decode cX6_fewest 85 = .ok (.iconst 0, 1) := by decide +kernel
theorem dX6_fewest_86 : decode cX6_fewest 86 = .ok (.istore 8, 2) := by decide +kernel
theorem dX6_fewest_88 : decode cX6_fewest 88 = .ok (.iload 8, 2) := by decide +kernel
theorem dX6_fewest_90 : decode cX6_fewest 90 = .ok (.ifCond .eq 22, 3) := by decide +kernel
theorem dX6_fewest_93 : decode cX6_fewest 93 = .ok (.aload_n 0, 1) := by decide +kernel
theorem dX6_fewest_94 : decode cX6_fewest 94 = .ok (.aload_n 2, 1) := by decide +kernel
theorem dX6_fewest_95 : decode cX6_fewest 95 = .ok (.aload_n 2, 1) := by decide +kernel
theorem dX6_fewest_96 : decode cX6_fewest 96 = .ok (.getfield 50, 3) := by decide +kernel
theorem dX6_fewest_99 : decode cX6_fewest 99 = .ok (.iload 6, 2) := by decide +kernel
theorem dX6_fewest_101 : decode cX6_fewest 101 = .ok (.ior, 1) := by decide +kernel
theorem dX6_fewest_102 : decode cX6_fewest 102 = .ok (.invokevirtual 54, 3) := by decide +kernel
theorem dX6_fewest_105 : decode cX6_fewest 105 = .ok (.ifCond .eq 7, 3) := by decide +kernel
theorem dX6_fewest_108 : decode cX6_fewest 108 = .ok (.iload 6, 2) := by decide +kernel
theorem dX6_fewest_110 : decode cX6_fewest 110 = .ok (.istore 5, 2) := by decide +kernel
theorem dX6_fewest_112 : decode cX6_fewest 112 = .ok (.iload 6, 2) := by decide +kernel
theorem dX6_fewest_114 : decode cX6_fewest 114 = .ok (.iload_n 3, 1) := by decide +kernel
theorem dX6_fewest_115 : decode cX6_fewest 115 = .ok (.isub, 1) := by decide +kernel
theorem dX6_fewest_116 : decode cX6_fewest 116 = .ok (.iload_n 3, 1) := by decide +kernel
theorem dX6_fewest_117 : decode cX6_fewest 117 = .ok (.iand, 1) := by decide +kernel
theorem dX6_fewest_118 : decode cX6_fewest 118 = .ok (.istore 6, 2) := by decide +kernel
theorem dX6_fewest_120 : decode cX6_fewest 120 = .ok (.iinc 7 1, 3) := by decide +kernel
theorem dX6_fewest_123 : decode cX6_fewest 123 = .ok (.goto (-69), 3) := by decide +kernel
theorem dX6_fewest_126 : decode cX6_fewest 126 = .ok (.iload 5, 2) := by decide +kernel
theorem dX6_fewest_128 : decode cX6_fewest 128 = .ok (.ireturn, 1) := by decide +kernel
theorem dX6_joinAll_0 : decode cX6_joinAll 0 = .ok (.iconst 0, 1) := by decide +kernel
theorem dX6_joinAll_1 : decode cX6_joinAll 1 = .ok (.istore_n 3, 1) := by decide +kernel
theorem dX6_joinAll_2 : decode cX6_joinAll 2 = .ok (.iload_n 3, 1) := by decide +kernel
theorem dX6_joinAll_3 : decode cX6_joinAll 3 = .ok (.sipush 256, 3) := by decide +kernel
theorem dX6_joinAll_6 : decode cX6_joinAll 6 = .ok (.if_icmp .ge 16, 3) := by decide +kernel
theorem dX6_joinAll_9 : decode cX6_joinAll 9 = .ok (.aload_n 0, 1) := by decide +kernel
theorem dX6_joinAll_10 : decode cX6_joinAll 10 = .ok (.getfield 15, 3) := by decide +kernel
theorem dX6_joinAll_13 : decode cX6_joinAll 13 = .ok (.iload_n 3, 1) := by decide +kernel
theorem dX6_joinAll_14 : decode cX6_joinAll 14 = .ok (.iload_n 3, 1) := by decide +kernel
theorem dX6_joinAll_15 : decode cX6_joinAll 15 = .ok (.iastore, 1) := by decide +kernel
theorem dX6_joinAll_16 : decode cX6_joinAll 16 = .ok (.iinc 3 1, 3) := by decide +kernel
theorem dX6_joinAll_19 : decode cX6_joinAll 19 = .ok (.goto (-17), 3) := by decide +kernel
theorem dX6_joinAll_22 : decode cX6_joinAll 22 = .ok (.iconst 0, 1) := by decide +kernel
theorem dX6_joinAll_23 : decode cX6_joinAll 23 = .ok (.istore_n 3, 1) := by decide +kernel
theorem dX6_joinAll_24 : decode cX6_joinAll 24 = .ok (.iload_n 3, 1) := by decide +kernel
theorem dX6_joinAll_25 : decode cX6_joinAll 25 = .ok (.sipush 256, 3) := by decide +kernel
theorem dX6_joinAll_28 : decode cX6_joinAll 28 = .ok (.if_icmp .ge 45, 3) := by decide +kernel
theorem dX6_joinAll_31 : decode cX6_joinAll 31 = .ok (.aload_n 0, 1) := by decide +kernel
theorem dX6_joinAll_32 : decode cX6_joinAll 32 = .ok (.getfield 9, 3) := by decide +kernel
theorem dX6_joinAll_35 : decode cX6_joinAll 35 = .ok (.aload_n 1, 1) := by decide +kernel
theorem dX6_joinAll_36 : decode cX6_joinAll 36 = .ok (.aload_n 2, 1) := by decide +kernel
theorem dX6_joinAll_37 : decode cX6_joinAll 37 = .ok (.iload_n 3, 1) := by decide +kernel
theorem dX6_joinAll_38 : decode cX6_joinAll 38 = .ok (.invokevirtual 58, 3) := by decide +kernel
theorem dX6_joinAll_41 : decode cX6_joinAll 41 = .ok (.aload_n 0, 1) := by decide +kernel
theorem dX6_joinAll_42 : decode cX6_joinAll 42 = .ok (.getfield 9, 3) := by decide +kernel
theorem dX6_joinAll_45 : decode cX6_joinAll 45 = .ok (.dup, 1) := by decide +kernel
theorem dX6_joinAll_46 : decode cX6_joinAll 46 = .ok (.getfield 64, 3) := by decide +kernel
theorem dX6_joinAll_49 : decode cX6_joinAll 49 = .ok (.ldc2_w 65, 3) := by decide +kernel
theorem dX6_joinAll_52 : decode cX6_joinAll 52 = .ok (.land, 1) := by decide +kernel
theorem dX6_joinAll_53 : decode cX6_joinAll 53 = .ok (.putfield 64, 3) := by decide +kernel
theorem dX6_joinAll_56 : decode cX6_joinAll 56 = .ok (.aload_n 0, 1) := by decide +kernel
theorem dX6_joinAll_57 : decode cX6_joinAll 57 = .ok (.aload_n 2, 1) := by decide +kernel
theorem dX6_joinAll_58 : decode cX6_joinAll 58 = .ok (.iload_n 3, 1) := by decide +kernel
theorem dX6_joinAll_59 : decode cX6_joinAll 59 = .ok (.invokevirtual 67, 3) := by decide +kernel
theorem dX6_joinAll_62 : decode cX6_joinAll 62 = .ok (.ifCond .ne 5, 3) := by decide +kernel
theorem dX6_joinAll_65 : decode cX6_joinAll 65 = .ok (.iconst 0, 1) := by decide +kernel
theorem dX6_joinAll_66 : decode cX6_joinAll 66 = .ok (.ireturn, 1) := by decide +kernel
theorem dX6_joinAll_67 : decode cX6_joinAll 67 = .ok (.iinc 3 1, 3) := by decide +kernel
theorem dX6_joinAll_70 : decode cX6_joinAll 70 = .ok (.goto (-46), 3) := by decide +kernel
theorem dX6_joinAll_73 : decode cX6_joinAll 73 = .ok (.iconst 1, 1) := by decide +kernel
theorem dX6_joinAll_74 : decode cX6_joinAll 74 = .ok (.ireturn, 1) := by decide +kernel
theorem dX6_joinStart_0 : decode cX6_joinStart 0 = .ok (.iconst 0, 1) := by decide +kernel
theorem dX6_joinStart_1 : decode cX6_joinStart 1 = .ok (.istore_n 3, 1) := by decide +kernel
theorem dX6_joinStart_2 : decode cX6_joinStart 2 = .ok (.iload_n 3, 1) := by decide +kernel
theorem dX6_joinStart_3 : decode cX6_joinStart 3 = .ok (.sipush 256, 3) := by decide +kernel
theorem dX6_joinStart_6 : decode cX6_joinStart 6 = .ok (.if_icmp .ge 43, 3) := by decide +kernel
theorem dX6_joinStart_9 : decode cX6_joinStart 9 = .ok (.aload_n 0, 1) := by decide +kernel
theorem dX6_joinStart_10 : decode cX6_joinStart 10 = .ok (.getfield 9, 3) := by decide +kernel
theorem dX6_joinStart_13 : decode cX6_joinStart 13 = .ok (.iload_n 3, 1) := by decide +kernel
theorem dX6_joinStart_14 : decode cX6_joinStart 14 = .ok (.invokevirtual 70, 3) := by decide +kernel
theorem dX6_joinStart_17 : decode cX6_joinStart 17 = .ok (.ifCond .ne 6, 3) := by decide +kernel
theorem dX6_joinStart_20 : decode cX6_joinStart 20 = .ok (.goto 23, 3) := by decide +kernel
theorem dX6_joinStart_23 : decode cX6_joinStart 23 = .ok (.aload_n 0, 1) := by decide +kernel
theorem dX6_joinStart_24 : decode cX6_joinStart 24 = .ok (.getfield 9, 3) := by decide +kernel
theorem dX6_joinStart_27 : decode cX6_joinStart 27 = .ok (.aload_n 1, 1) := by decide +kernel
theorem dX6_joinStart_28 : decode cX6_joinStart 28 = .ok (.iload_n 3, 1) := by decide +kernel
theorem dX6_joinStart_29 : decode cX6_joinStart 29 = .ok (.invokevirtual 74, 3) := by decide +kernel
theorem dX6_joinStart_32 : decode cX6_joinStart 32 = .ok (.ifCond .eq 5, 3) := by decide +kernel
theorem dX6_joinStart_35 : decode cX6_joinStart 35 = .ok (.iconst 0, 1) := by decide +kernel
theorem dX6_joinStart_36 : decode cX6_joinStart 36 = .ok (.ireturn, 1) := by decide +kernel
theorem dX6_joinStart_37 : decode cX6_joinStart 37 = .ok (.aload_n 0, 1) := by decide +kernel
theorem dX6_joinStart_38 : decode cX6_joinStart 38 = .ok (.iload_n 2, 1) := by decide +kernel
theorem dX6_joinStart_39 : decode cX6_joinStart 39 = .ok (.iload_n 3, 1) := by decide +kernel
theorem dX6_joinStart_40 : decode cX6_joinStart 40 = .ok (.invokevirtual 77, 3) := by decide +kernel
theorem dX6_joinStart_43 : decode cX6_joinStart 43 = .ok (.iinc 3 1, 3) := by decide +kernel
theorem dX6_joinStart_46 : decode cX6_joinStart 46 = .ok (.goto (-44), 3) := by decide +kernel
theorem dX6_joinStart_49 : decode cX6_joinStart 49 = .ok (.iconst 1, 1) := by decide +kernel
theorem dX6_joinStart_50 : decode cX6_joinStart 50 = .ok (.ireturn, 1) := by decide +kernel
theorem dX6_join_0 : decode cX6_join 0 = .ok (.aload_n 0, 1) := by decide +kernel
theorem dX6_join_1 : decode cX6_join 1 = .ok (.getfield 15, 3) := by decide +kernel
theorem dX6_join_4 : decode cX6_join 4 = .ok (.iload_n 1, 1) := by decide +kernel
theorem dX6_join_5 : decode cX6_join 5 = .ok (.iaload, 1) := by decide +kernel
theorem dX6_join_6 : decode cX6_join 6 = .ok (.aload_n 0, 1) := by decide +kernel
theorem dX6_join_7 : decode cX6_join 7 = .ok (.getfield 15, 3) := by decide +kernel
theorem dX6_join_10 : decode cX6_join 10 = .ok (.iload_n 2, 1) := by decide +kernel
theorem dX6_join_11 : decode cX6_join 11 = .ok (.iaload, 1) := by decide +kernel
theorem dX6_join_12 : decode cX6_join 12 = .ok (.invokestatic 81, 3) := by decide +kernel
theorem dX6_join_15 : decode cX6_join 15 = .ok (.istore_n 3, 1) := by decide +kernel
theorem dX6_join_16 : decode cX6_join 16 = .ok (.aload_n 0, 1) := by decide +kernel
theorem dX6_join_17 : decode cX6_join 17 = .ok (.getfield 15, 3) := by decide +kernel
theorem dX6_join_20 : decode cX6_join 20 = .ok (.iload_n 1, 1) := by decide +kernel
theorem dX6_join_21 : decode cX6_join 21 = .ok (.iaload, 1) := by decide +kernel
theorem dX6_join_22 : decode cX6_join 22 = .ok (.aload_n 0, 1) := by decide +kernel
theorem dX6_join_23 : decode cX6_join 23 = .ok (.getfield 15, 3) := by decide +kernel
theorem dX6_join_26 : decode cX6_join 26 = .ok (.iload_n 2, 1) := by decide +kernel
theorem dX6_join_27 : decode cX6_join 27 = .ok (.iaload, 1) := by decide +kernel
theorem dX6_join_28 : decode cX6_join 28 = .ok (.invokestatic 87, 3) := by decide +kernel
theorem dX6_join_31 : decode cX6_join 31 = .ok (.istore 4, 2) := by decide +kernel
theorem dX6_join_33 : decode cX6_join 33 = .ok (.iload_n 3, 1) := by decide +kernel
theorem dX6_join_34 : decode cX6_join 34 = .ok (.iload 4, 2) := by decide +kernel
theorem dX6_join_36 : decode cX6_join 36 = .ok (.if_icmp .ne 4, 3) := by decide +kernel
theorem dX6_join_39 : decode cX6_join 39 = .ok (.return_, 1) := by decide +kernel
theorem dX6_join_40 : decode cX6_join 40 = .ok (.iconst 0, 1) := by decide +kernel
theorem dX6_join_41 : decode cX6_join 41 = .ok (.istore 5, 2) := by decide +kernel
theorem dX6_join_43 : decode cX6_join 43 = .ok (.iload 5, 2) := by decide +kernel
theorem dX6_join_45 : decode cX6_join 45 = .ok (.sipush 256, 3) := by decide +kernel
theorem dX6_join_48 : decode cX6_join 48 = .ok (.if_icmp .ge 39, 3) := by decide +kernel
theorem dX6_join_51 : decode cX6_join 51 = .ok (.aload_n 0, 1) := by decide +kernel
theorem dX6_join_52 : decode cX6_join 52 = .ok (.getfield 15, 3) := by decide +kernel
theorem dX6_join_55 : decode cX6_join 55 = .ok (.iload 5, 2) := by decide +kernel
theorem dX6_join_57 : decode cX6_join 57 = .ok (.aload_n 0, 1) := by decide +kernel
theorem dX6_join_58 : decode cX6_join 58 = .ok (.getfield 15, 3) := by decide +kernel
theorem dX6_join_61 : decode cX6_join 61 = .ok (.iload 5, 2) := by decide +kernel
theorem dX6_join_63 : decode cX6_join 63 = .ok (.iaload, 1) := by decide +kernel
theorem dX6_join_64 : decode cX6_join 64 = .ok (.iload 4, 2) := by decide +kernel
theorem dX6_join_66 : decode cX6_join 66 = .ok (.if_icmp .ne 7, 3) := by decide +kernel
theorem dX6_join_69 : decode cX6_join 69 = .ok (.iload_n 3, 1) := by decide +kernel
theorem dX6_join_70 : decode cX6_join 70 = .ok (.goto 10, 3) := by decide +kernel
theorem dX6_join_73 : decode cX6_join 73 = .ok (.aload_n 0, 1) := by decide +kernel
theorem dX6_join_74 : decode cX6_join 74 = .ok (.getfield 15, 3) := by decide +kernel
theorem dX6_join_77 : decode cX6_join 77 = .ok (.iload 5, 2) := by decide +kernel
theorem dX6_join_79 : decode cX6_join 79 = .ok (.iaload, 1) := by decide +kernel
theorem dX6_join_80 : decode cX6_join 80 = .ok (.iastore, 1) := by decide +kernel
theorem dX6_join_81 : decode cX6_join 81 = .ok (.iinc 5 1, 3) := by decide +kernel
theorem dX6_join_84 : decode cX6_join 84 = .ok (.goto (-41), 3) := by decide +kernel
theorem dX6_join_87 : decode cX6_join 87 = .ok (.return_, 1) := by decide +kernel
theorem dX6_isAlike_0 : decode cX6_isAlike 0 = .ok (.iconst 0, 1) := by decide +kernel
theorem dX6_isAlike_1 : decode cX6_isAlike 1 = .ok (.istore_n 3, 1) := by decide +kernel
theorem dX6_isAlike_2 : decode cX6_isAlike 2 = .ok (.iload_n 3, 1) := by decide +kernel
theorem dX6_isAlike_3 : decode cX6_isAlike 3 = .ok (.sipush 256, 3) := by decide +kernel
theorem dX6_isAlike_6 : decode cX6_isAlike 6 = .ok (.if_icmp .ge 44, 3) := by decide +kernel
theorem dX6_isAlike_9 : decode cX6_isAlike 9 = .ok (.aload_n 0, 1) := by decide +kernel
theorem dX6_isAlike_10 : decode cX6_isAlike 10 = .ok (.getfield 19, 3) := by decide +kernel
theorem dX6_isAlike_13 : decode cX6_isAlike 13 = .ok (.iload_n 3, 1) := by decide +kernel
theorem dX6_isAlike_14 : decode cX6_isAlike 14 = .ok (.aload_n 1, 1) := by decide +kernel
theorem dX6_isAlike_15 : decode cX6_isAlike 15 = .ok (.iload_n 3, 1) := by decide +kernel
theorem dX6_isAlike_16 : decode cX6_isAlike 16 = .ok (.iload_n 2, 1) := by decide +kernel
theorem dX6_isAlike_17 : decode cX6_isAlike 17 = .ok (.invokevirtual 90, 3) := by decide +kernel
theorem dX6_isAlike_20 : decode cX6_isAlike 20 = .ok (.lastore, 1) := by decide +kernel
theorem dX6_isAlike_21 : decode cX6_isAlike 21 = .ok (.aload_n 0, 1) := by decide +kernel
theorem dX6_isAlike_22 : decode cX6_isAlike 22 = .ok (.getfield 19, 3) := by decide +kernel
theorem dX6_isAlike_25 : decode cX6_isAlike 25 = .ok (.iload_n 3, 1) := by decide +kernel
theorem dX6_isAlike_26 : decode cX6_isAlike 26 = .ok (.laload, 1) := by decide +kernel
theorem dX6_isAlike_27 : decode cX6_isAlike 27 = .ok (.aload_n 0, 1) := by decide +kernel
theorem dX6_isAlike_28 : decode cX6_isAlike 28 = .ok (.getfield 19, 3) := by decide +kernel
theorem dX6_isAlike_31 : decode cX6_isAlike 31 = .ok (.aload_n 0, 1) := by decide +kernel
theorem dX6_isAlike_32 : decode cX6_isAlike 32 = .ok (.getfield 15, 3) := by decide +kernel
theorem dX6_isAlike_35 : decode cX6_isAlike 35 = .ok (.iload_n 3, 1) := by decide +kernel
theorem dX6_isAlike_36 : decode cX6_isAlike 36 = .ok (.iaload, 1) := by decide +kernel
theorem dX6_isAlike_37 : decode cX6_isAlike 37 = .ok (.laload, 1) := by decide +kernel
theorem dX6_isAlike_38 : decode cX6_isAlike 38 = .ok (.lcmp, 1) := by decide +kernel
theorem dX6_isAlike_39 : decode cX6_isAlike 39 = .ok (.ifCond .eq 5, 3) := by decide +kernel
theorem dX6_isAlike_42 : decode cX6_isAlike 42 = .ok (.iconst 0, 1) := by decide +kernel
theorem dX6_isAlike_43 : decode cX6_isAlike 43 = .ok (.ireturn, 1) := by decide +kernel
theorem dX6_isAlike_44 : decode cX6_isAlike 44 = .ok (.iinc 3 1, 3) := by decide +kernel
theorem dX6_isAlike_47 : decode cX6_isAlike 47 = .ok (.goto (-45), 3) := by decide +kernel
theorem dX6_isAlike_50 : decode cX6_isAlike 50 = .ok (.iconst 1, 1) := by decide +kernel
theorem dX6_isAlike_51 : decode cX6_isAlike 51 = .ok (.ireturn, 1) := by decide +kernel
theorem dX7_init_0 : decode cX7_init 0 = .ok (.aload_n 0, 1) := by decide +kernel
theorem dX7_init_1 : decode cX7_init 1 = .ok (.invokespecial 3, 3) := by decide +kernel
theorem dX7_init_4 : decode cX7_init 4 = .ok (.aload_n 0, 1) := by decide +kernel
theorem dX7_init_5 : decode cX7_init 5 = .ok (.aload_n 1, 1) := by decide +kernel
theorem dX7_init_6 : decode cX7_init 6 = .ok (.putfield 9, 3) := by decide +kernel
theorem dX7_init_9 : decode cX7_init 9 = .ok (.aload_n 0, 1) := by decide +kernel
theorem dX7_init_10 : decode cX7_init 10 = .ok (.bipush (-6), 2) := by decide +kernel
theorem dX7_init_12 : decode cX7_init 12 = .ok (.putfield 15, 3) := by decide +kernel
theorem dX7_init_15 : decode cX7_init 15 = .ok (.aload_n 0, 1) := by decide +kernel
theorem dX7_init_16 : decode cX7_init 16 = .ok (.sipush 169, 3) := by decide +kernel
theorem dX7_init_19 : decode cX7_init 19 = .ok (.newarray .int, 2) := by decide +kernel
theorem dX7_init_21 : decode cX7_init 21 = .ok (.putfield 19, 3) := by decide +kernel
theorem dX7_init_24 : decode cX7_init 24 = .ok (.aload_n 0, 1) := by decide +kernel
theorem dX7_init_25 : decode cX7_init 25 = .ok (.sipush 169, 3) := by decide +kernel
theorem dX7_init_28 : decode cX7_init 28 = .ok (.newarray .int, 2) := by decide +kernel
theorem dX7_init_30 : decode cX7_init 30 = .ok (.putfield 23, 3) := by decide +kernel
theorem dX7_init_33 : decode cX7_init 33 = .ok (.aload_n 0, 1) := by decide +kernel
theorem dX7_init_34 : decode cX7_init 34 = .ok (.sipush 169, 3) := by decide +kernel
theorem dX7_init_37 : decode cX7_init 37 = .ok (.newarray .int, 2) := by decide +kernel
theorem dX7_init_39 : decode cX7_init 39 = .ok (.putfield 26, 3) := by decide +kernel
theorem dX7_init_42 : decode cX7_init 42 = .ok (.aload_n 0, 1) := by decide +kernel
theorem dX7_init_43 : decode cX7_init 43 = .ok (.sipush 169, 3) := by decide +kernel
theorem dX7_init_46 : decode cX7_init 46 = .ok (.newarray .int, 2) := by decide +kernel
theorem dX7_init_48 : decode cX7_init 48 = .ok (.putfield 29, 3) := by decide +kernel
theorem dX7_init_51 : decode cX7_init 51 = .ok (.aload_n 0, 1) := by decide +kernel
theorem dX7_init_52 : decode cX7_init 52 = .ok (.iconst 0, 1) := by decide +kernel
theorem dX7_init_53 : decode cX7_init 53 = .ok (.putfield 32, 3) := by decide +kernel
theorem dX7_init_56 : decode cX7_init 56 = .ok (.aload_n 0, 1) := by decide +kernel
theorem dX7_init_57 : decode cX7_init 57 = .ok (.sipush 256, 3) := by decide +kernel
theorem dX7_init_60 : decode cX7_init 60 = .ok (.newarray .int, 2) := by decide +kernel
theorem dX7_init_62 : decode cX7_init 62 = .ok (.putfield 35, 3) := by decide +kernel
theorem dX7_init_65 : decode cX7_init 65 = .ok (.aload_n 0, 1) := by decide +kernel
theorem dX7_init_66 : decode cX7_init 66 = .ok (.sipush 256, 3) := by decide +kernel
theorem dX7_init_69 : decode cX7_init 69 = .ok (.newarray .int, 2) := by decide +kernel
theorem dX7_init_71 : decode cX7_init 71 = .ok (.putfield 38, 3) := by decide +kernel
theorem dX7_init_74 : decode cX7_init 74 = .ok (.aload_n 0, 1) := by decide +kernel
theorem dX7_init_75 : decode cX7_init 75 = .ok (.iconst 0, 1) := by decide +kernel
theorem dX7_init_76 : decode cX7_init 76 = .ok (.putfield 41, 3) := by decide +kernel
theorem dX7_init_79 : decode cX7_init 79 = .ok (.aload_n 0, 1) := by decide +kernel
theorem dX7_init_80 : decode cX7_init 80 = .ok (.bipush 13, 2) := by decide +kernel
theorem dX7_init_82 : decode cX7_init 82 = .ok (.newarray .int, 2) := by decide +kernel
theorem dX7_init_84 : decode cX7_init 84 = .ok (.putfield 44, 3) := by decide +kernel
theorem dX7_init_87 : decode cX7_init 87 = .ok (.aload_n 0, 1) := by decide +kernel
theorem dX7_init_88 : decode cX7_init 88 = .ok (.getfield 23, 3) := by decide +kernel
theorem dX7_init_91 : decode cX7_init 91 = .ok (.sipush 4095, 3) := by decide +kernel
theorem dX7_init_94 : decode cX7_init 94 = .ok (.invokestatic 47, 3) := by decide +kernel
theorem dX7_init_97 : decode cX7_init 97 = .ok (.iconst 0, 1) := by decide +kernel
theorem dX7_init_98 : decode cX7_init 98 = .ok (.istore_n 2, 1) := by decide +kernel
theorem dX7_init_99 : decode cX7_init 99 = .ok (.iload_n 2, 1) := by decide +kernel
theorem dX7_init_100 : decode cX7_init 100 = .ok (.bipush 12, 2) := by decide +kernel
theorem dX7_init_102 : decode cX7_init 102 = .ok (.if_icmp .ge 33, 3) := by decide +kernel
theorem dX7_init_105 : decode cX7_init 105 = .ok (.aload_n 0, 1) := by decide +kernel
theorem dX7_init_106 : decode cX7_init 106 = .ok (.getfield 19, 3) := by decide +kernel
theorem dX7_init_109 : decode cX7_init 109 = .ok (.iload_n 2, 1) := by decide +kernel
theorem dX7_init_110 : decode cX7_init 110 = .ok (.bipush 13, 2) := by decide +kernel
theorem dX7_init_112 : decode cX7_init 112 = .ok (.imul, 1) := by decide +kernel
theorem dX7_init_113 : decode cX7_init 113 = .ok (.bipush 12, 2) := by decide +kernel
theorem dX7_init_115 : decode cX7_init 115 = .ok (.iadd, 1) := by decide +kernel
theorem dX7_init_116 : decode cX7_init 116 = .ok (.iconst 1, 1) := by decide +kernel
theorem dX7_init_117 : decode cX7_init 117 = .ok (.iastore, 1) := by decide +kernel
theorem dX7_init_118 : decode cX7_init 118 = .ok (.aload_n 0, 1) := by decide +kernel
theorem dX7_init_119 : decode cX7_init 119 = .ok (.getfield 19, 3) := by decide +kernel
theorem dX7_init_122 : decode cX7_init 122 = .ok (.sipush 156, 3) := by decide +kernel
theorem dX7_init_125 : decode cX7_init 125 = .ok (.iload_n 2, 1) := by decide +kernel
theorem dX7_init_126 : decode cX7_init 126 = .ok (.iadd, 1) := by decide +kernel
theorem dX7_init_127 : decode cX7_init 127 = .ok (.iconst 2, 1) := by decide +kernel
theorem dX7_init_128 : decode cX7_init 128 = .ok (.iastore, 1) := by decide +kernel
theorem dX7_init_129 : decode cX7_init 129 = .ok (.iinc 2 1, 3) := by decide +kernel
theorem dX7_init_132 : decode cX7_init 132 = .ok (.goto (-33), 3) := by decide +kernel
theorem dX7_init_135 : decode cX7_init 135 = .ok (.return_, 1) := by decide +kernel
theorem dX7_walkAll_0 : decode cX7_walkAll 0 = .ok (.aload_n 2, 1) := by decide +kernel
theorem dX7_walkAll_1 : decode cX7_walkAll 1 = .ok (.invokevirtual 53, 3) := by decide +kernel
theorem dX7_walkAll_4 : decode cX7_walkAll 4 = .ok (.aload_n 3, 1) := by decide +kernel
theorem dX7_walkAll_5 : decode cX7_walkAll 5 = .ok (.invokevirtual 53, 3) := by decide +kernel
theorem dX7_walkAll_8 : decode cX7_walkAll 8 = .ok (.aload_n 0, 1) := by decide +kernel
theorem dX7_walkAll_9 : decode cX7_walkAll 9 = .ok (.getfield 26, 3) := by decide +kernel
theorem dX7_walkAll_12 : decode cX7_walkAll 12 = .ok (.sipush 4095, 3) := by decide +kernel
theorem dX7_walkAll_15 : decode cX7_walkAll 15 = .ok (.invokestatic 47, 3) := by decide +kernel
theorem dX7_walkAll_18 : decode cX7_walkAll 18 = .ok (.aload_n 0, 1) := by decide +kernel
theorem dX7_walkAll_19 : decode cX7_walkAll 19 = .ok (.getfield 29, 3) := by decide +kernel
theorem dX7_walkAll_22 : decode cX7_walkAll 22 = .ok (.iconst 0, 1) := by decide +kernel
theorem dX7_walkAll_23 : decode cX7_walkAll 23 = .ok (.invokestatic 47, 3) := by decide +kernel
theorem dX7_walkAll_26 : decode cX7_walkAll 26 = .ok (.aload_n 0, 1) := by decide +kernel
theorem dX7_walkAll_27 : decode cX7_walkAll 27 = .ok (.iconst 0, 1) := by decide +kernel
theorem dX7_walkAll_28 : decode cX7_walkAll 28 = .ok (.putfield 32, 3) := by decide +kernel
theorem dX7_walkAll_31 : decode cX7_walkAll 31 = .ok (.iconst 0, 1) := by decide +kernel
theorem dX7_walkAll_32 : decode cX7_walkAll 32 = .ok (.istore 4, 2) := by decide +kernel
theorem dX7_walkAll_34 : decode cX7_walkAll 34 = .ok (.iload 4, 2) := by decide +kernel
theorem dX7_walkAll_36 : decode cX7_walkAll 36 = .ok (.sipush 256, 3) := by decide +kernel
theorem dX7_walkAll_39 : decode cX7_walkAll 39 = .ok (.if_icmp .ge 71, 3) := by decide +kernel
theorem dX7_walkAll_42 : decode cX7_walkAll 42 = .ok (.aload_n 1, 1) := by decide +kernel
theorem dX7_walkAll_43 : decode cX7_walkAll 43 = .ok (.iload 4, 2) := by decide +kernel
theorem dX7_walkAll_45 : decode cX7_walkAll 45 = .ok (.invokevirtual 58, 3) := by decide +kernel
theorem dX7_walkAll_48 : decode cX7_walkAll 48 = .ok (.istore 5, 2) := by decide +kernel
theorem dX7_walkAll_50 : decode cX7_walkAll 50 = .ok (.iconst 0, 1) := by decide +kernel
theorem dX7_walkAll_51 : decode cX7_walkAll 51 = .ok (.istore 6, 2) := by decide +kernel
theorem dX7_walkAll_53 : decode cX7_walkAll 53 = .ok (.iload 6, 2) := by decide +kernel
theorem dX7_walkAll_55 : decode cX7_walkAll 55 = .ok (.sipush 256, 3) := by decide +kernel
theorem dX7_walkAll_58 : decode cX7_walkAll 58 = .ok (.if_icmp .ge 46, 3) := by decide +kernel
theorem dX7_walkAll_61 : decode cX7_walkAll 61 = .ok (.aload_n 0, 1) := by decide +kernel
theorem dX7_walkAll_62 : decode cX7_walkAll 62 = .ok (.getfield 9, 3) := by decide +kernel
theorem dX7_walkAll_65 : decode cX7_walkAll 65 = .ok (.getfield 64, 3) := by decide +kernel
theorem dX7_walkAll_68 : decode cX7_walkAll 68 = .ok (.iload 6, 2) := by decide +kernel
theorem dX7_walkAll_70 : decode cX7_walkAll 70 = .ok (.iaload, 1) := by decide +kernel
theorem dX7_walkAll_71 : decode cX7_walkAll 71 = .ok (.iload 5, 2) := by decide +kernel
theorem dX7_walkAll_73 : decode cX7_walkAll 73 = .ok (.iand, 1) := by decide +kernel
theorem dX7_walkAll_74 : decode cX7_walkAll 74 = .ok (.ifCond .ne 24, 3) := by decide +kernel
theorem dX7_walkAll_77 : decode cX7_walkAll 77 = .ok (.aload_n 0, 1) := by decide +kernel
theorem dX7_walkAll_78 : decode cX7_walkAll 78 = .ok (.aload_n 0, 1) := by decide +kernel
theorem dX7_walkAll_79 : decode cX7_walkAll 79 = .ok (.getfield 32, 3) := by decide +kernel
theorem dX7_walkAll_82 : decode cX7_walkAll 82 = .ok (.aload_n 0, 1) := by decide +kernel
theorem dX7_walkAll_83 : decode cX7_walkAll 83 = .ok (.aload_n 2, 1) := by decide +kernel
theorem dX7_walkAll_84 : decode cX7_walkAll 84 = .ok (.iload 4, 2) := by decide +kernel
theorem dX7_walkAll_86 : decode cX7_walkAll 86 = .ok (.aload_n 3, 1) := by decide +kernel
theorem dX7_walkAll_87 : decode cX7_walkAll 87 = .ok (.iload 6, 2) := by decide +kernel
theorem dX7_walkAll_89 : decode cX7_walkAll 89 = .ok (.invokevirtual 69, 3) := by decide +kernel
theorem dX7_walkAll_92 : decode cX7_walkAll 92 = .ok (.invokestatic 73, 3) := by decide +kernel
theorem dX7_walkAll_95 : decode cX7_walkAll 95 = .ok (.putfield 32, 3) := by decide +kernel
theorem dX7_walkAll_98 : decode cX7_walkAll 98 = .ok (.iinc 6 1, 3) := by decide +kernel
theorem dX7_walkAll_101 : decode cX7_walkAll 101 = .ok (.goto (-48), 3) := by decide +kernel
theorem dX7_walkAll_104 : decode cX7_walkAll 104 = .ok (.iinc 4 1, 3) := by decide +kernel
theorem dX7_walkAll_107 : decode cX7_walkAll 107 = .ok (.goto (-73), 3) := by decide +kernel
theorem dX7_walkAll_110 : decode cX7_walkAll 110 = .ok (.return_, 1) := by decide +kernel
theorem dX7_walkPair_0 : decode cX7_walkPair 0 = .ok (.iload_n 2, 1) := by decide +kernel
theorem dX7_walkPair_1 : decode cX7_walkPair 1 = .ok (.bipush 25, 2) := by decide +kernel
theorem dX7_walkPair_3 : decode cX7_walkPair 3 = .ok (.imul, 1) := by decide +kernel
theorem dX7_walkPair_4 : decode cX7_walkPair 4 = .ok (.istore 5, 2) := by decide +kernel
theorem dX7_walkPair_6 : decode cX7_walkPair 6 = .ok (.iload 4, 2) := by decide +kernel
theorem dX7_walkPair_8 : decode cX7_walkPair 8 = .ok (.bipush 25, 2) := by decide +kernel
theorem dX7_walkPair_10 : decode cX7_walkPair 10 = .ok (.imul, 1) := by decide +kernel
theorem dX7_walkPair_11 : decode cX7_walkPair 11 = .ok (.istore 6, 2) := by decide +kernel
theorem dX7_walkPair_13 : decode cX7_walkPair 13 = .ok (.iconst 0, 1) := by decide +kernel
theorem dX7_walkPair_14 : decode cX7_walkPair 14 = .ok (.istore 7, 2) := by decide +kernel
theorem dX7_walkPair_16 : decode cX7_walkPair 16 = .ok (.iload 7, 2) := by decide +kernel
theorem dX7_walkPair_18 : decode cX7_walkPair 18 = .ok (.bipush 48, 2) := by decide +kernel
theorem dX7_walkPair_20 : decode cX7_walkPair 20 = .ok (.if_icmp .gt 82, 3) := by decide +kernel
theorem dX7_walkPair_23 : decode cX7_walkPair 23 = .ok (.aload_n 0, 1) := by decide +kernel
theorem dX7_walkPair_24 : decode cX7_walkPair 24 = .ok (.aload_n 1, 1) := by decide +kernel
theorem dX7_walkPair_25 : decode cX7_walkPair 25 = .ok (.getfield 79, 3) := by decide +kernel
theorem dX7_walkPair_28 : decode cX7_walkPair 28 = .ok (.iload 5, 2) := by decide +kernel
theorem dX7_walkPair_30 : decode cX7_walkPair 30 = .ok (.iaload, 1) := by decide +kernel
theorem dX7_walkPair_31 : decode cX7_walkPair 31 = .ok (.aload_n 3, 1) := by decide +kernel
theorem dX7_walkPair_32 : decode cX7_walkPair 32 = .ok (.getfield 79, 3) := by decide +kernel
theorem dX7_walkPair_35 : decode cX7_walkPair 35 = .ok (.iload 6, 2) := by decide +kernel
theorem dX7_walkPair_37 : decode cX7_walkPair 37 = .ok (.iaload, 1) := by decide +kernel
theorem dX7_walkPair_38 : decode cX7_walkPair 38 = .ok (.invokevirtual 82, 3) := by decide +kernel
theorem dX7_walkPair_41 : decode cX7_walkPair 41 = .ok (.istore 8, 2) := by decide +kernel
theorem dX7_walkPair_43 : decode cX7_walkPair 43 = .ok (.iload 8, 2) := by decide +kernel
theorem dX7_walkPair_45 : decode cX7_walkPair 45 = .ok (.sipush 168, 3) := by decide +kernel
theorem dX7_walkPair_48 : decode cX7_walkPair 48 = .ok (.if_icmp .ne 6, 3) := by decide +kernel
theorem dX7_walkPair_51 : decode cX7_walkPair 51 = .ok (.iload 7, 2) := by decide +kernel
theorem dX7_walkPair_53 : decode cX7_walkPair 53 = .ok (.ireturn, 1) := by decide +kernel
theorem dX7_walkPair_54 : decode cX7_walkPair 54 = .ok (.iload 5, 2) := by decide +kernel
theorem dX7_walkPair_56 : decode cX7_walkPair 56 = .ok (.aload_n 0, 1) := by decide +kernel
theorem dX7_walkPair_57 : decode cX7_walkPair 57 = .ok (.getfield 19, 3) := by decide +kernel
theorem dX7_walkPair_60 : decode cX7_walkPair 60 = .ok (.iload 8, 2) := by decide +kernel
theorem dX7_walkPair_62 : decode cX7_walkPair 62 = .ok (.iaload, 1) := by decide +kernel
theorem dX7_walkPair_63 : decode cX7_walkPair 63 = .ok (.iconst 2, 1) := by decide +kernel
theorem dX7_walkPair_64 : decode cX7_walkPair 64 = .ok (.if_icmp .ne 7, 3) := by decide +kernel
theorem dX7_walkPair_67 : decode cX7_walkPair 67 = .ok (.iconst 0, 1) := by decide +kernel
theorem dX7_walkPair_68 : decode cX7_walkPair 68 = .ok (.goto 4, 3) := by decide +kernel
theorem dX7_walkPair_71 : decode cX7_walkPair 71 = .ok (.iconst 1, 1) := by decide +kernel
theorem dX7_walkPair_72 : decode cX7_walkPair 72 = .ok (.iadd, 1) := by decide +kernel
theorem dX7_walkPair_73 : decode cX7_walkPair 73 = .ok (.istore 5, 2) := by decide +kernel
theorem dX7_walkPair_75 : decode cX7_walkPair 75 = .ok (.iload 6, 2) := by decide +kernel
theorem dX7_walkPair_77 : decode cX7_walkPair 77 = .ok (.aload_n 0, 1) := by decide +kernel
theorem dX7_walkPair_78 : decode cX7_walkPair 78 = .ok (.getfield 19, 3) := by decide +kernel
theorem dX7_walkPair_81 : decode cX7_walkPair 81 = .ok (.iload 8, 2) := by decide +kernel
theorem dX7_walkPair_83 : decode cX7_walkPair 83 = .ok (.iaload, 1) := by decide +kernel
theorem dX7_walkPair_84 : decode cX7_walkPair 84 = .ok (.iconst 1, 1) := by decide +kernel
theorem dX7_walkPair_85 : decode cX7_walkPair 85 = .ok (.if_icmp .ne 7, 3) := by decide +kernel
theorem dX7_walkPair_88 : decode cX7_walkPair 88 = .ok (.iconst 0, 1) := by decide +kernel
theorem dX7_walkPair_89 : decode cX7_walkPair 89 = .ok (.goto 4, 3) := by decide +kernel
theorem dX7_walkPair_92 : decode cX7_walkPair 92 = .ok (.iconst 1, 1) := by decide +kernel
theorem dX7_walkPair_93 : decode cX7_walkPair 93 = .ok (.iadd, 1) := by decide +kernel
theorem dX7_walkPair_94 : decode cX7_walkPair 94 = .ok (.istore 6, 2) := by decide +kernel
theorem dX7_walkPair_96 : decode cX7_walkPair 96 = .ok (.iinc 7 1, 3) := by decide +kernel
theorem dX7_walkPair_99 : decode cX7_walkPair 99 = .ok (.goto (-83), 3) := by decide +kernel
theorem dX7_walkPair_102 : decode cX7_walkPair 102 = .ok (.bipush 48, 2) := by decide +kernel
theorem dX7_walkPair_104 : decode cX7_walkPair 104 = .ok (.ireturn, 1) := by decide +kernel
theorem dX7_standAt_0 : decode cX7_standAt 0 = .ok (.iload_n 1, 1) := by decide +kernel
theorem dX7_standAt_1 : decode cX7_standAt 1 = .ok (.sipush 256, 3) := by decide +kernel
theorem dX7_standAt_4 : decode cX7_standAt 4 = .ok (.idiv, 1) := by decide +kernel
theorem dX7_standAt_5 : decode cX7_standAt 5 = .ok (.bipush 13, 2) := by decide +kernel
theorem dX7_standAt_7 : decode cX7_standAt 7 = .ok (.imul, 1) := by decide +kernel
theorem dX7_standAt_8 : decode cX7_standAt 8 = .ok (.iload_n 2, 1) := by decide +kernel
theorem dX7_standAt_9 : decode cX7_standAt 9 = .ok (.sipush 256, 3) := by decide +kernel
theorem dX7_standAt_12 : decode cX7_standAt 12 = .ok (.idiv, 1) := by decide +kernel
theorem dX7_standAt_13 : decode cX7_standAt 13 = .ok (.iadd, 1) := by decide +kernel
theorem dX7_standAt_14 : decode cX7_standAt 14 = .ok (.istore_n 3, 1) := by decide +kernel
theorem dX7_standAt_15 : decode cX7_standAt 15 = .ok (.aload_n 0, 1) := by decide +kernel
theorem dX7_standAt_16 : decode cX7_standAt 16 = .ok (.getfield 29, 3) := by decide +kernel
theorem dX7_standAt_19 : decode cX7_standAt 19 = .ok (.iload_n 3, 1) := by decide +kernel
theorem dX7_standAt_20 : decode cX7_standAt 20 = .ok (.iconst 1, 1) := by decide +kernel
theorem dX7_standAt_21 : decode cX7_standAt 21 = .ok (.iastore, 1) := by decide +kernel
theorem dX7_standAt_22 : decode cX7_standAt 22 = .ok (.aload_n 0, 1) := by decide +kernel
theorem dX7_standAt_23 : decode cX7_standAt 23 = .ok (.getfield 26, 3) := by decide +kernel
theorem dX7_standAt_26 : decode cX7_standAt 26 = .ok (.iload_n 3, 1) := by decide +kernel
theorem dX7_standAt_27 : decode cX7_standAt 27 = .ok (.dup2, 1) := by decide +kernel
theorem dX7_standAt_28 : decode cX7_standAt 28 = .ok (.iaload, 1) := by decide +kernel
theorem dX7_standAt_29 : decode cX7_standAt 29 = .ok (.aload_n 0, 1) := by decide +kernel
theorem dX7_standAt_30 : decode cX7_standAt 30 = .ok (.getfield 9, 3) := by decide +kernel
theorem dX7_standAt_33 : decode cX7_standAt 33 = .ok (.iload_n 1, 1) := by decide +kernel
theorem dX7_standAt_34 : decode cX7_standAt 34 = .ok (.iload_n 2, 1) := by decide +kernel
theorem dX7_standAt_35 : decode cX7_standAt 35 = .ok (.invokevirtual 85, 3) := by decide +kernel
theorem dX7_standAt_38 : decode cX7_standAt 38 = .ok (.iand, 1) := by decide +kernel
theorem dX7_standAt_39 : decode cX7_standAt 39 = .ok (.iastore, 1) := by decide +kernel
theorem dX7_standAt_40 : decode cX7_standAt 40 = .ok (.iload_n 3, 1) := by decide +kernel
theorem dX7_standAt_41 : decode cX7_standAt 41 = .ok (.ireturn, 1) := by decide +kernel
theorem dX7_countPlaces_0 : decode cX7_countPlaces 0 = .ok (.iconst 0, 1) := by decide +kernel
theorem dX7_countPlaces_1 : decode cX7_countPlaces 1 = .ok (.istore_n 1, 1) := by decide +kernel
theorem dX7_countPlaces_2 : decode cX7_countPlaces 2 = .ok (.iconst 0, 1) := by decide +kernel
theorem dX7_countPlaces_3 : decode cX7_countPlaces 3 = .ok (.istore_n 2, 1) := by decide +kernel
theorem dX7_countPlaces_4 : decode cX7_countPlaces 4 = .ok (.iload_n 2, 1) := by decide +kernel
theorem dX7_countPlaces_5 : decode cX7_countPlaces 5 = .ok (.sipush 169, 3) := by decide +kernel
theorem dX7_countPlaces_8 : decode cX7_countPlaces 8 = .ok (.if_icmp .ge 18, 3) := by decide +kernel
theorem dX7_countPlaces_11 : decode cX7_countPlaces 11 = .ok (.iload_n 1, 1) := by decide +kernel
theorem dX7_countPlaces_12 : decode cX7_countPlaces 12 = .ok (.aload_n 0, 1) := by decide +kernel
theorem dX7_countPlaces_13 : decode cX7_countPlaces 13 = .ok (.getfield 29, 3) := by decide +kernel
theorem dX7_countPlaces_16 : decode cX7_countPlaces 16 = .ok (.iload_n 2, 1) := by decide +kernel
theorem dX7_countPlaces_17 : decode cX7_countPlaces 17 = .ok (.iaload, 1) := by decide +kernel
theorem dX7_countPlaces_18 : decode cX7_countPlaces 18 = .ok (.iadd, 1) := by decide +kernel
theorem dX7_countPlaces_19 : decode cX7_countPlaces 19 = .ok (.istore_n 1, 1) := by decide +kernel
theorem dX7_countPlaces_20 : decode cX7_countPlaces 20 = .ok (.iinc 2 1, 3) := by decide +kernel
theorem dX7_countPlaces_23 : decode cX7_countPlaces 23 = .ok (.goto (-19), 3) := by decide +kernel
theorem dX7_countPlaces_26 : decode cX7_countPlaces 26 = .ok (.iload_n 1, 1) := by decide +kernel
theorem dX7_countPlaces_27 : decode cX7_countPlaces 27 = .ok (.ireturn, 1) := by decide +kernel
theorem dX7_countUnlike_0 : decode cX7_countUnlike 0 = .ok (.iconst 0, 1) := by decide +kernel
theorem dX7_countUnlike_1 : decode cX7_countUnlike 1 = .ok (.istore_n 1, 1) := by decide +kernel
theorem dX7_countUnlike_2 : decode cX7_countUnlike 2 = .ok (.iconst 0, 1) := by decide +kernel
theorem dX7_countUnlike_3 : decode cX7_countUnlike 3 = .ok (.istore_n 2, 1) := by decide +kernel
theorem dX7_countUnlike_4 : decode cX7_countUnlike 4 = .ok (.iload_n 2, 1) := by decide +kernel
theorem dX7_countUnlike_5 : decode cX7_countUnlike 5 = .ok (.sipush 169, 3) := by decide +kernel
theorem dX7_countUnlike_8 : decode cX7_countUnlike 8 = .ok (.if_icmp .ge 33, 3) := by decide +kernel
theorem dX7_countUnlike_11 : decode cX7_countUnlike 11 = .ok (.iload_n 1, 1) := by decide +kernel
theorem dX7_countUnlike_12 : decode cX7_countUnlike 12 = .ok (.iload_n 2, 1) := by decide +kernel
theorem dX7_countUnlike_13 : decode cX7_countUnlike 13 = .ok (.bipush 13, 2) := by decide +kernel
theorem dX7_countUnlike_15 : decode cX7_countUnlike 15 = .ok (.idiv, 1) := by decide +kernel
theorem dX7_countUnlike_16 : decode cX7_countUnlike 16 = .ok (.iload_n 2, 1) := by decide +kernel
theorem dX7_countUnlike_17 : decode cX7_countUnlike 17 = .ok (.bipush 13, 2) := by decide +kernel
theorem dX7_countUnlike_19 : decode cX7_countUnlike 19 = .ok (.irem, 1) := by decide +kernel
theorem dX7_countUnlike_20 : decode cX7_countUnlike 20 = .ok (.if_icmp .ne 7, 3) := by decide +kernel
theorem dX7_countUnlike_23 : decode cX7_countUnlike 23 = .ok (.iconst 0, 1) := by decide +kernel
theorem dX7_countUnlike_24 : decode cX7_countUnlike 24 = .ok (.goto 9, 3) := by decide +kernel
theorem dX7_countUnlike_27 : decode cX7_countUnlike 27 = .ok (.aload_n 0, 1) := by decide +kernel
theorem dX7_countUnlike_28 : decode cX7_countUnlike 28 = .ok (.getfield 29, 3) := by decide +kernel
theorem dX7_countUnlike_31 : decode cX7_countUnlike 31 = .ok (.iload_n 2, 1) := by decide +kernel
theorem dX7_countUnlike_32 : decode cX7_countUnlike 32 = .ok (.iaload, 1) := by decide +kernel
theorem dX7_countUnlike_33 : decode cX7_countUnlike 33 = .ok (.iadd, 1) := by decide +kernel
theorem dX7_countUnlike_34 : decode cX7_countUnlike 34 = .ok (.istore_n 1, 1) := by decide +kernel
theorem dX7_countUnlike_35 : decode cX7_countUnlike 35 = .ok (.iinc 2 1, 3) := by decide +kernel
theorem dX7_countUnlike_38 : decode cX7_countUnlike 38 = .ok (.goto (-34), 3) := by decide +kernel
theorem dX7_countUnlike_41 : decode cX7_countUnlike 41 = .ok (.iload_n 1, 1) := by decide +kernel
theorem dX7_countUnlike_42 : decode cX7_countUnlike 42 = .ok (.ireturn, 1) := by decide +kernel
theorem dX7_firstFailing_0 : decode cX7_firstFailing 0 = .ok (.iconst 0, 1) := by decide +kernel
theorem dX7_firstFailing_1 : decode cX7_firstFailing 1 = .ok (.istore_n 3, 1) := by decide +kernel
theorem dX7_firstFailing_2 : decode cX7_firstFailing 2 = .ok (.iload_n 3, 1) := by decide +kernel
theorem dX7_firstFailing_3 : decode cX7_firstFailing 3 = .ok (.sipush 168, 3) := by decide +kernel
theorem dX7_firstFailing_6 : decode cX7_firstFailing 6 = .ok (.if_icmp .ge 41, 3) := by decide +kernel
theorem dX7_firstFailing_9 : decode cX7_firstFailing 9 = .ok (.aload_n 0, 1) := by decide +kernel
theorem dX7_firstFailing_10 : decode cX7_firstFailing 10 = .ok (.getfield 29, 3) := by decide +kernel
theorem dX7_firstFailing_13 : decode cX7_firstFailing 13 = .ok (.iload_n 3, 1) := by decide +kernel
theorem dX7_firstFailing_14 : decode cX7_firstFailing 14 = .ok (.iaload, 1) := by decide +kernel
theorem dX7_firstFailing_15 : decode cX7_firstFailing 15 = .ok (.ifCond .eq 26, 3) := by decide +kernel
theorem dX7_firstFailing_18 : decode cX7_firstFailing 18 = .ok (.aload_n 0, 1) := by decide +kernel
theorem dX7_firstFailing_19 : decode cX7_firstFailing 19 = .ok (.aload_n 1, 1) := by decide +kernel
theorem dX7_firstFailing_20 : decode cX7_firstFailing 20 = .ok (.aload_n 2, 1) := by decide +kernel
theorem dX7_firstFailing_21 : decode cX7_firstFailing 21 = .ok (.iload_n 3, 1) := by decide +kernel
theorem dX7_firstFailing_22 : decode cX7_firstFailing 22 = .ok (.invokevirtual 88, 3) := by decide +kernel
theorem dX7_firstFailing_25 : decode cX7_firstFailing 25 = .ok (.ifCond .ne 16, 3) := by decide +kernel
theorem dX7_firstFailing_28 : decode cX7_firstFailing 28 = .ok (.bipush 100, 2) := by decide +kernel
theorem dX7_firstFailing_30 : decode cX7_firstFailing 30 = .ok (.iload_n 3, 1) := by decide +kernel
theorem dX7_firstFailing_31 : decode cX7_firstFailing 31 = .ok (.bipush 13, 2) := by decide +kernel
theorem dX7_firstFailing_33 : decode cX7_firstFailing 33 = .ok (.idiv, 1) := by decide +kernel
theorem dX7_firstFailing_34 : decode cX7_firstFailing 34 = .ok (.imul, 1) := by decide +kernel
theorem dX7_firstFailing_35 : decode cX7_firstFailing 35 = .ok (.iload_n 3, 1) := by decide +kernel
theorem dX7_firstFailing_36 : decode cX7_firstFailing 36 = .ok (.bipush 13, 2) := by decide +kernel
theorem dX7_firstFailing_38 : decode cX7_firstFailing 38 = .ok (.irem, 1) := by decide +kernel
theorem dX7_firstFailing_39 : decode cX7_firstFailing 39 = .ok (.iadd, 1) := by decide +kernel
theorem dX7_firstFailing_40 : decode cX7_firstFailing 40 = .ok (.ireturn, 1) := by decide +kernel
theorem dX7_firstFailing_41 : decode cX7_firstFailing 41 = .ok (.iinc 3 1, 3) := by decide +kernel
theorem dX7_firstFailing_44 : decode cX7_firstFailing 44 = .ok (.goto (-42), 3) := by decide +kernel
theorem dX7_firstFailing_47 : decode cX7_firstFailing 47 = .ok (.bipush (-6), 2) := by decide +kernel
theorem dX7_firstFailing_49 : decode cX7_firstFailing 49 = .ok (.ireturn, 1) := by decide +kernel
theorem dX7_isKept_0 : decode cX7_isKept 0 = .ok (.aload_n 0, 1) := by decide +kernel
theorem dX7_isKept_1 : decode cX7_isKept 1 = .ok (.aload_n 1, 1) := by decide +kernel
theorem dX7_isKept_2 : decode cX7_isKept 2 = .ok (.aload_n 2, 1) := by decide +kernel
theorem dX7_isKept_3 : decode cX7_isKept 3 = .ok (.iload_n 3, 1) := by decide +kernel
theorem dX7_isKept_4 : decode cX7_isKept 4 = .ok (.invokevirtual 92, 3) := by decide +kernel
theorem dX7_isKept_7 : decode cX7_isKept 7 = .ok (.iconst 0, 1) := by decide +kernel
theorem dX7_isKept_8 : decode cX7_isKept 8 = .ok (.istore 4, 2) := by decide +kernel
theorem dX7_isKept_10 : decode cX7_isKept 10 = .ok (.iload 4, 2) := by decide +kernel
theorem dX7_isKept_12 : decode cX7_isKept 12 = .ok (.sipush 256, 3) := by decide +kernel
theorem dX7_isKept_15 : decode cX7_isKept 15 = .ok (.if_icmp .ge 51, 3) := by decide +kernel
theorem dX7_isKept_18 : decode cX7_isKept 18 = .ok (.aload_n 0, 1) := by decide +kernel
theorem dX7_isKept_19 : decode cX7_isKept 19 = .ok (.aload_n 0, 1) := by decide +kernel
theorem dX7_isKept_20 : decode cX7_isKept 20 = .ok (.getfield 35, 3) := by decide +kernel
theorem dX7_isKept_23 : decode cX7_isKept 23 = .ok (.iload 4, 2) := by decide +kernel
theorem dX7_isKept_25 : decode cX7_isKept 25 = .ok (.iaload, 1) := by decide +kernel
theorem dX7_isKept_26 : decode cX7_isKept 26 = .ok (.invokevirtual 96, 3) := by decide +kernel
theorem dX7_isKept_29 : decode cX7_isKept 29 = .ok (.istore 5, 2) := by decide +kernel
theorem dX7_isKept_31 : decode cX7_isKept 31 = .ok (.iload 5, 2) := by decide +kernel
theorem dX7_isKept_33 : decode cX7_isKept 33 = .ok (.ifCond .eq 27, 3) := by decide +kernel
theorem dX7_isKept_36 : decode cX7_isKept 36 = .ok (.aload_n 0, 1) := by decide +kernel
theorem dX7_isKept_37 : decode cX7_isKept 37 = .ok (.aload_n 0, 1) := by decide +kernel
theorem dX7_isKept_38 : decode cX7_isKept 38 = .ok (.getfield 9, 3) := by decide +kernel
theorem dX7_isKept_41 : decode cX7_isKept 41 = .ok (.aload_n 0, 1) := by decide +kernel
theorem dX7_isKept_42 : decode cX7_isKept 42 = .ok (.getfield 23, 3) := by decide +kernel
theorem dX7_isKept_45 : decode cX7_isKept 45 = .ok (.iload_n 3, 1) := by decide +kernel
theorem dX7_isKept_46 : decode cX7_isKept 46 = .ok (.iaload, 1) := by decide +kernel
theorem dX7_isKept_47 : decode cX7_isKept 47 = .ok (.iload 4, 2) := by decide +kernel
theorem dX7_isKept_49 : decode cX7_isKept 49 = .ok (.invokevirtual 100, 3) := by decide +kernel
theorem dX7_isKept_52 : decode cX7_isKept 52 = .ok (.invokevirtual 103, 3) := by decide +kernel
theorem dX7_isKept_55 : decode cX7_isKept 55 = .ok (.ifCond .ne 5, 3) := by decide +kernel
theorem dX7_isKept_58 : decode cX7_isKept 58 = .ok (.iconst 0, 1) := by decide +kernel
theorem dX7_isKept_59 : decode cX7_isKept 59 = .ok (.ireturn, 1) := by decide +kernel
theorem dX7_isKept_60 : decode cX7_isKept 60 = .ok (.iinc 4 1, 3) := by decide +kernel
theorem dX7_isKept_63 : decode cX7_isKept 63 = .ok (.goto (-53), 3) := by decide +kernel
theorem dX7_isKept_66 : decode cX7_isKept 66 = .ok (.iconst 1, 1) := by decide +kernel
theorem dX7_isKept_67 : decode cX7_isKept 67 = .ok (.ireturn, 1) := by decide +kernel
theorem dX7_moveAll_0 : decode cX7_moveAll 0 = .ok (.iload_n 3, 1) := by decide +kernel
theorem dX7_moveAll_1 : decode cX7_moveAll 1 = .ok (.bipush 13, 2) := by decide +kernel
theorem dX7_moveAll_3 : decode cX7_moveAll 3 = .ok (.idiv, 1) := by decide +kernel
theorem dX7_moveAll_4 : decode cX7_moveAll 4 = .ok (.istore 4, 2) := by decide +kernel
theorem dX7_moveAll_6 : decode cX7_moveAll 6 = .ok (.iload_n 3, 1) := by decide +kernel
theorem dX7_moveAll_7 : decode cX7_moveAll 7 = .ok (.bipush 13, 2) := by decide +kernel
theorem dX7_moveAll_9 : decode cX7_moveAll 9 = .ok (.irem, 1) := by decide +kernel
theorem dX7_moveAll_10 : decode cX7_moveAll 10 = .ok (.istore 5, 2) := by decide +kernel
theorem dX7_moveAll_12 : decode cX7_moveAll 12 = .ok (.aload_n 0, 1) := by decide +kernel
theorem dX7_moveAll_13 : decode cX7_moveAll 13 = .ok (.getfield 19, 3) := by decide +kernel
theorem dX7_moveAll_16 : decode cX7_moveAll 16 = .ok (.iload_n 3, 1) := by decide +kernel
theorem dX7_moveAll_17 : decode cX7_moveAll 17 = .ok (.iaload, 1) := by decide +kernel
theorem dX7_moveAll_18 : decode cX7_moveAll 18 = .ok (.istore 6, 2) := by decide +kernel
theorem dX7_moveAll_20 : decode cX7_moveAll 20 = .ok (.aload_n 0, 1) := by decide +kernel
theorem dX7_moveAll_21 : decode cX7_moveAll 21 = .ok (.iconst 0, 1) := by decide +kernel
theorem dX7_moveAll_22 : decode cX7_moveAll 22 = .ok (.putfield 41, 3) := by decide +kernel
theorem dX7_moveAll_25 : decode cX7_moveAll 25 = .ok (.iconst 0, 1) := by decide +kernel
theorem dX7_moveAll_26 : decode cX7_moveAll 26 = .ok (.istore 7, 2) := by decide +kernel
theorem dX7_moveAll_28 : decode cX7_moveAll 28 = .ok (.iload 7, 2) := by decide +kernel
theorem dX7_moveAll_30 : decode cX7_moveAll 30 = .ok (.sipush 256, 3) := by decide +kernel
theorem dX7_moveAll_33 : decode cX7_moveAll 33 = .ok (.if_icmp .ge 97, 3) := by decide +kernel
theorem dX7_moveAll_36 : decode cX7_moveAll 36 = .ok (.aload_n 0, 1) := by decide +kernel
theorem dX7_moveAll_37 : decode cX7_moveAll 37 = .ok (.getfield 35, 3) := by decide +kernel
theorem dX7_moveAll_40 : decode cX7_moveAll 40 = .ok (.iload 7, 2) := by decide +kernel
theorem dX7_moveAll_42 : decode cX7_moveAll 42 = .ok (.iload 6, 2) := by decide +kernel
theorem dX7_moveAll_44 : decode cX7_moveAll 44 = .ok (.iconst 2, 1) := by decide +kernel
theorem dX7_moveAll_45 : decode cX7_moveAll 45 = .ok (.if_icmp .ne 15, 3) := by decide +kernel
theorem dX7_moveAll_48 : decode cX7_moveAll 48 = .ok (.iload 4, 2) := by decide +kernel
theorem dX7_moveAll_50 : decode cX7_moveAll 50 = .ok (.sipush 256, 3) := by decide +kernel
theorem dX7_moveAll_53 : decode cX7_moveAll 53 = .ok (.imul, 1) := by decide +kernel
theorem dX7_moveAll_54 : decode cX7_moveAll 54 = .ok (.iload 7, 2) := by decide +kernel
theorem dX7_moveAll_56 : decode cX7_moveAll 56 = .ok (.iadd, 1) := by decide +kernel
theorem dX7_moveAll_57 : decode cX7_moveAll 57 = .ok (.goto 11, 3) := by decide +kernel
theorem dX7_moveAll_60 : decode cX7_moveAll 60 = .ok (.aload_n 1, 1) := by decide +kernel
theorem dX7_moveAll_61 : decode cX7_moveAll 61 = .ok (.iload 4, 2) := by decide +kernel
theorem dX7_moveAll_63 : decode cX7_moveAll 63 = .ok (.iload 7, 2) := by decide +kernel
theorem dX7_moveAll_65 : decode cX7_moveAll 65 = .ok (.invokevirtual 106, 3) := by decide +kernel
theorem dX7_moveAll_68 : decode cX7_moveAll 68 = .ok (.iastore, 1) := by decide +kernel
theorem dX7_moveAll_69 : decode cX7_moveAll 69 = .ok (.aload_n 0, 1) := by decide +kernel
theorem dX7_moveAll_70 : decode cX7_moveAll 70 = .ok (.getfield 38, 3) := by decide +kernel
theorem dX7_moveAll_73 : decode cX7_moveAll 73 = .ok (.iload 7, 2) := by decide +kernel
theorem dX7_moveAll_75 : decode cX7_moveAll 75 = .ok (.iload 6, 2) := by decide +kernel
theorem dX7_moveAll_77 : decode cX7_moveAll 77 = .ok (.iconst 1, 1) := by decide +kernel
theorem dX7_moveAll_78 : decode cX7_moveAll 78 = .ok (.if_icmp .ne 15, 3) := by decide +kernel
theorem dX7_moveAll_81 : decode cX7_moveAll 81 = .ok (.iload 5, 2) := by decide +kernel
theorem dX7_moveAll_83 : decode cX7_moveAll 83 = .ok (.sipush 256, 3) := by decide +kernel
theorem dX7_moveAll_86 : decode cX7_moveAll 86 = .ok (.imul, 1) := by decide +kernel
theorem dX7_moveAll_87 : decode cX7_moveAll 87 = .ok (.iload 7, 2) := by decide +kernel
theorem dX7_moveAll_89 : decode cX7_moveAll 89 = .ok (.iadd, 1) := by decide +kernel
theorem dX7_moveAll_90 : decode cX7_moveAll 90 = .ok (.goto 11, 3) := by decide +kernel
theorem dX7_moveAll_93 : decode cX7_moveAll 93 = .ok (.aload_n 2, 1) := by decide +kernel
theorem dX7_moveAll_94 : decode cX7_moveAll 94 = .ok (.iload 5, 2) := by decide +kernel
theorem dX7_moveAll_96 : decode cX7_moveAll 96 = .ok (.iload 7, 2) := by decide +kernel
theorem dX7_moveAll_98 : decode cX7_moveAll 98 = .ok (.invokevirtual 106, 3) := by decide +kernel
theorem dX7_moveAll_101 : decode cX7_moveAll 101 = .ok (.iastore, 1) := by decide +kernel
theorem dX7_moveAll_102 : decode cX7_moveAll 102 = .ok (.aload_n 0, 1) := by decide +kernel
theorem dX7_moveAll_103 : decode cX7_moveAll 103 = .ok (.dup, 1) := by decide +kernel
theorem dX7_moveAll_104 : decode cX7_moveAll 104 = .ok (.getfield 41, 3) := by decide +kernel
theorem dX7_moveAll_107 : decode cX7_moveAll 107 = .ok (.iconst 1, 1) := by decide +kernel
theorem dX7_moveAll_108 : decode cX7_moveAll 108 = .ok (.aload_n 0, 1) := by decide +kernel
theorem dX7_moveAll_109 : decode cX7_moveAll 109 = .ok (.getfield 38, 3) := by decide +kernel
theorem dX7_moveAll_112 : decode cX7_moveAll 112 = .ok (.iload 7, 2) := by decide +kernel
theorem dX7_moveAll_114 : decode cX7_moveAll 114 = .ok (.iaload, 1) := by decide +kernel
theorem dX7_moveAll_115 : decode cX7_moveAll 115 = .ok (.sipush 256, 3) := by decide +kernel
theorem dX7_moveAll_118 : decode cX7_moveAll 118 = .ok (.idiv, 1) := by decide +kernel
theorem dX7_moveAll_119 : decode cX7_moveAll 119 = .ok (.ishl, 1) := by decide +kernel
theorem dX7_moveAll_120 : decode cX7_moveAll 120 = .ok (.ior, 1) := by decide +kernel
theorem dX7_moveAll_121 : decode cX7_moveAll 121 = .ok (.putfield 41, 3) := by decide +kernel
theorem dX7_moveAll_124 : decode cX7_moveAll 124 = .ok (.iinc 7 1, 3) := by decide +kernel
theorem dX7_moveAll_127 : decode cX7_moveAll 127 = .ok (.goto (-99), 3) := by decide +kernel
theorem dX7_moveAll_130 : decode cX7_moveAll 130 = .ok (.return_, 1) := by decide +kernel
theorem dX7_askNext_0 : decode cX7_askNext 0 = .ok (.iconst 0, 1) := by decide +kernel
theorem dX7_askNext_1 : decode cX7_askNext 1 = .ok (.istore_n 2, 1) := by decide +kernel
theorem dX7_askNext_2 : decode cX7_askNext 2 = .ok (.iconst 0, 1) := by decide +kernel
theorem dX7_askNext_3 : decode cX7_askNext 3 = .ok (.istore_n 3, 1) := by decide +kernel
theorem dX7_askNext_4 : decode cX7_askNext 4 = .ok (.iload_n 3, 1) := by decide +kernel
theorem dX7_askNext_5 : decode cX7_askNext 5 = .ok (.bipush 13, 2) := by decide +kernel
theorem dX7_askNext_7 : decode cX7_askNext 7 = .ok (.if_icmp .ge 66, 3) := by decide +kernel
theorem dX7_askNext_10 : decode cX7_askNext 10 = .ok (.aload_n 0, 1) := by decide +kernel
theorem dX7_askNext_11 : decode cX7_askNext 11 = .ok (.getfield 41, 3) := by decide +kernel
theorem dX7_askNext_14 : decode cX7_askNext 14 = .ok (.iload_n 3, 1) := by decide +kernel
theorem dX7_askNext_15 : decode cX7_askNext 15 = .ok (.ishr, 1) := by decide +kernel
theorem dX7_askNext_16 : decode cX7_askNext 16 = .ok (.iconst 1, 1) := by decide +kernel
theorem dX7_askNext_17 : decode cX7_askNext 17 = .ok (.iand, 1) := by decide +kernel
theorem dX7_askNext_18 : decode cX7_askNext 18 = .ok (.ifCond .eq 49, 3) := by decide +kernel
theorem dX7_askNext_21 : decode cX7_askNext 21 = .ok (.aload_n 0, 1) := by decide +kernel
theorem dX7_askNext_22 : decode cX7_askNext 22 = .ok (.getfield 23, 3) := by decide +kernel
theorem dX7_askNext_25 : decode cX7_askNext 25 = .ok (.iload_n 1, 1) := by decide +kernel
theorem dX7_askNext_26 : decode cX7_askNext 26 = .ok (.sipush 256, 3) := by decide +kernel
theorem dX7_askNext_29 : decode cX7_askNext 29 = .ok (.idiv, 1) := by decide +kernel
theorem dX7_askNext_30 : decode cX7_askNext 30 = .ok (.bipush 13, 2) := by decide +kernel
theorem dX7_askNext_32 : decode cX7_askNext 32 = .ok (.imul, 1) := by decide +kernel
theorem dX7_askNext_33 : decode cX7_askNext 33 = .ok (.iload_n 3, 1) := by decide +kernel
theorem dX7_askNext_34 : decode cX7_askNext 34 = .ok (.iadd, 1) := by decide +kernel
theorem dX7_askNext_35 : decode cX7_askNext 35 = .ok (.iaload, 1) := by decide +kernel
theorem dX7_askNext_36 : decode cX7_askNext 36 = .ok (.istore 4, 2) := by decide +kernel
theorem dX7_askNext_38 : decode cX7_askNext 38 = .ok (.aload_n 0, 1) := by decide +kernel
theorem dX7_askNext_39 : decode cX7_askNext 39 = .ok (.getfield 44, 3) := by decide +kernel
theorem dX7_askNext_42 : decode cX7_askNext 42 = .ok (.iload_n 3, 1) := by decide +kernel
theorem dX7_askNext_43 : decode cX7_askNext 43 = .ok (.aload_n 0, 1) := by decide +kernel
theorem dX7_askNext_44 : decode cX7_askNext 44 = .ok (.getfield 9, 3) := by decide +kernel
theorem dX7_askNext_47 : decode cX7_askNext 47 = .ok (.iload 4, 2) := by decide +kernel
theorem dX7_askNext_49 : decode cX7_askNext 49 = .ok (.iload_n 1, 1) := by decide +kernel
theorem dX7_askNext_50 : decode cX7_askNext 50 = .ok (.sipush 256, 3) := by decide +kernel
theorem dX7_askNext_53 : decode cX7_askNext 53 = .ok (.irem, 1) := by decide +kernel
theorem dX7_askNext_54 : decode cX7_askNext 54 = .ok (.invokevirtual 100, 3) := by decide +kernel
theorem dX7_askNext_57 : decode cX7_askNext 57 = .ok (.iastore, 1) := by decide +kernel
theorem dX7_askNext_58 : decode cX7_askNext 58 = .ok (.iload_n 2, 1) := by decide +kernel
theorem dX7_askNext_59 : decode cX7_askNext 59 = .ok (.aload_n 0, 1) := by decide +kernel
theorem dX7_askNext_60 : decode cX7_askNext 60 = .ok (.getfield 44, 3) := by decide +kernel
theorem dX7_askNext_63 : decode cX7_askNext 63 = .ok (.iload_n 3, 1) := by decide +kernel
theorem dX7_askNext_64 : decode cX7_askNext 64 = .ok (.iaload, 1) := by decide +kernel
theorem dX7_askNext_65 : decode cX7_askNext 65 = .ok (.ior, 1) := by decide +kernel
theorem dX7_askNext_66 : decode cX7_askNext 66 = .ok (.istore_n 2, 1) := by decide +kernel
theorem dX7_askNext_67 : decode cX7_askNext 67 = .ok (.iinc 3 1, 3) := by decide +kernel
theorem dX7_askNext_70 : decode cX7_askNext 70 = .ok (.goto (-66), 3) := by decide +kernel
theorem dX7_askNext_73 : decode cX7_askNext 73 = .ok (.iload_n 2, 1) := by decide +kernel
theorem dX7_askNext_74 : decode cX7_askNext 74 = .ok (.ifCond .eq 7, 3) := by decide +kernel
theorem dX7_askNext_77 : decode cX7_askNext 77 = .ok (.iconst 1, 1) := by decide +kernel
theorem dX7_askNext_78 : decode cX7_askNext 78 = .ok (.goto 4, 3) := by decide +kernel
theorem dX7_askNext_81 : decode cX7_askNext 81 = .ok (.iconst 0, 1) := by decide +kernel
theorem dX7_askNext_82 : decode cX7_askNext 82 = .ok (.ireturn, 1) := by decide +kernel
theorem dX7_areKept_0 : decode cX7_areKept 0 = .ok (.iconst 0, 1) := by decide +kernel
theorem dX7_areKept_1 : decode cX7_areKept 1 = .ok (.istore_n 2, 1) := by decide +kernel
theorem dX7_areKept_2 : decode cX7_areKept 2 = .ok (.iload_n 2, 1) := by decide +kernel
theorem dX7_areKept_3 : decode cX7_areKept 3 = .ok (.sipush 256, 3) := by decide +kernel
theorem dX7_areKept_6 : decode cX7_areKept 6 = .ok (.if_icmp .ge 71, 3) := by decide +kernel
theorem dX7_areKept_9 : decode cX7_areKept 9 = .ok (.aload_n 0, 1) := by decide +kernel
theorem dX7_areKept_10 : decode cX7_areKept 10 = .ok (.getfield 38, 3) := by decide +kernel
theorem dX7_areKept_13 : decode cX7_areKept 13 = .ok (.iload_n 2, 1) := by decide +kernel
theorem dX7_areKept_14 : decode cX7_areKept 14 = .ok (.iaload, 1) := by decide +kernel
theorem dX7_areKept_15 : decode cX7_areKept 15 = .ok (.istore_n 3, 1) := by decide +kernel
theorem dX7_areKept_16 : decode cX7_areKept 16 = .ok (.aload_n 0, 1) := by decide +kernel
theorem dX7_areKept_17 : decode cX7_areKept 17 = .ok (.getfield 9, 3) := by decide +kernel
theorem dX7_areKept_20 : decode cX7_areKept 20 = .ok (.getfield 64, 3) := by decide +kernel
theorem dX7_areKept_23 : decode cX7_areKept 23 = .ok (.iload_n 2, 1) := by decide +kernel
theorem dX7_areKept_24 : decode cX7_areKept 24 = .ok (.iaload, 1) := by decide +kernel
theorem dX7_areKept_25 : decode cX7_areKept 25 = .ok (.iload_n 1, 1) := by decide +kernel
theorem dX7_areKept_26 : decode cX7_areKept 26 = .ok (.iand, 1) := by decide +kernel
theorem dX7_areKept_27 : decode cX7_areKept 27 = .ok (.ifCond .ne 7, 3) := by decide +kernel
theorem dX7_areKept_30 : decode cX7_areKept 30 = .ok (.iconst 1, 1) := by decide +kernel
theorem dX7_areKept_31 : decode cX7_areKept 31 = .ok (.goto 4, 3) := by decide +kernel
theorem dX7_areKept_34 : decode cX7_areKept 34 = .ok (.iconst 0, 1) := by decide +kernel
theorem dX7_areKept_35 : decode cX7_areKept 35 = .ok (.istore 4, 2) := by decide +kernel
theorem dX7_areKept_37 : decode cX7_areKept 37 = .ok (.iload 4, 2) := by decide +kernel
theorem dX7_areKept_39 : decode cX7_areKept 39 = .ok (.ifCond .eq 32, 3) := by decide +kernel
theorem dX7_areKept_42 : decode cX7_areKept 42 = .ok (.aload_n 0, 1) := by decide +kernel
theorem dX7_areKept_43 : decode cX7_areKept 43 = .ok (.getfield 9, 3) := by decide +kernel
theorem dX7_areKept_46 : decode cX7_areKept 46 = .ok (.getfield 64, 3) := by decide +kernel
theorem dX7_areKept_49 : decode cX7_areKept 49 = .ok (.iload_n 3, 1) := by decide +kernel
theorem dX7_areKept_50 : decode cX7_areKept 50 = .ok (.sipush 256, 3) := by decide +kernel
theorem dX7_areKept_53 : decode cX7_areKept 53 = .ok (.irem, 1) := by decide +kernel
theorem dX7_areKept_54 : decode cX7_areKept 54 = .ok (.iaload, 1) := by decide +kernel
theorem dX7_areKept_55 : decode cX7_areKept 55 = .ok (.aload_n 0, 1) := by decide +kernel
theorem dX7_areKept_56 : decode cX7_areKept 56 = .ok (.getfield 44, 3) := by decide +kernel
theorem dX7_areKept_59 : decode cX7_areKept 59 = .ok (.iload_n 3, 1) := by decide +kernel
theorem dX7_areKept_60 : decode cX7_areKept 60 = .ok (.sipush 256, 3) := by decide +kernel
theorem dX7_areKept_63 : decode cX7_areKept 63 = .ok (.idiv, 1) := by decide +kernel
theorem dX7_areKept_64 : decode cX7_areKept 64 = .ok (.iaload, 1) := by decide +kernel
theorem dX7_areKept_65 : decode cX7_areKept 65 = .ok (.iand, 1) := by decide +kernel
theorem dX7_areKept_66 : decode cX7_areKept 66 = .ok (.ifCond .eq 5, 3) := by decide +kernel
theorem dX7_areKept_69 : decode cX7_areKept 69 = .ok (.iconst 0, 1) := by decide +kernel
theorem dX7_areKept_70 : decode cX7_areKept 70 = .ok (.ireturn, 1) := by decide +kernel
theorem dX7_areKept_71 : decode cX7_areKept 71 = .ok (.iinc 2 1, 3) := by decide +kernel
theorem dX7_areKept_74 : decode cX7_areKept 74 = .ok (.goto (-72), 3) := by decide +kernel
theorem dX7_areKept_77 : decode cX7_areKept 77 = .ok (.iconst 1, 1) := by decide +kernel
theorem dX7_areKept_78 : decode cX7_areKept 78 = .ok (.ireturn, 1) := by decide +kernel
theorem dX8_init_0 : decode cX8_init 0 = .ok (.aload_n 0, 1) := by decide +kernel
theorem dX8_init_1 : decode cX8_init 1 = .ok (.invokespecial 3, 3) := by decide +kernel
theorem dX8_init_4 : decode cX8_init 4 = .ok (.new 9, 3) := by decide +kernel
theorem dX8_init_7 : decode cX8_init 7 = .ok (.dup, 1) := by decide +kernel
theorem dX8_init_8 : decode cX8_init 8 = .ok (.invokespecial 11, 3) := by decide +kernel
theorem dX8_init_11 : decode cX8_init 11 = .ok (.astore_n 1, 1) := by decide +kernel
theorem dX8_init_12 : decode cX8_init 12 = .ok (.aload_n 0, 1) := by decide +kernel
theorem dX8_init_13 : decode cX8_init 13 = .ok (.iconst 4, 1) := by decide +kernel
theorem dX8_init_14 : decode cX8_init 14 = .ok (.anewarray 12, 3) := by decide +kernel
theorem dX8_init_17 : decode cX8_init 17 = .ok (.putfield 14, 3) := by decide +kernel
theorem dX8_init_20 : decode cX8_init 20 = .ok (.iconst 0, 1) := by decide +kernel
theorem dX8_init_21 : decode cX8_init 21 = .ok (.istore_n 2, 1) := by decide +kernel
theorem dX8_init_22 : decode cX8_init 22 = .ok (.iload_n 2, 1) := by decide +kernel
theorem dX8_init_23 : decode cX8_init 23 = .ok (.iconst 4, 1) := by decide +kernel
theorem dX8_init_24 : decode cX8_init 24 = .ok (.if_icmp .ge 23, 3) := by decide +kernel
theorem dX8_init_27 : decode cX8_init 27 = .ok (.aload_n 0, 1) := by decide +kernel
theorem dX8_init_28 : decode cX8_init 28 = .ok (.getfield 14, 3) := by decide +kernel
theorem dX8_init_31 : decode cX8_init 31 = .ok (.iload_n 2, 1) := by decide +kernel
theorem dX8_init_32 : decode cX8_init 32 = .ok (.new 12, 3) := by decide +kernel
theorem dX8_init_35 : decode cX8_init 35 = .ok (.dup, 1) := by decide +kernel
theorem dX8_init_36 : decode cX8_init 36 = .ok (.aload_n 1, 1) := by decide +kernel
theorem dX8_init_37 : decode cX8_init 37 = .ok (.invokespecial 18, 3) := by decide +kernel
theorem dX8_init_40 : decode cX8_init 40 = .ok (.aastore, 1) := by decide +kernel
theorem dX8_init_41 : decode cX8_init 41 = .ok (.iinc 2 1, 3) := by decide +kernel
theorem dX8_init_44 : decode cX8_init 44 = .ok (.goto (-22), 3) := by decide +kernel
theorem dX8_init_47 : decode cX8_init 47 = .ok (.aload_n 0, 1) := by decide +kernel
theorem dX8_init_48 : decode cX8_init 48 = .ok (.bipush 6, 2) := by decide +kernel
theorem dX8_init_50 : decode cX8_init 50 = .ok (.anewarray 21, 3) := by decide +kernel
theorem dX8_init_53 : decode cX8_init 53 = .ok (.putfield 23, 3) := by decide +kernel
theorem dX8_init_56 : decode cX8_init 56 = .ok (.iconst 0, 1) := by decide +kernel
theorem dX8_init_57 : decode cX8_init 57 = .ok (.istore_n 2, 1) := by decide +kernel
theorem dX8_init_58 : decode cX8_init 58 = .ok (.iload_n 2, 1) := by decide +kernel
theorem dX8_init_59 : decode cX8_init 59 = .ok (.bipush 6, 2) := by decide +kernel
theorem dX8_init_61 : decode cX8_init 61 = .ok (.if_icmp .ge 22, 3) := by decide +kernel
theorem dX8_init_64 : decode cX8_init 64 = .ok (.aload_n 0, 1) := by decide +kernel
theorem dX8_init_65 : decode cX8_init 65 = .ok (.getfield 23, 3) := by decide +kernel
theorem dX8_init_68 : decode cX8_init 68 = .ok (.iload_n 2, 1) := by decide +kernel
theorem dX8_init_69 : decode cX8_init 69 = .ok (.new 21, 3) := by decide +kernel
theorem dX8_init_72 : decode cX8_init 72 = .ok (.dup, 1) := by decide +kernel
theorem dX8_init_73 : decode cX8_init 73 = .ok (.invokespecial 27, 3) := by decide +kernel
theorem dX8_init_76 : decode cX8_init 76 = .ok (.aastore, 1) := by decide +kernel
theorem dX8_init_77 : decode cX8_init 77 = .ok (.iinc 2 1, 3) := by decide +kernel
theorem dX8_init_80 : decode cX8_init 80 = .ok (.goto (-22), 3) := by decide +kernel
theorem dX8_init_83 : decode cX8_init 83 = .ok (.aload_n 0, 1) := by decide +kernel
theorem dX8_init_84 : decode cX8_init 84 = .ok (.iconst 0, 1) := by decide +kernel
theorem dX8_init_85 : decode cX8_init 85 = .ok (.putfield 28, 3) := by decide +kernel
theorem dX8_init_88 : decode cX8_init 88 = .ok (.aload_n 0, 1) := by decide +kernel
theorem dX8_init_89 : decode cX8_init 89 = .ok (.new 21, 3) := by decide +kernel
theorem dX8_init_92 : decode cX8_init 92 = .ok (.dup, 1) := by decide +kernel
theorem dX8_init_93 : decode cX8_init 93 = .ok (.invokespecial 27, 3) := by decide +kernel
theorem dX8_init_96 : decode cX8_init 96 = .ok (.putfield 32, 3) := by decide +kernel
theorem dX8_init_99 : decode cX8_init 99 = .ok (.aload_n 0, 1) := by decide +kernel
theorem dX8_init_100 : decode cX8_init 100 = .ok (.new 36, 3) := by decide +kernel
theorem dX8_init_103 : decode cX8_init 103 = .ok (.dup, 1) := by decide +kernel
theorem dX8_init_104 : decode cX8_init 104 = .ok (.aload_n 1, 1) := by decide +kernel
theorem dX8_init_105 : decode cX8_init 105 = .ok (.invokespecial 38, 3) := by decide +kernel
theorem dX8_init_108 : decode cX8_init 108 = .ok (.putfield 39, 3) := by decide +kernel
theorem dX8_init_111 : decode cX8_init 111 = .ok (.aload_n 0, 1) := by decide +kernel
theorem dX8_init_112 : decode cX8_init 112 = .ok (.new 43, 3) := by decide +kernel
theorem dX8_init_115 : decode cX8_init 115 = .ok (.dup, 1) := by decide +kernel
theorem dX8_init_116 : decode cX8_init 116 = .ok (.aload_n 0, 1) := by decide +kernel
theorem dX8_init_117 : decode cX8_init 117 = .ok (.getfield 39, 3) := by decide +kernel
theorem dX8_init_120 : decode cX8_init 120 = .ok (.invokespecial 45, 3) := by decide +kernel
theorem dX8_init_123 : decode cX8_init 123 = .ok (.putfield 48, 3) := by decide +kernel
theorem dX8_init_126 : decode cX8_init 126 = .ok (.aload_n 0, 1) := by decide +kernel
theorem dX8_init_127 : decode cX8_init 127 = .ok (.new 52, 3) := by decide +kernel
theorem dX8_init_130 : decode cX8_init 130 = .ok (.dup, 1) := by decide +kernel
theorem dX8_init_131 : decode cX8_init 131 = .ok (.aload_n 0, 1) := by decide +kernel
theorem dX8_init_132 : decode cX8_init 132 = .ok (.getfield 39, 3) := by decide +kernel
theorem dX8_init_135 : decode cX8_init 135 = .ok (.invokespecial 54, 3) := by decide +kernel
theorem dX8_init_138 : decode cX8_init 138 = .ok (.putfield 55, 3) := by decide +kernel
theorem dX8_init_141 : decode cX8_init 141 = .ok (.aload_n 0, 1) := by decide +kernel
theorem dX8_init_142 : decode cX8_init 142 = .ok (.new 59, 3) := by decide +kernel
theorem dX8_init_145 : decode cX8_init 145 = .ok (.dup, 1) := by decide +kernel
theorem dX8_init_146 : decode cX8_init 146 = .ok (.aload_n 1, 1) := by decide +kernel
theorem dX8_init_147 : decode cX8_init 147 = .ok (.invokespecial 61, 3) := by decide +kernel
theorem dX8_init_150 : decode cX8_init 150 = .ok (.putfield 62, 3) := by decide +kernel
theorem dX8_init_153 : decode cX8_init 153 = .ok (.aload_n 0, 1) := by decide +kernel
theorem dX8_init_154 : decode cX8_init 154 = .ok (.new 66, 3) := by decide +kernel
theorem dX8_init_157 : decode cX8_init 157 = .ok (.dup, 1) := by decide +kernel
theorem dX8_init_158 : decode cX8_init 158 = .ok (.invokespecial 68, 3) := by decide +kernel
theorem dX8_init_161 : decode cX8_init 161 = .ok (.putfield 69, 3) := by decide +kernel
theorem dX8_init_164 : decode cX8_init 164 = .ok (.return_, 1) := by decide +kernel
theorem dX8_line_0 : decode cX8_line 0 = .ok (.iload_n 1, 1) := by decide +kernel
theorem dX8_line_1 : decode cX8_line 1 = .ok (.invokestatic 73, 3) := by decide +kernel
theorem dX8_line_4 : decode cX8_line 4 = .ok (.ifCond .ne 5, 3) := by decide +kernel
theorem dX8_line_7 : decode cX8_line 7 = .ok (.iconst (-1), 1) := by decide +kernel
theorem dX8_line_8 : decode cX8_line 8 = .ok (.ireturn, 1) := by decide +kernel
theorem dX8_line_9 : decode cX8_line 9 = .ok (.iload_n 2, 1) := by decide +kernel
theorem dX8_line_10 : decode cX8_line 10 = .ok (.iload_n 3, 1) := by decide +kernel
theorem dX8_line_11 : decode cX8_line 11 = .ok (.iload 4, 2) := by decide +kernel
theorem dX8_line_13 : decode cX8_line 13 = .ok (.iload 5, 2) := by decide +kernel
theorem dX8_line_15 : decode cX8_line 15 = .ok (.invokestatic 77, 3) := by decide +kernel
theorem dX8_line_18 : decode cX8_line 18 = .ok (.ifCond .ne 6, 3) := by decide +kernel
theorem dX8_line_21 : decode cX8_line 21 = .ok (.bipush (-2), 2) := by decide +kernel
theorem dX8_line_23 : decode cX8_line 23 = .ok (.ireturn, 1) := by decide +kernel
theorem dX8_line_24 : decode cX8_line 24 = .ok (.aload_n 0, 1) := by decide +kernel
theorem dX8_line_25 : decode cX8_line 25 = .ok (.getfield 14, 3) := by decide +kernel
theorem dX8_line_28 : decode cX8_line 28 = .ok (.iload_n 1, 1) := by decide +kernel
theorem dX8_line_29 : decode cX8_line 29 = .ok (.aaload, 1) := by decide +kernel
theorem dX8_line_30 : decode cX8_line 30 = .ok (.astore 6, 2) := by decide +kernel
theorem dX8_line_32 : decode cX8_line 32 = .ok (.aload 6, 2) := by decide +kernel
theorem dX8_line_34 : decode cX8_line 34 = .ok (.getfield 81, 3) := by decide +kernel
theorem dX8_line_37 : decode cX8_line 37 = .ok (.bipush 12, 2) := by decide +kernel
theorem dX8_line_39 : decode cX8_line 39 = .ok (.if_icmp .lt 6, 3) := by decide +kernel
theorem dX8_line_42 : decode cX8_line 42 = .ok (.bipush (-4), 2) := by decide +kernel
theorem dX8_line_44 : decode cX8_line 44 = .ok (.ireturn, 1) := by decide +kernel
theorem dX8_line_45 : decode cX8_line 45 = .ok (.aload 6, 2) := by decide +kernel
theorem dX8_line_47 : decode cX8_line 47 = .ok (.getfield 81, 3) := by decide +kernel
theorem dX8_line_50 : decode cX8_line 50 = .ok (.istore 7, 2) := by decide +kernel
theorem dX8_line_52 : decode cX8_line 52 = .ok (.aload 6, 2) := by decide +kernel
theorem dX8_line_54 : decode cX8_line 54 = .ok (.iload 7, 2) := by decide +kernel
theorem dX8_line_56 : decode cX8_line 56 = .ok (.iconst 1, 1) := by decide +kernel
theorem dX8_line_57 : decode cX8_line 57 = .ok (.iadd, 1) := by decide +kernel
theorem dX8_line_58 : decode cX8_line 58 = .ok (.putfield 81, 3) := by decide +kernel
theorem dX8_line_61 : decode cX8_line 61 = .ok (.aload 6, 2) := by decide +kernel
theorem dX8_line_63 : decode cX8_line 63 = .ok (.iload 7, 2) := by decide +kernel
theorem dX8_line_65 : decode cX8_line 65 = .ok (.iload_n 2, 1) := by decide +kernel
theorem dX8_line_66 : decode cX8_line 66 = .ok (.iload_n 3, 1) := by decide +kernel
theorem dX8_line_67 : decode cX8_line 67 = .ok (.iload 4, 2) := by decide +kernel
theorem dX8_line_69 : decode cX8_line 69 = .ok (.iload 5, 2) := by decide +kernel
theorem dX8_line_71 : decode cX8_line 71 = .ok (.invokevirtual 84, 3) := by decide +kernel
theorem dX8_line_74 : decode cX8_line 74 = .ok (.aload_n 0, 1) := by decide +kernel
theorem dX8_line_75 : decode cX8_line 75 = .ok (.invokevirtual 88, 3) := by decide +kernel
theorem dX8_line_78 : decode cX8_line 78 = .ok (.iload 7, 2) := by decide +kernel
theorem dX8_line_80 : decode cX8_line 80 = .ok (.ireturn, 1) := by decide +kernel
theorem dX8_change_0 : decode cX8_change 0 = .ok (.iload_n 1, 1) := by decide +kernel
theorem dX8_change_1 : decode cX8_change 1 = .ok (.invokestatic 73, 3) := by decide +kernel
theorem dX8_change_4 : decode cX8_change 4 = .ok (.ifCond .eq 20, 3) := by decide +kernel
theorem dX8_change_7 : decode cX8_change 7 = .ok (.iload_n 2, 1) := by decide +kernel
theorem dX8_change_8 : decode cX8_change 8 = .ok (.ifCond .lt 16, 3) := by decide +kernel
theorem dX8_change_11 : decode cX8_change 11 = .ok (.iload_n 2, 1) := by decide +kernel
theorem dX8_change_12 : decode cX8_change 12 = .ok (.aload_n 0, 1) := by decide +kernel
theorem dX8_change_13 : decode cX8_change 13 = .ok (.getfield 14, 3) := by decide +kernel
theorem dX8_change_16 : decode cX8_change 16 = .ok (.iload_n 1, 1) := by decide +kernel
theorem dX8_change_17 : decode cX8_change 17 = .ok (.aaload, 1) := by decide +kernel
theorem dX8_change_18 : decode cX8_change 18 = .ok (.getfield 81, 3) := by decide +kernel
theorem dX8_change_21 : decode cX8_change 21 = .ok (.if_icmp .lt 5, 3) := by decide +kernel
theorem dX8_change_24 : decode cX8_change 24 = .ok (.iconst (-1), 1) := by decide +kernel
theorem dX8_change_25 : decode cX8_change 25 = .ok (.ireturn, 1) := by decide +kernel
theorem dX8_change_26 : decode cX8_change 26 = .ok (.iload_n 3, 1) := by decide +kernel
theorem dX8_change_27 : decode cX8_change 27 = .ok (.iload 4, 2) := by decide +kernel
theorem dX8_change_29 : decode cX8_change 29 = .ok (.iload 5, 2) := by decide +kernel
theorem dX8_change_31 : decode cX8_change 31 = .ok (.iload 6, 2) := by decide +kernel
theorem dX8_change_33 : decode cX8_change 33 = .ok (.invokestatic 77, 3) := by decide +kernel
theorem dX8_change_36 : decode cX8_change 36 = .ok (.ifCond .ne 6, 3) := by decide +kernel
theorem dX8_change_39 : decode cX8_change 39 = .ok (.bipush (-2), 2) := by decide +kernel
theorem dX8_change_41 : decode cX8_change 41 = .ok (.ireturn, 1) := by decide +kernel
theorem dX8_change_42 : decode cX8_change 42 = .ok (.aload_n 0, 1) := by decide +kernel
theorem dX8_change_43 : decode cX8_change 43 = .ok (.getfield 14, 3) := by decide +kernel
theorem dX8_change_46 : decode cX8_change 46 = .ok (.iload_n 1, 1) := by decide +kernel
theorem dX8_change_47 : decode cX8_change 47 = .ok (.aaload, 1) := by decide +kernel
theorem dX8_change_48 : decode cX8_change 48 = .ok (.astore 7, 2) := by decide +kernel
theorem dX8_change_50 : decode cX8_change 50 = .ok (.aload 7, 2) := by decide +kernel
theorem dX8_change_52 : decode cX8_change 52 = .ok (.getfield 91, 3) := by decide +kernel
theorem dX8_change_55 : decode cX8_change 55 = .ok (.iload_n 2, 1) := by decide +kernel
theorem dX8_change_56 : decode cX8_change 56 = .ok (.iaload, 1) := by decide +kernel
theorem dX8_change_57 : decode cX8_change 57 = .ok (.istore 8, 2) := by decide +kernel
theorem dX8_change_59 : decode cX8_change 59 = .ok (.aload 7, 2) := by decide +kernel
theorem dX8_change_61 : decode cX8_change 61 = .ok (.iload_n 2, 1) := by decide +kernel
theorem dX8_change_62 : decode cX8_change 62 = .ok (.iload_n 3, 1) := by decide +kernel
theorem dX8_change_63 : decode cX8_change 63 = .ok (.iload 4, 2) := by decide +kernel
theorem dX8_change_65 : decode cX8_change 65 = .ok (.iload 5, 2) := by decide +kernel
theorem dX8_change_67 : decode cX8_change 67 = .ok (.iload 6, 2) := by decide +kernel
theorem dX8_change_69 : decode cX8_change 69 = .ok (.invokevirtual 84, 3) := by decide +kernel
theorem dX8_change_72 : decode cX8_change 72 = .ok (.aload_n 0, 1) := by decide +kernel
theorem dX8_change_73 : decode cX8_change 73 = .ok (.invokevirtual 88, 3) := by decide +kernel
theorem dX8_change_76 : decode cX8_change 76 = .ok (.iload 8, 2) := by decide +kernel
theorem dX8_change_78 : decode cX8_change 78 = .ok (.ireturn, 1) := by decide +kernel
theorem dX8_clear_0 : decode cX8_clear 0 = .ok (.iload_n 1, 1) := by decide +kernel
theorem dX8_clear_1 : decode cX8_clear 1 = .ok (.invokestatic 73, 3) := by decide +kernel
theorem dX8_clear_4 : decode cX8_clear 4 = .ok (.ifCond .ne 5, 3) := by decide +kernel
theorem dX8_clear_7 : decode cX8_clear 7 = .ok (.iconst (-1), 1) := by decide +kernel
theorem dX8_clear_8 : decode cX8_clear 8 = .ok (.ireturn, 1) := by decide +kernel
theorem dX8_clear_9 : decode cX8_clear 9 = .ok (.aload_n 0, 1) := by decide +kernel
theorem dX8_clear_10 : decode cX8_clear 10 = .ok (.getfield 14, 3) := by decide +kernel
theorem dX8_clear_13 : decode cX8_clear 13 = .ok (.iload_n 1, 1) := by decide +kernel
theorem dX8_clear_14 : decode cX8_clear 14 = .ok (.aaload, 1) := by decide +kernel
theorem dX8_clear_15 : decode cX8_clear 15 = .ok (.astore_n 2, 1) := by decide +kernel
theorem dX8_clear_16 : decode cX8_clear 16 = .ok (.aload_n 2, 1) := by decide +kernel
theorem dX8_clear_17 : decode cX8_clear 17 = .ok (.getfield 81, 3) := by decide +kernel
theorem dX8_clear_20 : decode cX8_clear 20 = .ok (.istore_n 3, 1) := by decide +kernel
theorem dX8_clear_21 : decode cX8_clear 21 = .ok (.aload_n 2, 1) := by decide +kernel
theorem dX8_clear_22 : decode cX8_clear 22 = .ok (.iconst 0, 1) := by decide +kernel
theorem dX8_clear_23 : decode cX8_clear 23 = .ok (.putfield 81, 3) := by decide +kernel
theorem dX8_clear_26 : decode cX8_clear 26 = .ok (.aload_n 2, 1) := by decide +kernel
theorem dX8_clear_27 : decode cX8_clear 27 = .ok (.iconst 0, 1) := by decide +kernel
theorem dX8_clear_28 : decode cX8_clear 28 = .ok (.invokevirtual 95, 3) := by decide +kernel
theorem dX8_clear_31 : decode cX8_clear 31 = .ok (.aload_n 0, 1) := by decide +kernel
theorem dX8_clear_32 : decode cX8_clear 32 = .ok (.invokevirtual 88, 3) := by decide +kernel
theorem dX8_clear_35 : decode cX8_clear 35 = .ok (.iload_n 3, 1) := by decide +kernel
theorem dX8_clear_36 : decode cX8_clear 36 = .ok (.ireturn, 1) := by decide +kernel
theorem dX8_silent_0 : decode cX8_silent 0 = .ok (.iload_n 1, 1) := by decide +kernel
theorem dX8_silent_1 : decode cX8_silent 1 = .ok (.invokestatic 73, 3) := by decide +kernel
theorem dX8_silent_4 : decode cX8_silent 4 = .ok (.ifCond .ne 5, 3) := by decide +kernel
theorem dX8_silent_7 : decode cX8_silent 7 = .ok (.iconst (-1), 1) := by decide +kernel
theorem dX8_silent_8 : decode cX8_silent 8 = .ok (.ireturn, 1) := by decide +kernel
theorem dX8_silent_9 : decode cX8_silent 9 = .ok (.iload_n 2, 1) := by decide +kernel
theorem dX8_silent_10 : decode cX8_silent 10 = .ok (.sipush 4095, 3) := by decide +kernel
theorem dX8_silent_13 : decode cX8_silent 13 = .ok (.invokestatic 99, 3) := by decide +kernel
theorem dX8_silent_16 : decode cX8_silent 16 = .ok (.ifCond .ne 6, 3) := by decide +kernel
theorem dX8_silent_19 : decode cX8_silent 19 = .ok (.bipush (-2), 2) := by decide +kernel
theorem dX8_silent_21 : decode cX8_silent 21 = .ok (.ireturn, 1) := by decide +kernel
theorem dX8_silent_22 : decode cX8_silent 22 = .ok (.aload_n 0, 1) := by decide +kernel
theorem dX8_silent_23 : decode cX8_silent 23 = .ok (.getfield 14, 3) := by decide +kernel
theorem dX8_silent_26 : decode cX8_silent 26 = .ok (.iload_n 1, 1) := by decide +kernel
theorem dX8_silent_27 : decode cX8_silent 27 = .ok (.aaload, 1) := by decide +kernel
theorem dX8_silent_28 : decode cX8_silent 28 = .ok (.astore_n 3, 1) := by decide +kernel
theorem dX8_silent_29 : decode cX8_silent 29 = .ok (.aload_n 3, 1) := by decide +kernel
theorem dX8_silent_30 : decode cX8_silent 30 = .ok (.getfield 103, 3) := by decide +kernel
theorem dX8_silent_33 : decode cX8_silent 33 = .ok (.istore 4, 2) := by decide +kernel
theorem dX8_silent_35 : decode cX8_silent 35 = .ok (.aload_n 3, 1) := by decide +kernel
theorem dX8_silent_36 : decode cX8_silent 36 = .ok (.iload_n 2, 1) := by decide +kernel
theorem dX8_silent_37 : decode cX8_silent 37 = .ok (.invokevirtual 95, 3) := by decide +kernel
theorem dX8_silent_40 : decode cX8_silent 40 = .ok (.aload_n 0, 1) := by decide +kernel
theorem dX8_silent_41 : decode cX8_silent 41 = .ok (.invokevirtual 88, 3) := by decide +kernel
theorem dX8_silent_44 : decode cX8_silent 44 = .ok (.iload 4, 2) := by decide +kernel
theorem dX8_silent_46 : decode cX8_silent 46 = .ok (.ireturn, 1) := by decide +kernel
theorem dX8_run_0 : decode cX8_run 0 = .ok (.iload_n 1, 1) := by decide +kernel
theorem dX8_run_1 : decode cX8_run 1 = .ok (.invokestatic 73, 3) := by decide +kernel
theorem dX8_run_4 : decode cX8_run 4 = .ok (.ifCond .ne 5, 3) := by decide +kernel
theorem dX8_run_7 : decode cX8_run 7 = .ok (.iconst (-1), 1) := by decide +kernel
theorem dX8_run_8 : decode cX8_run 8 = .ok (.ireturn, 1) := by decide +kernel
theorem dX8_run_9 : decode cX8_run 9 = .ok (.iload_n 3, 1) := by decide +kernel
theorem dX8_run_10 : decode cX8_run 10 = .ok (.bipush 10, 2) := by decide +kernel
theorem dX8_run_12 : decode cX8_run 12 = .ok (.if_icmp .lt 13, 3) := by decide +kernel
theorem dX8_run_15 : decode cX8_run 15 = .ok (.iload_n 3, 1) := by decide +kernel
theorem dX8_run_16 : decode cX8_run 16 = .ok (.bipush 34, 2) := by decide +kernel
theorem dX8_run_18 : decode cX8_run 18 = .ok (.if_icmp .ge 7, 3) := by decide +kernel
theorem dX8_run_21 : decode cX8_run 21 = .ok (.iconst 1, 1) := by decide +kernel
theorem dX8_run_22 : decode cX8_run 22 = .ok (.goto 4, 3) := by decide +kernel
theorem dX8_run_25 : decode cX8_run 25 = .ok (.iconst 0, 1) := by decide +kernel
theorem dX8_run_26 : decode cX8_run 26 = .ok (.istore 4, 2) := by decide +kernel
theorem dX8_run_28 : decode cX8_run 28 = .ok (.iload_n 2, 1) := by decide +kernel
theorem dX8_run_29 : decode cX8_run 29 = .ok (.invokestatic 106, 3) := by decide +kernel
theorem dX8_run_32 : decode cX8_run 32 = .ok (.ifCond .eq 16, 3) := by decide +kernel
theorem dX8_run_35 : decode cX8_run 35 = .ok (.iload_n 3, 1) := by decide +kernel
theorem dX8_run_36 : decode cX8_run 36 = .ok (.iconst 3, 1) := by decide +kernel
theorem dX8_run_37 : decode cX8_run 37 = .ok (.invokestatic 99, 3) := by decide +kernel
theorem dX8_run_40 : decode cX8_run 40 = .ok (.ifCond .ne 11, 3) := by decide +kernel
theorem dX8_run_43 : decode cX8_run 43 = .ok (.iload 4, 2) := by decide +kernel
theorem dX8_run_45 : decode cX8_run 45 = .ok (.ifCond .ne 6, 3) := by decide +kernel
theorem dX8_run_48 : decode cX8_run 48 = .ok (.bipush (-2), 2) := by decide +kernel
theorem dX8_run_50 : decode cX8_run 50 = .ok (.ireturn, 1) := by decide +kernel
theorem dX8_run_51 : decode cX8_run 51 = .ok (.aload_n 0, 1) := by decide +kernel
theorem dX8_run_52 : decode cX8_run 52 = .ok (.getfield 14, 3) := by decide +kernel
theorem dX8_run_55 : decode cX8_run 55 = .ok (.iload_n 1, 1) := by decide +kernel
theorem dX8_run_56 : decode cX8_run 56 = .ok (.aaload, 1) := by decide +kernel
theorem dX8_run_57 : decode cX8_run 57 = .ok (.astore 5, 2) := by decide +kernel
theorem dX8_run_59 : decode cX8_run 59 = .ok (.aload 5, 2) := by decide +kernel
theorem dX8_run_61 : decode cX8_run 61 = .ok (.iload_n 2, 1) := by decide +kernel
theorem dX8_run_62 : decode cX8_run 62 = .ok (.invokevirtual 109, 3) := by decide +kernel
theorem dX8_run_65 : decode cX8_run 65 = .ok (.iload_n 3, 1) := by decide +kernel
theorem dX8_run_66 : decode cX8_run 66 = .ok (.tableswitch 62 0 3 #[30, 38, 46, 54], 30) := by decide +kernel
theorem dX8_run_96 : decode cX8_run 96 = .ok (.aload 5, 2) := by decide +kernel
theorem dX8_run_98 : decode cX8_run 98 = .ok (.getfield 112, 3) := by decide +kernel
theorem dX8_run_101 : decode cX8_run 101 = .ok (.iload_n 2, 1) := by decide +kernel
theorem dX8_run_102 : decode cX8_run 102 = .ok (.iaload, 1) := by decide +kernel
theorem dX8_run_103 : decode cX8_run 103 = .ok (.ireturn, 1) := by decide +kernel
theorem dX8_run_104 : decode cX8_run 104 = .ok (.aload 5, 2) := by decide +kernel
theorem dX8_run_106 : decode cX8_run 106 = .ok (.getfield 115, 3) := by decide +kernel
theorem dX8_run_109 : decode cX8_run 109 = .ok (.iload_n 2, 1) := by decide +kernel
theorem dX8_run_110 : decode cX8_run 110 = .ok (.iaload, 1) := by decide +kernel
theorem dX8_run_111 : decode cX8_run 111 = .ok (.ireturn, 1) := by decide +kernel
theorem dX8_run_112 : decode cX8_run 112 = .ok (.aload 5, 2) := by decide +kernel
theorem dX8_run_114 : decode cX8_run 114 = .ok (.getfield 118, 3) := by decide +kernel
theorem dX8_run_117 : decode cX8_run 117 = .ok (.iload_n 2, 1) := by decide +kernel
theorem dX8_run_118 : decode cX8_run 118 = .ok (.iaload, 1) := by decide +kernel
theorem dX8_run_119 : decode cX8_run 119 = .ok (.ireturn, 1) := by decide +kernel
theorem dX8_run_120 : decode cX8_run 120 = .ok (.aload 5, 2) := by decide +kernel
theorem dX8_run_122 : decode cX8_run 122 = .ok (.getfield 121, 3) := by decide +kernel
theorem dX8_run_125 : decode cX8_run 125 = .ok (.iload_n 2, 1) := by decide +kernel
theorem dX8_run_126 : decode cX8_run 126 = .ok (.iaload, 1) := by decide +kernel
theorem dX8_run_127 : decode cX8_run 127 = .ok (.ireturn, 1) := by decide +kernel
theorem dX8_run_128 : decode cX8_run 128 = .ok (.aload 5, 2) := by decide +kernel
theorem dX8_run_130 : decode cX8_run 130 = .ok (.iload_n 2, 1) := by decide +kernel
theorem dX8_run_131 : decode cX8_run 131 = .ok (.iload_n 3, 1) := by decide +kernel
theorem dX8_run_132 : decode cX8_run 132 = .ok (.bipush 10, 2) := by decide +kernel
theorem dX8_run_134 : decode cX8_run 134 = .ok (.isub, 1) := by decide +kernel
theorem dX8_run_135 : decode cX8_run 135 = .ok (.invokevirtual 124, 3) := by decide +kernel
theorem dX8_run_138 : decode cX8_run 138 = .ok (.ireturn, 1) := by decide +kernel
theorem dX8_say_0 : decode cX8_say 0 = .ok (.iload_n 1, 1) := by decide +kernel
theorem dX8_say_1 : decode cX8_say 1 = .ok (.bipush 33, 2) := by decide +kernel
theorem dX8_say_3 : decode cX8_say 3 = .ok (.if_icmp .lt 9, 3) := by decide +kernel
theorem dX8_say_6 : decode cX8_say 6 = .ok (.iload_n 1, 1) := by decide +kernel
theorem dX8_say_7 : decode cX8_say 7 = .ok (.bipush 126, 2) := by decide +kernel
theorem dX8_say_9 : decode cX8_say 9 = .ok (.if_icmp .le 6, 3) := by decide +kernel
theorem dX8_say_12 : decode cX8_say 12 = .ok (.bipush (-2), 2) := by decide +kernel
theorem dX8_say_14 : decode cX8_say 14 = .ok (.ireturn, 1) := by decide +kernel
theorem dX8_say_15 : decode cX8_say 15 = .ok (.aload_n 0, 1) := by decide +kernel
theorem dX8_say_16 : decode cX8_say 16 = .ok (.getfield 32, 3) := by decide +kernel
theorem dX8_say_19 : decode cX8_say 19 = .ok (.getfield 128, 3) := by decide +kernel
theorem dX8_say_22 : decode cX8_say 22 = .ok (.bipush 40, 2) := by decide +kernel
theorem dX8_say_24 : decode cX8_say 24 = .ok (.if_icmp .lt 6, 3) := by decide +kernel
theorem dX8_say_27 : decode cX8_say 27 = .ok (.bipush (-4), 2) := by decide +kernel
theorem dX8_say_29 : decode cX8_say 29 = .ok (.ireturn, 1) := by decide +kernel
theorem dX8_say_30 : decode cX8_say 30 = .ok (.aload_n 0, 1) := by decide +kernel
theorem dX8_say_31 : decode cX8_say 31 = .ok (.getfield 32, 3) := by decide +kernel
theorem dX8_say_34 : decode cX8_say 34 = .ok (.getfield 129, 3) := by decide +kernel
theorem dX8_say_37 : decode cX8_say 37 = .ok (.aload_n 0, 1) := by decide +kernel
theorem dX8_say_38 : decode cX8_say 38 = .ok (.getfield 32, 3) := by decide +kernel
theorem dX8_say_41 : decode cX8_say 41 = .ok (.getfield 128, 3) := by decide +kernel
theorem dX8_say_44 : decode cX8_say 44 = .ok (.iload_n 1, 1) := by decide +kernel
theorem dX8_say_45 : decode cX8_say 45 = .ok (.iastore, 1) := by decide +kernel
theorem dX8_say_46 : decode cX8_say 46 = .ok (.aload_n 0, 1) := by decide +kernel
theorem dX8_say_47 : decode cX8_say 47 = .ok (.getfield 32, 3) := by decide +kernel
theorem dX8_say_50 : decode cX8_say 50 = .ok (.dup, 1) := by decide +kernel
theorem dX8_say_51 : decode cX8_say 51 = .ok (.getfield 128, 3) := by decide +kernel
theorem dX8_say_54 : decode cX8_say 54 = .ok (.iconst 1, 1) := by decide +kernel
theorem dX8_say_55 : decode cX8_say 55 = .ok (.iadd, 1) := by decide +kernel
theorem dX8_say_56 : decode cX8_say 56 = .ok (.putfield 128, 3) := by decide +kernel
theorem dX8_say_59 : decode cX8_say 59 = .ok (.aload_n 0, 1) := by decide +kernel
theorem dX8_say_60 : decode cX8_say 60 = .ok (.getfield 32, 3) := by decide +kernel
theorem dX8_say_63 : decode cX8_say 63 = .ok (.getfield 128, 3) := by decide +kernel
theorem dX8_say_66 : decode cX8_say 66 = .ok (.ireturn, 1) := by decide +kernel
theorem dX8_wipe_0 : decode cX8_wipe 0 = .ok (.aload_n 0, 1) := by decide +kernel
theorem dX8_wipe_1 : decode cX8_wipe 1 = .ok (.getfield 32, 3) := by decide +kernel
theorem dX8_wipe_4 : decode cX8_wipe 4 = .ok (.getfield 128, 3) := by decide +kernel
theorem dX8_wipe_7 : decode cX8_wipe 7 = .ok (.istore_n 1, 1) := by decide +kernel
theorem dX8_wipe_8 : decode cX8_wipe 8 = .ok (.aload_n 0, 1) := by decide +kernel
theorem dX8_wipe_9 : decode cX8_wipe 9 = .ok (.getfield 32, 3) := by decide +kernel
theorem dX8_wipe_12 : decode cX8_wipe 12 = .ok (.iconst 0, 1) := by decide +kernel
theorem dX8_wipe_13 : decode cX8_wipe 13 = .ok (.putfield 128, 3) := by decide +kernel
theorem dX8_wipe_16 : decode cX8_wipe 16 = .ok (.iload_n 1, 1) := by decide +kernel
theorem dX8_wipe_17 : decode cX8_wipe 17 = .ok (.ireturn, 1) := by decide +kernel
theorem dX8_fault_0 : decode cX8_fault 0 = .ok (.aload_n 0, 1) := by decide +kernel
theorem dX8_fault_1 : decode cX8_fault 1 = .ok (.getfield 32, 3) := by decide +kernel
theorem dX8_fault_4 : decode cX8_fault 4 = .ok (.invokevirtual 132, 3) := by decide +kernel
theorem dX8_fault_7 : decode cX8_fault 7 = .ok (.ireturn, 1) := by decide +kernel
theorem dX8_saying_0 : decode cX8_saying 0 = .ok (.aload_n 0, 1) := by decide +kernel
theorem dX8_saying_1 : decode cX8_saying 1 = .ok (.getfield 28, 3) := by decide +kernel
theorem dX8_saying_4 : decode cX8_saying 4 = .ok (.bipush 6, 2) := by decide +kernel
theorem dX8_saying_6 : decode cX8_saying 6 = .ok (.if_icmp .lt 6, 3) := by decide +kernel
theorem dX8_saying_9 : decode cX8_saying 9 = .ok (.bipush (-4), 2) := by decide +kernel
theorem dX8_saying_11 : decode cX8_saying 11 = .ok (.ireturn, 1) := by decide +kernel
theorem dX8_saying_12 : decode cX8_saying 12 = .ok (.aload_n 0, 1) := by decide +kernel
theorem dX8_saying_13 : decode cX8_saying 13 = .ok (.getfield 32, 3) := by decide +kernel
theorem dX8_saying_16 : decode cX8_saying 16 = .ok (.invokevirtual 132, 3) := by decide +kernel
theorem dX8_saying_19 : decode cX8_saying 19 = .ok (.bipush (-6), 2) := by decide +kernel
theorem dX8_saying_21 : decode cX8_saying 21 = .ok (.if_icmp .eq 6, 3) := by decide +kernel
theorem dX8_saying_24 : decode cX8_saying 24 = .ok (.bipush (-5), 2) := by decide +kernel
theorem dX8_saying_26 : decode cX8_saying 26 = .ok (.ireturn, 1) := by decide +kernel
theorem dX8_saying_27 : decode cX8_saying 27 = .ok (.aload_n 0, 1) := by decide +kernel
theorem dX8_saying_28 : decode cX8_saying 28 = .ok (.getfield 23, 3) := by decide +kernel
theorem dX8_saying_31 : decode cX8_saying 31 = .ok (.aload_n 0, 1) := by decide +kernel
theorem dX8_saying_32 : decode cX8_saying 32 = .ok (.getfield 28, 3) := by decide +kernel
theorem dX8_saying_35 : decode cX8_saying 35 = .ok (.aaload, 1) := by decide +kernel
theorem dX8_saying_36 : decode cX8_saying 36 = .ok (.aload_n 0, 1) := by decide +kernel
theorem dX8_saying_37 : decode cX8_saying 37 = .ok (.getfield 32, 3) := by decide +kernel
theorem dX8_saying_40 : decode cX8_saying 40 = .ok (.invokevirtual 136, 3) := by decide +kernel
theorem dX8_saying_43 : decode cX8_saying 43 = .ok (.aload_n 0, 1) := by decide +kernel
theorem dX8_saying_44 : decode cX8_saying 44 = .ok (.getfield 32, 3) := by decide +kernel
theorem dX8_saying_47 : decode cX8_saying 47 = .ok (.iconst 0, 1) := by decide +kernel
theorem dX8_saying_48 : decode cX8_saying 48 = .ok (.putfield 128, 3) := by decide +kernel
theorem dX8_saying_51 : decode cX8_saying 51 = .ok (.aload_n 0, 1) := by decide +kernel
theorem dX8_saying_52 : decode cX8_saying 52 = .ok (.dup, 1) := by decide +kernel
theorem dX8_saying_53 : decode cX8_saying 53 = .ok (.getfield 28, 3) := by decide +kernel
theorem dX8_saying_56 : decode cX8_saying 56 = .ok (.iconst 1, 1) := by decide +kernel
theorem dX8_saying_57 : decode cX8_saying 57 = .ok (.iadd, 1) := by decide +kernel
theorem dX8_saying_58 : decode cX8_saying 58 = .ok (.putfield 28, 3) := by decide +kernel
theorem dX8_saying_61 : decode cX8_saying 61 = .ok (.aload_n 0, 1) := by decide +kernel
theorem dX8_saying_62 : decode cX8_saying 62 = .ok (.getfield 28, 3) := by decide +kernel
theorem dX8_saying_65 : decode cX8_saying 65 = .ok (.iconst 1, 1) := by decide +kernel
theorem dX8_saying_66 : decode cX8_saying 66 = .ok (.isub, 1) := by decide +kernel
theorem dX8_saying_67 : decode cX8_saying 67 = .ok (.ireturn, 1) := by decide +kernel
theorem dX8_pair_0 : decode cX8_pair 0 = .ok (.aload_n 0, 1) := by decide +kernel
theorem dX8_pair_1 : decode cX8_pair 1 = .ok (.iload_n 1, 1) := by decide +kernel
theorem dX8_pair_2 : decode cX8_pair 2 = .ok (.invokevirtual 140, 3) := by decide +kernel
theorem dX8_pair_5 : decode cX8_pair 5 = .ok (.ifCond .eq 18, 3) := by decide +kernel
theorem dX8_pair_8 : decode cX8_pair 8 = .ok (.iload_n 2, 1) := by decide +kernel
theorem dX8_pair_9 : decode cX8_pair 9 = .ok (.invokestatic 73, 3) := by decide +kernel
theorem dX8_pair_12 : decode cX8_pair 12 = .ok (.ifCond .eq 11, 3) := by decide +kernel
theorem dX8_pair_15 : decode cX8_pair 15 = .ok (.iload 4, 2) := by decide +kernel
theorem dX8_pair_17 : decode cX8_pair 17 = .ok (.invokestatic 73, 3) := by decide +kernel
theorem dX8_pair_20 : decode cX8_pair 20 = .ok (.ifCond .ne 5, 3) := by decide +kernel
theorem dX8_pair_23 : decode cX8_pair 23 = .ok (.iconst (-1), 1) := by decide +kernel
theorem dX8_pair_24 : decode cX8_pair 24 = .ok (.ireturn, 1) := by decide +kernel
theorem dX8_pair_25 : decode cX8_pair 25 = .ok (.iload_n 3, 1) := by decide +kernel
theorem dX8_pair_26 : decode cX8_pair 26 = .ok (.invokestatic 106, 3) := by decide +kernel
theorem dX8_pair_29 : decode cX8_pair 29 = .ok (.ifCond .eq 20, 3) := by decide +kernel
theorem dX8_pair_32 : decode cX8_pair 32 = .ok (.iload 5, 2) := by decide +kernel
theorem dX8_pair_34 : decode cX8_pair 34 = .ok (.invokestatic 106, 3) := by decide +kernel
theorem dX8_pair_37 : decode cX8_pair 37 = .ok (.ifCond .eq 12, 3) := by decide +kernel
theorem dX8_pair_40 : decode cX8_pair 40 = .ok (.iload 6, 2) := by decide +kernel
theorem dX8_pair_42 : decode cX8_pair 42 = .ok (.iconst 1, 1) := by decide +kernel
theorem dX8_pair_43 : decode cX8_pair 43 = .ok (.invokestatic 99, 3) := by decide +kernel
theorem dX8_pair_46 : decode cX8_pair 46 = .ok (.ifCond .ne 6, 3) := by decide +kernel
theorem dX8_pair_49 : decode cX8_pair 49 = .ok (.bipush (-2), 2) := by decide +kernel
theorem dX8_pair_51 : decode cX8_pair 51 = .ok (.ireturn, 1) := by decide +kernel
theorem dX8_pair_52 : decode cX8_pair 52 = .ok (.aload_n 0, 1) := by decide +kernel
theorem dX8_pair_53 : decode cX8_pair 53 = .ok (.getfield 14, 3) := by decide +kernel
theorem dX8_pair_56 : decode cX8_pair 56 = .ok (.iload_n 2, 1) := by decide +kernel
theorem dX8_pair_57 : decode cX8_pair 57 = .ok (.aaload, 1) := by decide +kernel
theorem dX8_pair_58 : decode cX8_pair 58 = .ok (.iload_n 3, 1) := by decide +kernel
theorem dX8_pair_59 : decode cX8_pair 59 = .ok (.invokevirtual 109, 3) := by decide +kernel
theorem dX8_pair_62 : decode cX8_pair 62 = .ok (.aload_n 0, 1) := by decide +kernel
theorem dX8_pair_63 : decode cX8_pair 63 = .ok (.getfield 14, 3) := by decide +kernel
theorem dX8_pair_66 : decode cX8_pair 66 = .ok (.iload 4, 2) := by decide +kernel
theorem dX8_pair_68 : decode cX8_pair 68 = .ok (.aaload, 1) := by decide +kernel
theorem dX8_pair_69 : decode cX8_pair 69 = .ok (.iload 5, 2) := by decide +kernel
theorem dX8_pair_71 : decode cX8_pair 71 = .ok (.invokevirtual 109, 3) := by decide +kernel
theorem dX8_pair_74 : decode cX8_pair 74 = .ok (.aload_n 0, 1) := by decide +kernel
theorem dX8_pair_75 : decode cX8_pair 75 = .ok (.getfield 39, 3) := by decide +kernel
theorem dX8_pair_78 : decode cX8_pair 78 = .ok (.aload_n 0, 1) := by decide +kernel
theorem dX8_pair_79 : decode cX8_pair 79 = .ok (.getfield 23, 3) := by decide +kernel
theorem dX8_pair_82 : decode cX8_pair 82 = .ok (.iload_n 1, 1) := by decide +kernel
theorem dX8_pair_83 : decode cX8_pair 83 = .ok (.aaload, 1) := by decide +kernel
theorem dX8_pair_84 : decode cX8_pair 84 = .ok (.aload_n 0, 1) := by decide +kernel
theorem dX8_pair_85 : decode cX8_pair 85 = .ok (.getfield 14, 3) := by decide +kernel
theorem dX8_pair_88 : decode cX8_pair 88 = .ok (.iload_n 2, 1) := by decide +kernel
theorem dX8_pair_89 : decode cX8_pair 89 = .ok (.aaload, 1) := by decide +kernel
theorem dX8_pair_90 : decode cX8_pair 90 = .ok (.iload_n 3, 1) := by decide +kernel
theorem dX8_pair_91 : decode cX8_pair 91 = .ok (.invokevirtual 143, 3) := by decide +kernel
theorem dX8_pair_94 : decode cX8_pair 94 = .ok (.aload_n 0, 1) := by decide +kernel
theorem dX8_pair_95 : decode cX8_pair 95 = .ok (.getfield 39, 3) := by decide +kernel
theorem dX8_pair_98 : decode cX8_pair 98 = .ok (.iload 5, 2) := by decide +kernel
theorem dX8_pair_100 : decode cX8_pair 100 = .ok (.invokevirtual 146, 3) := by decide +kernel
theorem dX8_pair_103 : decode cX8_pair 103 = .ok (.ifCond .eq 31, 3) := by decide +kernel
theorem dX8_pair_106 : decode cX8_pair 106 = .ok (.iload 6, 2) := by decide +kernel
theorem dX8_pair_108 : decode cX8_pair 108 = .ok (.ifCond .eq 22, 3) := by decide +kernel
theorem dX8_pair_111 : decode cX8_pair 111 = .ok (.aload_n 0, 1) := by decide +kernel
theorem dX8_pair_112 : decode cX8_pair 112 = .ok (.getfield 39, 3) := by decide +kernel
theorem dX8_pair_115 : decode cX8_pair 115 = .ok (.aload_n 0, 1) := by decide +kernel
theorem dX8_pair_116 : decode cX8_pair 116 = .ok (.getfield 14, 3) := by decide +kernel
theorem dX8_pair_119 : decode cX8_pair 119 = .ok (.iload 4, 2) := by decide +kernel
theorem dX8_pair_121 : decode cX8_pair 121 = .ok (.aaload, 1) := by decide +kernel
theorem dX8_pair_122 : decode cX8_pair 122 = .ok (.iload 5, 2) := by decide +kernel
theorem dX8_pair_124 : decode cX8_pair 124 = .ok (.invokevirtual 149, 3) := by decide +kernel
theorem dX8_pair_127 : decode cX8_pair 127 = .ok (.ifCond .eq 7, 3) := by decide +kernel
theorem dX8_pair_130 : decode cX8_pair 130 = .ok (.iconst 1, 1) := by decide +kernel
theorem dX8_pair_131 : decode cX8_pair 131 = .ok (.goto 4, 3) := by decide +kernel
theorem dX8_pair_134 : decode cX8_pair 134 = .ok (.iconst 0, 1) := by decide +kernel
theorem dX8_pair_135 : decode cX8_pair 135 = .ok (.istore 7, 2) := by decide +kernel
theorem dX8_pair_137 : decode cX8_pair 137 = .ok (.iload 7, 2) := by decide +kernel
theorem dX8_pair_139 : decode cX8_pair 139 = .ok (.ifCond .eq 7, 3) := by decide +kernel
theorem dX8_pair_142 : decode cX8_pair 142 = .ok (.iconst 1, 1) := by decide +kernel
theorem dX8_pair_143 : decode cX8_pair 143 = .ok (.goto 4, 3) := by decide +kernel
theorem dX8_pair_146 : decode cX8_pair 146 = .ok (.iconst 0, 1) := by decide +kernel
theorem dX8_pair_147 : decode cX8_pair 147 = .ok (.ireturn, 1) := by decide +kernel
theorem dX8_holds_0 : decode cX8_holds 0 = .ok (.aload_n 0, 1) := by decide +kernel
theorem dX8_holds_1 : decode cX8_holds 1 = .ok (.iload_n 1, 1) := by decide +kernel
theorem dX8_holds_2 : decode cX8_holds 2 = .ok (.invokevirtual 140, 3) := by decide +kernel
theorem dX8_holds_5 : decode cX8_holds 5 = .ok (.ifCond .eq 17, 3) := by decide +kernel
theorem dX8_holds_8 : decode cX8_holds 8 = .ok (.iload_n 2, 1) := by decide +kernel
theorem dX8_holds_9 : decode cX8_holds 9 = .ok (.invokestatic 73, 3) := by decide +kernel
theorem dX8_holds_12 : decode cX8_holds 12 = .ok (.ifCond .eq 10, 3) := by decide +kernel
theorem dX8_holds_15 : decode cX8_holds 15 = .ok (.iload_n 3, 1) := by decide +kernel
theorem dX8_holds_16 : decode cX8_holds 16 = .ok (.invokestatic 73, 3) := by decide +kernel
theorem dX8_holds_19 : decode cX8_holds 19 = .ok (.ifCond .ne 5, 3) := by decide +kernel
theorem dX8_holds_22 : decode cX8_holds 22 = .ok (.iconst (-1), 1) := by decide +kernel
theorem dX8_holds_23 : decode cX8_holds 23 = .ok (.ireturn, 1) := by decide +kernel
theorem dX8_holds_24 : decode cX8_holds 24 = .ok (.iload 4, 2) := by decide +kernel
theorem dX8_holds_26 : decode cX8_holds 26 = .ok (.iconst 3, 1) := by decide +kernel
theorem dX8_holds_27 : decode cX8_holds 27 = .ok (.invokestatic 99, 3) := by decide +kernel
theorem dX8_holds_30 : decode cX8_holds 30 = .ok (.ifCond .ne 6, 3) := by decide +kernel
theorem dX8_holds_33 : decode cX8_holds 33 = .ok (.bipush (-2), 2) := by decide +kernel
theorem dX8_holds_35 : decode cX8_holds 35 = .ok (.ireturn, 1) := by decide +kernel
theorem dX8_holds_36 : decode cX8_holds 36 = .ok (.iload_n 1, 1) := by decide +kernel
theorem dX8_holds_37 : decode cX8_holds 37 = .ok (.iload_n 2, 1) := by decide +kernel
theorem dX8_holds_38 : decode cX8_holds 38 = .ok (.iload_n 3, 1) := by decide +kernel
theorem dX8_holds_39 : decode cX8_holds 39 = .ok (.invokestatic 153, 3) := by decide +kernel
theorem dX8_holds_42 : decode cX8_holds 42 = .ok (.istore 5, 2) := by decide +kernel
theorem dX8_holds_44 : decode cX8_holds 44 = .ok (.aload_n 0, 1) := by decide +kernel
theorem dX8_holds_45 : decode cX8_holds 45 = .ok (.getfield 48, 3) := by decide +kernel
theorem dX8_holds_48 : decode cX8_holds 48 = .ok (.getfield 157, 3) := by decide +kernel
theorem dX8_holds_51 : decode cX8_holds 51 = .ok (.iload 5, 2) := by decide +kernel
theorem dX8_holds_53 : decode cX8_holds 53 = .ok (.if_icmp .eq 37, 3) := by decide +kernel
theorem dX8_holds_56 : decode cX8_holds 56 = .ok (.aload_n 0, 1) := by decide +kernel
theorem dX8_holds_57 : decode cX8_holds 57 = .ok (.getfield 48, 3) := by decide +kernel
theorem dX8_holds_60 : decode cX8_holds 60 = .ok (.aload_n 0, 1) := by decide +kernel
theorem dX8_holds_61 : decode cX8_holds 61 = .ok (.getfield 23, 3) := by decide +kernel
theorem dX8_holds_64 : decode cX8_holds 64 = .ok (.iload_n 1, 1) := by decide +kernel
theorem dX8_holds_65 : decode cX8_holds 65 = .ok (.aaload, 1) := by decide +kernel
theorem dX8_holds_66 : decode cX8_holds 66 = .ok (.aload_n 0, 1) := by decide +kernel
theorem dX8_holds_67 : decode cX8_holds 67 = .ok (.getfield 14, 3) := by decide +kernel
theorem dX8_holds_70 : decode cX8_holds 70 = .ok (.iload_n 2, 1) := by decide +kernel
theorem dX8_holds_71 : decode cX8_holds 71 = .ok (.aaload, 1) := by decide +kernel
theorem dX8_holds_72 : decode cX8_holds 72 = .ok (.aload_n 0, 1) := by decide +kernel
theorem dX8_holds_73 : decode cX8_holds 73 = .ok (.getfield 14, 3) := by decide +kernel
theorem dX8_holds_76 : decode cX8_holds 76 = .ok (.iload_n 3, 1) := by decide +kernel
theorem dX8_holds_77 : decode cX8_holds 77 = .ok (.aaload, 1) := by decide +kernel
theorem dX8_holds_78 : decode cX8_holds 78 = .ok (.invokevirtual 160, 3) := by decide +kernel
theorem dX8_holds_81 : decode cX8_holds 81 = .ok (.aload_n 0, 1) := by decide +kernel
theorem dX8_holds_82 : decode cX8_holds 82 = .ok (.getfield 48, 3) := by decide +kernel
theorem dX8_holds_85 : decode cX8_holds 85 = .ok (.iload 5, 2) := by decide +kernel
theorem dX8_holds_87 : decode cX8_holds 87 = .ok (.putfield 157, 3) := by decide +kernel
theorem dX8_holds_90 : decode cX8_holds 90 = .ok (.iload 4, 2) := by decide +kernel
theorem dX8_holds_92 : decode cX8_holds 92 = .ok (.tableswitch 52 0 2 #[28, 36, 44], 28) := by decide +kernel
theorem dX8_holds_120 : decode cX8_holds 120 = .ok (.aload_n 0, 1) := by decide +kernel
theorem dX8_holds_121 : decode cX8_holds 121 = .ok (.getfield 48, 3) := by decide +kernel
theorem dX8_holds_124 : decode cX8_holds 124 = .ok (.getfield 164, 3) := by decide +kernel
theorem dX8_holds_127 : decode cX8_holds 127 = .ok (.ireturn, 1) := by decide +kernel
theorem dX8_holds_128 : decode cX8_holds 128 = .ok (.aload_n 0, 1) := by decide +kernel
theorem dX8_holds_129 : decode cX8_holds 129 = .ok (.getfield 48, 3) := by decide +kernel
theorem dX8_holds_132 : decode cX8_holds 132 = .ok (.getfield 167, 3) := by decide +kernel
theorem dX8_holds_135 : decode cX8_holds 135 = .ok (.ireturn, 1) := by decide +kernel
theorem dX8_holds_136 : decode cX8_holds 136 = .ok (.aload_n 0, 1) := by decide +kernel
theorem dX8_holds_137 : decode cX8_holds 137 = .ok (.getfield 48, 3) := by decide +kernel
theorem dX8_holds_140 : decode cX8_holds 140 = .ok (.getfield 170, 3) := by decide +kernel
theorem dX8_holds_143 : decode cX8_holds 143 = .ok (.ireturn, 1) := by decide +kernel
theorem dX8_holds_144 : decode cX8_holds 144 = .ok (.aload_n 0, 1) := by decide +kernel
theorem dX8_holds_145 : decode cX8_holds 145 = .ok (.getfield 48, 3) := by decide +kernel
theorem dX8_holds_148 : decode cX8_holds 148 = .ok (.getfield 173, 3) := by decide +kernel
theorem dX8_holds_151 : decode cX8_holds 151 = .ok (.ireturn, 1) := by decide +kernel
theorem dX8_part_0 : decode cX8_part 0 = .ok (.iload_n 1, 1) := by decide +kernel
theorem dX8_part_1 : decode cX8_part 1 = .ok (.invokestatic 73, 3) := by decide +kernel
theorem dX8_part_4 : decode cX8_part 4 = .ok (.ifCond .eq 10, 3) := by decide +kernel
theorem dX8_part_7 : decode cX8_part 7 = .ok (.iload_n 3, 1) := by decide +kernel
theorem dX8_part_8 : decode cX8_part 8 = .ok (.invokestatic 73, 3) := by decide +kernel
theorem dX8_part_11 : decode cX8_part 11 = .ok (.ifCond .ne 5, 3) := by decide +kernel
theorem dX8_part_14 : decode cX8_part 14 = .ok (.iconst (-1), 1) := by decide +kernel
theorem dX8_part_15 : decode cX8_part 15 = .ok (.ireturn, 1) := by decide +kernel
theorem dX8_part_16 : decode cX8_part 16 = .ok (.iload_n 2, 1) := by decide +kernel
theorem dX8_part_17 : decode cX8_part 17 = .ok (.invokestatic 106, 3) := by decide +kernel
theorem dX8_part_20 : decode cX8_part 20 = .ok (.ifCond .eq 11, 3) := by decide +kernel
theorem dX8_part_23 : decode cX8_part 23 = .ok (.iload 4, 2) := by decide +kernel
theorem dX8_part_25 : decode cX8_part 25 = .ok (.invokestatic 106, 3) := by decide +kernel
theorem dX8_part_28 : decode cX8_part 28 = .ok (.ifCond .ne 6, 3) := by decide +kernel
theorem dX8_part_31 : decode cX8_part 31 = .ok (.bipush (-2), 2) := by decide +kernel
theorem dX8_part_33 : decode cX8_part 33 = .ok (.ireturn, 1) := by decide +kernel
theorem dX8_part_34 : decode cX8_part 34 = .ok (.aload_n 0, 1) := by decide +kernel
theorem dX8_part_35 : decode cX8_part 35 = .ok (.getfield 14, 3) := by decide +kernel
theorem dX8_part_38 : decode cX8_part 38 = .ok (.iload_n 1, 1) := by decide +kernel
theorem dX8_part_39 : decode cX8_part 39 = .ok (.aaload, 1) := by decide +kernel
theorem dX8_part_40 : decode cX8_part 40 = .ok (.iload_n 2, 1) := by decide +kernel
theorem dX8_part_41 : decode cX8_part 41 = .ok (.invokevirtual 109, 3) := by decide +kernel
theorem dX8_part_44 : decode cX8_part 44 = .ok (.aload_n 0, 1) := by decide +kernel
theorem dX8_part_45 : decode cX8_part 45 = .ok (.getfield 14, 3) := by decide +kernel
theorem dX8_part_48 : decode cX8_part 48 = .ok (.iload_n 3, 1) := by decide +kernel
theorem dX8_part_49 : decode cX8_part 49 = .ok (.aaload, 1) := by decide +kernel
theorem dX8_part_50 : decode cX8_part 50 = .ok (.iload 4, 2) := by decide +kernel
theorem dX8_part_52 : decode cX8_part 52 = .ok (.invokevirtual 109, 3) := by decide +kernel
theorem dX8_part_55 : decode cX8_part 55 = .ok (.iconst 0, 1) := by decide +kernel
theorem dX8_part_56 : decode cX8_part 56 = .ok (.istore 5, 2) := by decide +kernel
theorem dX8_part_58 : decode cX8_part 58 = .ok (.iload 5, 2) := by decide +kernel
theorem dX8_part_60 : decode cX8_part 60 = .ok (.bipush 24, 2) := by decide +kernel
theorem dX8_part_62 : decode cX8_part 62 = .ok (.if_icmp .gt 48, 3) := by decide +kernel
theorem dX8_part_65 : decode cX8_part 65 = .ok (.aload_n 0, 1) := by decide +kernel
theorem dX8_part_66 : decode cX8_part 66 = .ok (.getfield 14, 3) := by decide +kernel
theorem dX8_part_69 : decode cX8_part 69 = .ok (.iload_n 1, 1) := by decide +kernel
theorem dX8_part_70 : decode cX8_part 70 = .ok (.aaload, 1) := by decide +kernel
theorem dX8_part_71 : decode cX8_part 71 = .ok (.iload_n 2, 1) := by decide +kernel
theorem dX8_part_72 : decode cX8_part 72 = .ok (.iload 5, 2) := by decide +kernel
theorem dX8_part_74 : decode cX8_part 74 = .ok (.invokevirtual 176, 3) := by decide +kernel
theorem dX8_part_77 : decode cX8_part 77 = .ok (.istore 6, 2) := by decide +kernel
theorem dX8_part_79 : decode cX8_part 79 = .ok (.aload_n 0, 1) := by decide +kernel
theorem dX8_part_80 : decode cX8_part 80 = .ok (.getfield 14, 3) := by decide +kernel
theorem dX8_part_83 : decode cX8_part 83 = .ok (.iload_n 3, 1) := by decide +kernel
theorem dX8_part_84 : decode cX8_part 84 = .ok (.aaload, 1) := by decide +kernel
theorem dX8_part_85 : decode cX8_part 85 = .ok (.iload 4, 2) := by decide +kernel
theorem dX8_part_87 : decode cX8_part 87 = .ok (.iload 5, 2) := by decide +kernel
theorem dX8_part_89 : decode cX8_part 89 = .ok (.invokevirtual 176, 3) := by decide +kernel
theorem dX8_part_92 : decode cX8_part 92 = .ok (.istore 7, 2) := by decide +kernel
theorem dX8_part_94 : decode cX8_part 94 = .ok (.iload 6, 2) := by decide +kernel
theorem dX8_part_96 : decode cX8_part 96 = .ok (.iload 7, 2) := by decide +kernel
theorem dX8_part_98 : decode cX8_part 98 = .ok (.if_icmp .eq 6, 3) := by decide +kernel
theorem dX8_part_101 : decode cX8_part 101 = .ok (.iload 5, 2) := by decide +kernel
theorem dX8_part_103 : decode cX8_part 103 = .ok (.ireturn, 1) := by decide +kernel
theorem dX8_part_104 : decode cX8_part 104 = .ok (.iinc 5 1, 3) := by decide +kernel
theorem dX8_part_107 : decode cX8_part 107 = .ok (.goto (-49), 3) := by decide +kernel
theorem dX8_part_110 : decode cX8_part 110 = .ok (.bipush (-6), 2) := by decide +kernel
theorem dX8_part_112 : decode cX8_part 112 = .ok (.ireturn, 1) := by decide +kernel
theorem dX8_wait_0 : decode cX8_wait 0 = .ok (.iload_n 1, 1) := by decide +kernel
theorem dX8_wait_1 : decode cX8_wait 1 = .ok (.bipush 11, 2) := by decide +kernel
theorem dX8_wait_3 : decode cX8_wait 3 = .ok (.invokestatic 99, 3) := by decide +kernel
theorem dX8_wait_6 : decode cX8_wait 6 = .ok (.ifCond .eq 20, 3) := by decide +kernel
theorem dX8_wait_9 : decode cX8_wait 9 = .ok (.iload_n 2, 1) := by decide +kernel
theorem dX8_wait_10 : decode cX8_wait 10 = .ok (.bipush 11, 2) := by decide +kernel
theorem dX8_wait_12 : decode cX8_wait 12 = .ok (.invokestatic 99, 3) := by decide +kernel
theorem dX8_wait_15 : decode cX8_wait 15 = .ok (.ifCond .eq 11, 3) := by decide +kernel
theorem dX8_wait_18 : decode cX8_wait 18 = .ok (.iload_n 3, 1) := by decide +kernel
theorem dX8_wait_19 : decode cX8_wait 19 = .ok (.iconst 2, 1) := by decide +kernel
theorem dX8_wait_20 : decode cX8_wait 20 = .ok (.invokestatic 99, 3) := by decide +kernel
theorem dX8_wait_23 : decode cX8_wait 23 = .ok (.ifCond .ne 6, 3) := by decide +kernel
theorem dX8_wait_26 : decode cX8_wait 26 = .ok (.bipush (-2), 2) := by decide +kernel
theorem dX8_wait_28 : decode cX8_wait 28 = .ok (.ireturn, 1) := by decide +kernel
theorem dX8_wait_29 : decode cX8_wait 29 = .ok (.iload_n 1, 1) := by decide +kernel
theorem dX8_wait_30 : decode cX8_wait 30 = .ok (.bipush 13, 2) := by decide +kernel
theorem dX8_wait_32 : decode cX8_wait 32 = .ok (.imul, 1) := by decide +kernel
theorem dX8_wait_33 : decode cX8_wait 33 = .ok (.iload_n 2, 1) := by decide +kernel
theorem dX8_wait_34 : decode cX8_wait 34 = .ok (.iadd, 1) := by decide +kernel
theorem dX8_wait_35 : decode cX8_wait 35 = .ok (.istore 4, 2) := by decide +kernel
theorem dX8_wait_37 : decode cX8_wait 37 = .ok (.aload_n 0, 1) := by decide +kernel
theorem dX8_wait_38 : decode cX8_wait 38 = .ok (.getfield 62, 3) := by decide +kernel
theorem dX8_wait_41 : decode cX8_wait 41 = .ok (.getfield 179, 3) := by decide +kernel
theorem dX8_wait_44 : decode cX8_wait 44 = .ok (.iload 4, 2) := by decide +kernel
theorem dX8_wait_46 : decode cX8_wait 46 = .ok (.iaload, 1) := by decide +kernel
theorem dX8_wait_47 : decode cX8_wait 47 = .ok (.istore 5, 2) := by decide +kernel
theorem dX8_wait_49 : decode cX8_wait 49 = .ok (.aload_n 0, 1) := by decide +kernel
theorem dX8_wait_50 : decode cX8_wait 50 = .ok (.getfield 62, 3) := by decide +kernel
theorem dX8_wait_53 : decode cX8_wait 53 = .ok (.getfield 179, 3) := by decide +kernel
theorem dX8_wait_56 : decode cX8_wait 56 = .ok (.iload 4, 2) := by decide +kernel
theorem dX8_wait_58 : decode cX8_wait 58 = .ok (.iload_n 3, 1) := by decide +kernel
theorem dX8_wait_59 : decode cX8_wait 59 = .ok (.iastore, 1) := by decide +kernel
theorem dX8_wait_60 : decode cX8_wait 60 = .ok (.aload_n 0, 1) := by decide +kernel
theorem dX8_wait_61 : decode cX8_wait 61 = .ok (.invokevirtual 88, 3) := by decide +kernel
theorem dX8_wait_64 : decode cX8_wait 64 = .ok (.iload 5, 2) := by decide +kernel
theorem dX8_wait_66 : decode cX8_wait 66 = .ok (.ireturn, 1) := by decide +kernel
theorem dX8_walk_0 : decode cX8_walk 0 = .ok (.aload_n 0, 1) := by decide +kernel
theorem dX8_walk_1 : decode cX8_walk 1 = .ok (.iload_n 1, 1) := by decide +kernel
theorem dX8_walk_2 : decode cX8_walk 2 = .ok (.invokevirtual 140, 3) := by decide +kernel
theorem dX8_walk_5 : decode cX8_walk 5 = .ok (.ifCond .eq 17, 3) := by decide +kernel
theorem dX8_walk_8 : decode cX8_walk 8 = .ok (.iload_n 2, 1) := by decide +kernel
theorem dX8_walk_9 : decode cX8_walk 9 = .ok (.invokestatic 73, 3) := by decide +kernel
theorem dX8_walk_12 : decode cX8_walk 12 = .ok (.ifCond .eq 10, 3) := by decide +kernel
theorem dX8_walk_15 : decode cX8_walk 15 = .ok (.iload_n 3, 1) := by decide +kernel
theorem dX8_walk_16 : decode cX8_walk 16 = .ok (.invokestatic 73, 3) := by decide +kernel
theorem dX8_walk_19 : decode cX8_walk 19 = .ok (.ifCond .ne 5, 3) := by decide +kernel
theorem dX8_walk_22 : decode cX8_walk 22 = .ok (.iconst (-1), 1) := by decide +kernel
theorem dX8_walk_23 : decode cX8_walk 23 = .ok (.ireturn, 1) := by decide +kernel
theorem dX8_walk_24 : decode cX8_walk 24 = .ok (.iload 4, 2) := by decide +kernel
theorem dX8_walk_26 : decode cX8_walk 26 = .ok (.iconst 2, 1) := by decide +kernel
theorem dX8_walk_27 : decode cX8_walk 27 = .ok (.invokestatic 99, 3) := by decide +kernel
theorem dX8_walk_30 : decode cX8_walk 30 = .ok (.ifCond .ne 6, 3) := by decide +kernel
theorem dX8_walk_33 : decode cX8_walk 33 = .ok (.bipush (-2), 2) := by decide +kernel
theorem dX8_walk_35 : decode cX8_walk 35 = .ok (.ireturn, 1) := by decide +kernel
theorem dX8_walk_36 : decode cX8_walk 36 = .ok (.aload_n 0, 1) := by decide +kernel
theorem dX8_walk_37 : decode cX8_walk 37 = .ok (.iload_n 1, 1) := by decide +kernel
theorem dX8_walk_38 : decode cX8_walk 38 = .ok (.iload_n 2, 1) := by decide +kernel
theorem dX8_walk_39 : decode cX8_walk 39 = .ok (.iload_n 3, 1) := by decide +kernel
theorem dX8_walk_40 : decode cX8_walk 40 = .ok (.invokevirtual 182, 3) := by decide +kernel
theorem dX8_walk_43 : decode cX8_walk 43 = .ok (.iload 4, 2) := by decide +kernel
theorem dX8_walk_45 : decode cX8_walk 45 = .ok (.lookupswitch 43 #[(0, 27), (1, 35)], 27) := by decide +kernel
theorem dX8_walk_72 : decode cX8_walk 72 = .ok (.aload_n 0, 1) := by decide +kernel
theorem dX8_walk_73 : decode cX8_walk 73 = .ok (.getfield 62, 3) := by decide +kernel
theorem dX8_walk_76 : decode cX8_walk 76 = .ok (.invokevirtual 186, 3) := by decide +kernel
theorem dX8_walk_79 : decode cX8_walk 79 = .ok (.ireturn, 1) := by decide +kernel
theorem dX8_walk_80 : decode cX8_walk 80 = .ok (.aload_n 0, 1) := by decide +kernel
theorem dX8_walk_81 : decode cX8_walk 81 = .ok (.getfield 62, 3) := by decide +kernel
theorem dX8_walk_84 : decode cX8_walk 84 = .ok (.invokevirtual 189, 3) := by decide +kernel
theorem dX8_walk_87 : decode cX8_walk 87 = .ok (.ireturn, 1) := by decide +kernel
theorem dX8_walk_88 : decode cX8_walk 88 = .ok (.aload_n 0, 1) := by decide +kernel
theorem dX8_walk_89 : decode cX8_walk 89 = .ok (.getfield 62, 3) := by decide +kernel
theorem dX8_walk_92 : decode cX8_walk 92 = .ok (.getfield 192, 3) := by decide +kernel
theorem dX8_walk_95 : decode cX8_walk 95 = .ok (.ireturn, 1) := by decide +kernel
theorem dX8_shape_0 : decode cX8_shape 0 = .ok (.aload_n 0, 1) := by decide +kernel
theorem dX8_shape_1 : decode cX8_shape 1 = .ok (.iload_n 1, 1) := by decide +kernel
theorem dX8_shape_2 : decode cX8_shape 2 = .ok (.invokevirtual 140, 3) := by decide +kernel
theorem dX8_shape_5 : decode cX8_shape 5 = .ok (.ifCond .eq 17, 3) := by decide +kernel
theorem dX8_shape_8 : decode cX8_shape 8 = .ok (.iload_n 2, 1) := by decide +kernel
theorem dX8_shape_9 : decode cX8_shape 9 = .ok (.invokestatic 73, 3) := by decide +kernel
theorem dX8_shape_12 : decode cX8_shape 12 = .ok (.ifCond .eq 10, 3) := by decide +kernel
theorem dX8_shape_15 : decode cX8_shape 15 = .ok (.iload_n 3, 1) := by decide +kernel
theorem dX8_shape_16 : decode cX8_shape 16 = .ok (.invokestatic 73, 3) := by decide +kernel
theorem dX8_shape_19 : decode cX8_shape 19 = .ok (.ifCond .ne 5, 3) := by decide +kernel
theorem dX8_shape_22 : decode cX8_shape 22 = .ok (.iconst (-1), 1) := by decide +kernel
theorem dX8_shape_23 : decode cX8_shape 23 = .ok (.ireturn, 1) := by decide +kernel
theorem dX8_shape_24 : decode cX8_shape 24 = .ok (.iload 4, 2) := by decide +kernel
theorem dX8_shape_26 : decode cX8_shape 26 = .ok (.bipush 12, 2) := by decide +kernel
theorem dX8_shape_28 : decode cX8_shape 28 = .ok (.invokestatic 99, 3) := by decide +kernel
theorem dX8_shape_31 : decode cX8_shape 31 = .ok (.ifCond .eq 13, 3) := by decide +kernel
theorem dX8_shape_34 : decode cX8_shape 34 = .ok (.iload 5, 2) := by decide +kernel
theorem dX8_shape_36 : decode cX8_shape 36 = .ok (.bipush 12, 2) := by decide +kernel
theorem dX8_shape_38 : decode cX8_shape 38 = .ok (.invokestatic 99, 3) := by decide +kernel
theorem dX8_shape_41 : decode cX8_shape 41 = .ok (.ifCond .ne 6, 3) := by decide +kernel
theorem dX8_shape_44 : decode cX8_shape 44 = .ok (.bipush (-2), 2) := by decide +kernel
theorem dX8_shape_46 : decode cX8_shape 46 = .ok (.ireturn, 1) := by decide +kernel
theorem dX8_shape_47 : decode cX8_shape 47 = .ok (.aload_n 0, 1) := by decide +kernel
theorem dX8_shape_48 : decode cX8_shape 48 = .ok (.iload_n 1, 1) := by decide +kernel
theorem dX8_shape_49 : decode cX8_shape 49 = .ok (.iload_n 2, 1) := by decide +kernel
theorem dX8_shape_50 : decode cX8_shape 50 = .ok (.iload_n 3, 1) := by decide +kernel
theorem dX8_shape_51 : decode cX8_shape 51 = .ok (.invokevirtual 182, 3) := by decide +kernel
theorem dX8_shape_54 : decode cX8_shape 54 = .ok (.aload_n 0, 1) := by decide +kernel
theorem dX8_shape_55 : decode cX8_shape 55 = .ok (.getfield 62, 3) := by decide +kernel
theorem dX8_shape_58 : decode cX8_shape 58 = .ok (.getfield 195, 3) := by decide +kernel
theorem dX8_shape_61 : decode cX8_shape 61 = .ok (.iload 4, 2) := by decide +kernel
theorem dX8_shape_63 : decode cX8_shape 63 = .ok (.bipush 13, 2) := by decide +kernel
theorem dX8_shape_65 : decode cX8_shape 65 = .ok (.imul, 1) := by decide +kernel
theorem dX8_shape_66 : decode cX8_shape 66 = .ok (.iload 5, 2) := by decide +kernel
theorem dX8_shape_68 : decode cX8_shape 68 = .ok (.iadd, 1) := by decide +kernel
theorem dX8_shape_69 : decode cX8_shape 69 = .ok (.iaload, 1) := by decide +kernel
theorem dX8_shape_70 : decode cX8_shape 70 = .ok (.ireturn, 1) := by decide +kernel
theorem dX8_tell_0 : decode cX8_tell 0 = .ok (.iload_n 1, 1) := by decide +kernel
theorem dX8_tell_1 : decode cX8_tell 1 = .ok (.bipush 12, 2) := by decide +kernel
theorem dX8_tell_3 : decode cX8_tell 3 = .ok (.invokestatic 99, 3) := by decide +kernel
theorem dX8_tell_6 : decode cX8_tell 6 = .ok (.ifCond .eq 22, 3) := by decide +kernel
theorem dX8_tell_9 : decode cX8_tell 9 = .ok (.iload_n 2, 1) := by decide +kernel
theorem dX8_tell_10 : decode cX8_tell 10 = .ok (.bipush 12, 2) := by decide +kernel
theorem dX8_tell_12 : decode cX8_tell 12 = .ok (.invokestatic 99, 3) := by decide +kernel
theorem dX8_tell_15 : decode cX8_tell 15 = .ok (.ifCond .eq 13, 3) := by decide +kernel
theorem dX8_tell_18 : decode cX8_tell 18 = .ok (.iload_n 3, 1) := by decide +kernel
theorem dX8_tell_19 : decode cX8_tell 19 = .ok (.sipush 4095, 3) := by decide +kernel
theorem dX8_tell_22 : decode cX8_tell 22 = .ok (.invokestatic 99, 3) := by decide +kernel
theorem dX8_tell_25 : decode cX8_tell 25 = .ok (.ifCond .ne 6, 3) := by decide +kernel
theorem dX8_tell_28 : decode cX8_tell 28 = .ok (.bipush (-2), 2) := by decide +kernel
theorem dX8_tell_30 : decode cX8_tell 30 = .ok (.ireturn, 1) := by decide +kernel
theorem dX8_tell_31 : decode cX8_tell 31 = .ok (.iload_n 1, 1) := by decide +kernel
theorem dX8_tell_32 : decode cX8_tell 32 = .ok (.bipush 13, 2) := by decide +kernel
theorem dX8_tell_34 : decode cX8_tell 34 = .ok (.imul, 1) := by decide +kernel
theorem dX8_tell_35 : decode cX8_tell 35 = .ok (.iload_n 2, 1) := by decide +kernel
theorem dX8_tell_36 : decode cX8_tell 36 = .ok (.iadd, 1) := by decide +kernel
theorem dX8_tell_37 : decode cX8_tell 37 = .ok (.istore 4, 2) := by decide +kernel
theorem dX8_tell_39 : decode cX8_tell 39 = .ok (.aload_n 0, 1) := by decide +kernel
theorem dX8_tell_40 : decode cX8_tell 40 = .ok (.getfield 62, 3) := by decide +kernel
theorem dX8_tell_43 : decode cX8_tell 43 = .ok (.getfield 198, 3) := by decide +kernel
theorem dX8_tell_46 : decode cX8_tell 46 = .ok (.iload 4, 2) := by decide +kernel
theorem dX8_tell_48 : decode cX8_tell 48 = .ok (.iaload, 1) := by decide +kernel
theorem dX8_tell_49 : decode cX8_tell 49 = .ok (.istore 5, 2) := by decide +kernel
theorem dX8_tell_51 : decode cX8_tell 51 = .ok (.aload_n 0, 1) := by decide +kernel
theorem dX8_tell_52 : decode cX8_tell 52 = .ok (.getfield 62, 3) := by decide +kernel
theorem dX8_tell_55 : decode cX8_tell 55 = .ok (.getfield 198, 3) := by decide +kernel
theorem dX8_tell_58 : decode cX8_tell 58 = .ok (.iload 4, 2) := by decide +kernel
theorem dX8_tell_60 : decode cX8_tell 60 = .ok (.iload_n 3, 1) := by decide +kernel
theorem dX8_tell_61 : decode cX8_tell 61 = .ok (.iastore, 1) := by decide +kernel
theorem dX8_tell_62 : decode cX8_tell 62 = .ok (.iload 5, 2) := by decide +kernel
theorem dX8_tell_64 : decode cX8_tell 64 = .ok (.ireturn, 1) := by decide +kernel
theorem dX8_fails_0 : decode cX8_fails 0 = .ok (.aload_n 0, 1) := by decide +kernel
theorem dX8_fails_1 : decode cX8_fails 1 = .ok (.iload_n 1, 1) := by decide +kernel
theorem dX8_fails_2 : decode cX8_fails 2 = .ok (.invokevirtual 140, 3) := by decide +kernel
theorem dX8_fails_5 : decode cX8_fails 5 = .ok (.ifCond .eq 17, 3) := by decide +kernel
theorem dX8_fails_8 : decode cX8_fails 8 = .ok (.iload_n 2, 1) := by decide +kernel
theorem dX8_fails_9 : decode cX8_fails 9 = .ok (.invokestatic 73, 3) := by decide +kernel
theorem dX8_fails_12 : decode cX8_fails 12 = .ok (.ifCond .eq 10, 3) := by decide +kernel
theorem dX8_fails_15 : decode cX8_fails 15 = .ok (.iload_n 3, 1) := by decide +kernel
theorem dX8_fails_16 : decode cX8_fails 16 = .ok (.invokestatic 73, 3) := by decide +kernel
theorem dX8_fails_19 : decode cX8_fails 19 = .ok (.ifCond .ne 5, 3) := by decide +kernel
theorem dX8_fails_22 : decode cX8_fails 22 = .ok (.iconst (-1), 1) := by decide +kernel
theorem dX8_fails_23 : decode cX8_fails 23 = .ok (.ireturn, 1) := by decide +kernel
theorem dX8_fails_24 : decode cX8_fails 24 = .ok (.aload_n 0, 1) := by decide +kernel
theorem dX8_fails_25 : decode cX8_fails 25 = .ok (.iload_n 1, 1) := by decide +kernel
theorem dX8_fails_26 : decode cX8_fails 26 = .ok (.iload_n 2, 1) := by decide +kernel
theorem dX8_fails_27 : decode cX8_fails 27 = .ok (.iload_n 3, 1) := by decide +kernel
theorem dX8_fails_28 : decode cX8_fails 28 = .ok (.invokevirtual 182, 3) := by decide +kernel
theorem dX8_fails_31 : decode cX8_fails 31 = .ok (.aload_n 0, 1) := by decide +kernel
theorem dX8_fails_32 : decode cX8_fails 32 = .ok (.getfield 62, 3) := by decide +kernel
theorem dX8_fails_35 : decode cX8_fails 35 = .ok (.aload_n 0, 1) := by decide +kernel
theorem dX8_fails_36 : decode cX8_fails 36 = .ok (.getfield 14, 3) := by decide +kernel
theorem dX8_fails_39 : decode cX8_fails 39 = .ok (.iload_n 2, 1) := by decide +kernel
theorem dX8_fails_40 : decode cX8_fails 40 = .ok (.aaload, 1) := by decide +kernel
theorem dX8_fails_41 : decode cX8_fails 41 = .ok (.aload_n 0, 1) := by decide +kernel
theorem dX8_fails_42 : decode cX8_fails 42 = .ok (.getfield 14, 3) := by decide +kernel
theorem dX8_fails_45 : decode cX8_fails 45 = .ok (.iload_n 3, 1) := by decide +kernel
theorem dX8_fails_46 : decode cX8_fails 46 = .ok (.aaload, 1) := by decide +kernel
theorem dX8_fails_47 : decode cX8_fails 47 = .ok (.invokevirtual 201, 3) := by decide +kernel
theorem dX8_fails_50 : decode cX8_fails 50 = .ok (.ireturn, 1) := by decide +kernel
theorem dX8_so_0 : decode cX8_so 0 = .ok (.aload_n 0, 1) := by decide +kernel
theorem dX8_so_1 : decode cX8_so 1 = .ok (.iload_n 1, 1) := by decide +kernel
theorem dX8_so_2 : decode cX8_so 2 = .ok (.invokevirtual 140, 3) := by decide +kernel
theorem dX8_so_5 : decode cX8_so 5 = .ok (.ifCond .eq 10, 3) := by decide +kernel
theorem dX8_so_8 : decode cX8_so 8 = .ok (.iload_n 2, 1) := by decide +kernel
theorem dX8_so_9 : decode cX8_so 9 = .ok (.invokestatic 73, 3) := by decide +kernel
theorem dX8_so_12 : decode cX8_so 12 = .ok (.ifCond .ne 5, 3) := by decide +kernel
theorem dX8_so_15 : decode cX8_so 15 = .ok (.iconst (-1), 1) := by decide +kernel
theorem dX8_so_16 : decode cX8_so 16 = .ok (.ireturn, 1) := by decide +kernel
theorem dX8_so_17 : decode cX8_so 17 = .ok (.iload_n 3, 1) := by decide +kernel
theorem dX8_so_18 : decode cX8_so 18 = .ok (.iconst 1, 1) := by decide +kernel
theorem dX8_so_19 : decode cX8_so 19 = .ok (.invokestatic 99, 3) := by decide +kernel
theorem dX8_so_22 : decode cX8_so 22 = .ok (.ifCond .ne 6, 3) := by decide +kernel
theorem dX8_so_25 : decode cX8_so 25 = .ok (.bipush (-2), 2) := by decide +kernel
theorem dX8_so_27 : decode cX8_so 27 = .ok (.ireturn, 1) := by decide +kernel
theorem dX8_so_28 : decode cX8_so 28 = .ok (.aload_n 0, 1) := by decide +kernel
theorem dX8_so_29 : decode cX8_so 29 = .ok (.getfield 14, 3) := by decide +kernel
theorem dX8_so_32 : decode cX8_so 32 = .ok (.iload_n 2, 1) := by decide +kernel
theorem dX8_so_33 : decode cX8_so 33 = .ok (.aaload, 1) := by decide +kernel
theorem dX8_so_34 : decode cX8_so 34 = .ok (.astore 4, 2) := by decide +kernel
theorem dX8_so_36 : decode cX8_so 36 = .ok (.aload 4, 2) := by decide +kernel
theorem dX8_so_38 : decode cX8_so 38 = .ok (.invokevirtual 205, 3) := by decide +kernel
theorem dX8_so_41 : decode cX8_so 41 = .ok (.invokestatic 208, 3) := by decide +kernel
theorem dX8_so_44 : decode cX8_so 44 = .ok (.bipush 6, 2) := by decide +kernel
theorem dX8_so_46 : decode cX8_so 46 = .ok (.if_icmp .le 6, 3) := by decide +kernel
theorem dX8_so_49 : decode cX8_so 49 = .ok (.bipush (-3), 2) := by decide +kernel
theorem dX8_so_51 : decode cX8_so 51 = .ok (.ireturn, 1) := by decide +kernel
theorem dX8_so_52 : decode cX8_so 52 = .ok (.aload_n 0, 1) := by decide +kernel
theorem dX8_so_53 : decode cX8_so 53 = .ok (.getfield 55, 3) := by decide +kernel
theorem dX8_so_56 : decode cX8_so 56 = .ok (.aload_n 0, 1) := by decide +kernel
theorem dX8_so_57 : decode cX8_so 57 = .ok (.getfield 23, 3) := by decide +kernel
theorem dX8_so_60 : decode cX8_so 60 = .ok (.iload_n 1, 1) := by decide +kernel
theorem dX8_so_61 : decode cX8_so 61 = .ok (.aaload, 1) := by decide +kernel
theorem dX8_so_62 : decode cX8_so 62 = .ok (.aload 4, 2) := by decide +kernel
theorem dX8_so_64 : decode cX8_so 64 = .ok (.invokevirtual 214, 3) := by decide +kernel
theorem dX8_so_67 : decode cX8_so 67 = .ok (.istore 5, 2) := by decide +kernel
theorem dX8_so_69 : decode cX8_so 69 = .ok (.iload 5, 2) := by decide +kernel
theorem dX8_so_71 : decode cX8_so 71 = .ok (.bipush (-6), 2) := by decide +kernel
theorem dX8_so_73 : decode cX8_so 73 = .ok (.if_icmp .ne 6, 3) := by decide +kernel
theorem dX8_so_76 : decode cX8_so 76 = .ok (.bipush (-5), 2) := by decide +kernel
theorem dX8_so_78 : decode cX8_so 78 = .ok (.ireturn, 1) := by decide +kernel
theorem dX8_so_79 : decode cX8_so 79 = .ok (.iload_n 3, 1) := by decide +kernel
theorem dX8_so_80 : decode cX8_so 80 = .ok (.ifCond .ne 8, 3) := by decide +kernel
theorem dX8_so_83 : decode cX8_so 83 = .ok (.iload 5, 2) := by decide +kernel
theorem dX8_so_85 : decode cX8_so 85 = .ok (.goto 8, 3) := by decide +kernel
theorem dX8_so_88 : decode cX8_so 88 = .ok (.iload 5, 2) := by decide +kernel
theorem dX8_so_90 : decode cX8_so 90 = .ok (.invokestatic 208, 3) := by decide +kernel
theorem dX8_so_93 : decode cX8_so 93 = .ok (.ireturn, 1) := by decide +kernel
theorem dX8_fit_0 : decode cX8_fit 0 = .ok (.iload_n 1, 1) := by decide +kernel
theorem dX8_fit_1 : decode cX8_fit 1 = .ok (.invokestatic 73, 3) := by decide +kernel
theorem dX8_fit_4 : decode cX8_fit 4 = .ok (.ifCond .ne 5, 3) := by decide +kernel
theorem dX8_fit_7 : decode cX8_fit 7 = .ok (.iconst (-1), 1) := by decide +kernel
theorem dX8_fit_8 : decode cX8_fit 8 = .ok (.ireturn, 1) := by decide +kernel
theorem dX8_fit_9 : decode cX8_fit 9 = .ok (.iload_n 2, 1) := by decide +kernel
theorem dX8_fit_10 : decode cX8_fit 10 = .ok (.invokestatic 106, 3) := by decide +kernel
theorem dX8_fit_13 : decode cX8_fit 13 = .ok (.ifCond .eq 31, 3) := by decide +kernel
theorem dX8_fit_16 : decode cX8_fit 16 = .ok (.iload_n 3, 1) := by decide +kernel
theorem dX8_fit_17 : decode cX8_fit 17 = .ok (.bipush 15, 2) := by decide +kernel
theorem dX8_fit_19 : decode cX8_fit 19 = .ok (.invokestatic 99, 3) := by decide +kernel
theorem dX8_fit_22 : decode cX8_fit 22 = .ok (.ifCond .eq 22, 3) := by decide +kernel
theorem dX8_fit_25 : decode cX8_fit 25 = .ok (.iload 4, 2) := by decide +kernel
theorem dX8_fit_27 : decode cX8_fit 27 = .ok (.bipush 24, 2) := by decide +kernel
theorem dX8_fit_29 : decode cX8_fit 29 = .ok (.invokestatic 99, 3) := by decide +kernel
theorem dX8_fit_32 : decode cX8_fit 32 = .ok (.ifCond .eq 12, 3) := by decide +kernel
theorem dX8_fit_35 : decode cX8_fit 35 = .ok (.iload 5, 2) := by decide +kernel
theorem dX8_fit_37 : decode cX8_fit 37 = .ok (.iconst 1, 1) := by decide +kernel
theorem dX8_fit_38 : decode cX8_fit 38 = .ok (.invokestatic 99, 3) := by decide +kernel
theorem dX8_fit_41 : decode cX8_fit 41 = .ok (.ifCond .ne 6, 3) := by decide +kernel
theorem dX8_fit_44 : decode cX8_fit 44 = .ok (.bipush (-2), 2) := by decide +kernel
theorem dX8_fit_46 : decode cX8_fit 46 = .ok (.ireturn, 1) := by decide +kernel
theorem dX8_fit_47 : decode cX8_fit 47 = .ok (.aload_n 0, 1) := by decide +kernel
theorem dX8_fit_48 : decode cX8_fit 48 = .ok (.getfield 14, 3) := by decide +kernel
theorem dX8_fit_51 : decode cX8_fit 51 = .ok (.iload_n 1, 1) := by decide +kernel
theorem dX8_fit_52 : decode cX8_fit 52 = .ok (.aaload, 1) := by decide +kernel
theorem dX8_fit_53 : decode cX8_fit 53 = .ok (.astore 6, 2) := by decide +kernel
theorem dX8_fit_55 : decode cX8_fit 55 = .ok (.iload_n 3, 1) := by decide +kernel
theorem dX8_fit_56 : decode cX8_fit 56 = .ok (.invokestatic 218, 3) := by decide +kernel
theorem dX8_fit_59 : decode cX8_fit 59 = .ok (.istore 7, 2) := by decide +kernel
theorem dX8_fit_61 : decode cX8_fit 61 = .ok (.iconst 0, 1) := by decide +kernel
theorem dX8_fit_62 : decode cX8_fit 62 = .ok (.istore 8, 2) := by decide +kernel
theorem dX8_fit_64 : decode cX8_fit 64 = .ok (.bipush (-6), 2) := by decide +kernel
theorem dX8_fit_66 : decode cX8_fit 66 = .ok (.istore 9, 2) := by decide +kernel
theorem dX8_fit_68 : decode cX8_fit 68 = .ok (.aload 6, 2) := by decide +kernel
theorem dX8_fit_70 : decode cX8_fit 70 = .ok (.iload_n 2, 1) := by decide +kernel
theorem dX8_fit_71 : decode cX8_fit 71 = .ok (.invokevirtual 109, 3) := by decide +kernel
theorem dX8_fit_74 : decode cX8_fit 74 = .ok (.iconst 0, 1) := by decide +kernel
theorem dX8_fit_75 : decode cX8_fit 75 = .ok (.istore 10, 2) := by decide +kernel
theorem dX8_fit_77 : decode cX8_fit 77 = .ok (.iload 10, 2) := by decide +kernel
theorem dX8_fit_79 : decode cX8_fit 79 = .ok (.sipush 256, 3) := by decide +kernel
theorem dX8_fit_82 : decode cX8_fit 82 = .ok (.if_icmp .ge 61, 3) := by decide +kernel
theorem dX8_fit_85 : decode cX8_fit 85 = .ok (.iload 10, 2) := by decide +kernel
theorem dX8_fit_87 : decode cX8_fit 87 = .ok (.iload_n 2, 1) := by decide +kernel
theorem dX8_fit_88 : decode cX8_fit 88 = .ok (.ixor, 1) := by decide +kernel
theorem dX8_fit_89 : decode cX8_fit 89 = .ok (.iload 7, 2) := by decide +kernel
theorem dX8_fit_91 : decode cX8_fit 91 = .ok (.iand, 1) := by decide +kernel
theorem dX8_fit_92 : decode cX8_fit 92 = .ok (.ifCond .eq 6, 3) := by decide +kernel
theorem dX8_fit_95 : decode cX8_fit 95 = .ok (.goto 42, 3) := by decide +kernel
theorem dX8_fit_98 : decode cX8_fit 98 = .ok (.aload 6, 2) := by decide +kernel
theorem dX8_fit_100 : decode cX8_fit 100 = .ok (.iload 10, 2) := by decide +kernel
theorem dX8_fit_102 : decode cX8_fit 102 = .ok (.invokevirtual 109, 3) := by decide +kernel
theorem dX8_fit_105 : decode cX8_fit 105 = .ok (.aload 6, 2) := by decide +kernel
theorem dX8_fit_107 : decode cX8_fit 107 = .ok (.iload_n 2, 1) := by decide +kernel
theorem dX8_fit_108 : decode cX8_fit 108 = .ok (.iload 10, 2) := by decide +kernel
theorem dX8_fit_110 : decode cX8_fit 110 = .ok (.iload 4, 2) := by decide +kernel
theorem dX8_fit_112 : decode cX8_fit 112 = .ok (.invokevirtual 221, 3) := by decide +kernel
theorem dX8_fit_115 : decode cX8_fit 115 = .ok (.ifCond .eq 22, 3) := by decide +kernel
theorem dX8_fit_118 : decode cX8_fit 118 = .ok (.iinc 8 1, 3) := by decide +kernel
theorem dX8_fit_121 : decode cX8_fit 121 = .ok (.iload 9, 2) := by decide +kernel
theorem dX8_fit_123 : decode cX8_fit 123 = .ok (.bipush (-6), 2) := by decide +kernel
theorem dX8_fit_125 : decode cX8_fit 125 = .ok (.if_icmp .ne 8, 3) := by decide +kernel
theorem dX8_fit_128 : decode cX8_fit 128 = .ok (.iload 10, 2) := by decide +kernel
theorem dX8_fit_130 : decode cX8_fit 130 = .ok (.goto 5, 3) := by decide +kernel
theorem dX8_fit_133 : decode cX8_fit 133 = .ok (.iload 9, 2) := by decide +kernel
theorem dX8_fit_135 : decode cX8_fit 135 = .ok (.istore 9, 2) := by decide +kernel
theorem dX8_fit_137 : decode cX8_fit 137 = .ok (.iinc 10 1, 3) := by decide +kernel
theorem dX8_fit_140 : decode cX8_fit 140 = .ok (.goto (-63), 3) := by decide +kernel
theorem dX8_fit_143 : decode cX8_fit 143 = .ok (.iload 5, 2) := by decide +kernel
theorem dX8_fit_145 : decode cX8_fit 145 = .ok (.ifCond .ne 8, 3) := by decide +kernel
theorem dX8_fit_148 : decode cX8_fit 148 = .ok (.iload 8, 2) := by decide +kernel
theorem dX8_fit_150 : decode cX8_fit 150 = .ok (.goto 5, 3) := by decide +kernel
theorem dX8_fit_153 : decode cX8_fit 153 = .ok (.iload 9, 2) := by decide +kernel
theorem dX8_fit_155 : decode cX8_fit 155 = .ok (.ireturn, 1) := by decide +kernel
theorem dX8_far_0 : decode cX8_far 0 = .ok (.iload_n 1, 1) := by decide +kernel
theorem dX8_far_1 : decode cX8_far 1 = .ok (.invokestatic 73, 3) := by decide +kernel
theorem dX8_far_4 : decode cX8_far 4 = .ok (.ifCond .ne 5, 3) := by decide +kernel
theorem dX8_far_7 : decode cX8_far 7 = .ok (.iconst (-1), 1) := by decide +kernel
theorem dX8_far_8 : decode cX8_far 8 = .ok (.ireturn, 1) := by decide +kernel
theorem dX8_far_9 : decode cX8_far 9 = .ok (.iload_n 2, 1) := by decide +kernel
theorem dX8_far_10 : decode cX8_far 10 = .ok (.iconst 3, 1) := by decide +kernel
theorem dX8_far_11 : decode cX8_far 11 = .ok (.invokestatic 99, 3) := by decide +kernel
theorem dX8_far_14 : decode cX8_far 14 = .ok (.ifCond .eq 23, 3) := by decide +kernel
theorem dX8_far_17 : decode cX8_far 17 = .ok (.iload_n 3, 1) := by decide +kernel
theorem dX8_far_18 : decode cX8_far 18 = .ok (.iconst 3, 1) := by decide +kernel
theorem dX8_far_19 : decode cX8_far 19 = .ok (.invokestatic 99, 3) := by decide +kernel
theorem dX8_far_22 : decode cX8_far 22 = .ok (.ifCond .eq 15, 3) := by decide +kernel
theorem dX8_far_25 : decode cX8_far 25 = .ok (.iload 4, 2) := by decide +kernel
theorem dX8_far_27 : decode cX8_far 27 = .ok (.iconst 1, 1) := by decide +kernel
theorem dX8_far_28 : decode cX8_far 28 = .ok (.if_icmp .lt 9, 3) := by decide +kernel
theorem dX8_far_31 : decode cX8_far 31 = .ok (.iload 4, 2) := by decide +kernel
theorem dX8_far_33 : decode cX8_far 33 = .ok (.iconst 3, 1) := by decide +kernel
theorem dX8_far_34 : decode cX8_far 34 = .ok (.if_icmp .le 6, 3) := by decide +kernel
theorem dX8_far_37 : decode cX8_far 37 = .ok (.bipush (-2), 2) := by decide +kernel
theorem dX8_far_39 : decode cX8_far 39 = .ok (.ireturn, 1) := by decide +kernel
theorem dX8_far_40 : decode cX8_far 40 = .ok (.aload_n 0, 1) := by decide +kernel
theorem dX8_far_41 : decode cX8_far 41 = .ok (.getfield 14, 3) := by decide +kernel
theorem dX8_far_44 : decode cX8_far 44 = .ok (.iload_n 1, 1) := by decide +kernel
theorem dX8_far_45 : decode cX8_far 45 = .ok (.aaload, 1) := by decide +kernel
theorem dX8_far_46 : decode cX8_far 46 = .ok (.astore 5, 2) := by decide +kernel
theorem dX8_far_48 : decode cX8_far 48 = .ok (.aload 5, 2) := by decide +kernel
theorem dX8_far_50 : decode cX8_far 50 = .ok (.invokevirtual 225, 3) := by decide +kernel
theorem dX8_far_53 : decode cX8_far 53 = .ok (.iconst 0, 1) := by decide +kernel
theorem dX8_far_54 : decode cX8_far 54 = .ok (.istore 6, 2) := by decide +kernel
theorem dX8_far_56 : decode cX8_far 56 = .ok (.iconst 0, 1) := by decide +kernel
theorem dX8_far_57 : decode cX8_far 57 = .ok (.istore 7, 2) := by decide +kernel
theorem dX8_far_59 : decode cX8_far 59 = .ok (.iload 7, 2) := by decide +kernel
theorem dX8_far_61 : decode cX8_far 61 = .ok (.sipush 256, 3) := by decide +kernel
theorem dX8_far_64 : decode cX8_far 64 = .ok (.if_icmp .ge 100, 3) := by decide +kernel
theorem dX8_far_67 : decode cX8_far 67 = .ok (.iload 7, 2) := by decide +kernel
theorem dX8_far_69 : decode cX8_far 69 = .ok (.iload_n 2, 1) := by decide +kernel
theorem dX8_far_70 : decode cX8_far 70 = .ok (.invokestatic 228, 3) := by decide +kernel
theorem dX8_far_73 : decode cX8_far 73 = .ok (.istore 8, 2) := by decide +kernel
theorem dX8_far_75 : decode cX8_far 75 = .ok (.aload 5, 2) := by decide +kernel
theorem dX8_far_77 : decode cX8_far 77 = .ok (.getfield 115, 3) := by decide +kernel
theorem dX8_far_80 : decode cX8_far 80 = .ok (.iload 7, 2) := by decide +kernel
