theorem dX9_saying_42 : decode cX9_saying 42 = .ok (.getfield 188, 3) := by decide +kernel
theorem dX9_saying_45 : decode cX9_saying 45 = .ok (.imul, 1) := by decide +kernel
theorem dX9_saying_46 : decode cX9_saying 46 = .ok (.iload_n 1, 1) := by decide +kernel
theorem dX9_saying_47 : decode cX9_saying 47 = .ok (.iadd, 1) := by decide +kernel
theorem dX9_saying_48 : decode cX9_saying 48 = .ok (.aload_n 0, 1) := by decide +kernel
theorem dX9_saying_49 : decode cX9_saying 49 = .ok (.getfield 50, 3) := by decide +kernel
theorem dX9_saying_52 : decode cX9_saying 52 = .ok (.sipush 240, 3) := by decide +kernel
theorem dX9_saying_55 : decode cX9_saying 55 = .ok (.iload_n 1, 1) := by decide +kernel
theorem dX9_saying_56 : decode cX9_saying 56 = .ok (.iadd, 1) := by decide +kernel
theorem dX9_saying_57 : decode cX9_saying 57 = .ok (.iaload, 1) := by decide +kernel
theorem dX9_saying_58 : decode cX9_saying 58 = .ok (.iastore, 1) := by decide +kernel
theorem dX9_saying_59 : decode cX9_saying 59 = .ok (.iinc 1 1, 3) := by decide +kernel
theorem dX9_saying_62 : decode cX9_saying 62 = .ok (.goto (-38), 3) := by decide +kernel
theorem dX9_saying_65 : decode cX9_saying 65 = .ok (.aload_n 0, 1) := by decide +kernel
theorem dX9_saying_66 : decode cX9_saying 66 = .ok (.getfield 53, 3) := by decide +kernel
theorem dX9_saying_69 : decode cX9_saying 69 = .ok (.aload_n 0, 1) := by decide +kernel
theorem dX9_saying_70 : decode cX9_saying 70 = .ok (.getfield 188, 3) := by decide +kernel
theorem dX9_saying_73 : decode cX9_saying 73 = .ok (.aload_n 0, 1) := by decide +kernel
theorem dX9_saying_74 : decode cX9_saying 74 = .ok (.getfield 53, 3) := by decide +kernel
theorem dX9_saying_77 : decode cX9_saying 77 = .ok (.bipush 6, 2) := by decide +kernel
theorem dX9_saying_79 : decode cX9_saying 79 = .ok (.iaload, 1) := by decide +kernel
theorem dX9_saying_80 : decode cX9_saying 80 = .ok (.iastore, 1) := by decide +kernel
theorem dX9_saying_81 : decode cX9_saying 81 = .ok (.aload_n 0, 1) := by decide +kernel
theorem dX9_saying_82 : decode cX9_saying 82 = .ok (.getfield 53, 3) := by decide +kernel
theorem dX9_saying_85 : decode cX9_saying 85 = .ok (.bipush 6, 2) := by decide +kernel
theorem dX9_saying_87 : decode cX9_saying 87 = .ok (.iconst 0, 1) := by decide +kernel
theorem dX9_saying_88 : decode cX9_saying 88 = .ok (.iastore, 1) := by decide +kernel
theorem dX9_saying_89 : decode cX9_saying 89 = .ok (.aload_n 0, 1) := by decide +kernel
theorem dX9_saying_90 : decode cX9_saying 90 = .ok (.dup, 1) := by decide +kernel
theorem dX9_saying_91 : decode cX9_saying 91 = .ok (.getfield 188, 3) := by decide +kernel
theorem dX9_saying_94 : decode cX9_saying 94 = .ok (.iconst 1, 1) := by decide +kernel
theorem dX9_saying_95 : decode cX9_saying 95 = .ok (.iadd, 1) := by decide +kernel
theorem dX9_saying_96 : decode cX9_saying 96 = .ok (.putfield 188, 3) := by decide +kernel
theorem dX9_saying_99 : decode cX9_saying 99 = .ok (.aload_n 0, 1) := by decide +kernel
theorem dX9_saying_100 : decode cX9_saying 100 = .ok (.getfield 188, 3) := by decide +kernel
theorem dX9_saying_103 : decode cX9_saying 103 = .ok (.iconst 1, 1) := by decide +kernel
theorem dX9_saying_104 : decode cX9_saying 104 = .ok (.isub, 1) := by decide +kernel
theorem dX9_saying_105 : decode cX9_saying 105 = .ok (.ireturn, 1) := by decide +kernel
theorem dX9_isSaying_0 : decode cX9_isSaying 0 = .ok (.iload_n 1, 1) := by decide +kernel
theorem dX9_isSaying_1 : decode cX9_isSaying 1 = .ok (.i2l, 1) := by decide +kernel
theorem dX9_isSaying_2 : decode cX9_isSaying 2 = .ok (.lconst 0, 1) := by decide +kernel
theorem dX9_isSaying_3 : decode cX9_isSaying 3 = .ok (.aload_n 0, 1) := by decide +kernel
theorem dX9_isSaying_4 : decode cX9_isSaying 4 = .ok (.getfield 188, 3) := by decide +kernel
theorem dX9_isSaying_7 : decode cX9_isSaying 7 = .ok (.iconst 1, 1) := by decide +kernel
theorem dX9_isSaying_8 : decode cX9_isSaying 8 = .ok (.isub, 1) := by decide +kernel
theorem dX9_isSaying_9 : decode cX9_isSaying 9 = .ok (.i2l, 1) := by decide +kernel
theorem dX9_isSaying_10 : decode cX9_isSaying 10 = .ok (.invokestatic 101, 3) := by decide +kernel
theorem dX9_isSaying_13 : decode cX9_isSaying 13 = .ok (.ireturn, 1) := by decide +kernel
theorem dX9_stand_0 : decode cX9_stand 0 = .ok (.iload_n 0, 1) := by decide +kernel
theorem dX9_stand_1 : decode cX9_stand 1 = .ok (.bipush 61, 2) := by decide +kernel
theorem dX9_stand_3 : decode cX9_stand 3 = .ok (.if_icmp .ne 16, 3) := by decide +kernel
theorem dX9_stand_6 : decode cX9_stand 6 = .ok (.iload_n 1, 1) := by decide +kernel
theorem dX9_stand_7 : decode cX9_stand 7 = .ok (.iload_n 2, 1) := by decide +kernel
theorem dX9_stand_8 : decode cX9_stand 8 = .ok (.if_icmp .ne 7, 3) := by decide +kernel
theorem dX9_stand_11 : decode cX9_stand 11 = .ok (.iconst 1, 1) := by decide +kernel
theorem dX9_stand_12 : decode cX9_stand 12 = .ok (.goto 55, 3) := by decide +kernel
theorem dX9_stand_15 : decode cX9_stand 15 = .ok (.iconst 0, 1) := by decide +kernel
theorem dX9_stand_16 : decode cX9_stand 16 = .ok (.goto 51, 3) := by decide +kernel
theorem dX9_stand_19 : decode cX9_stand 19 = .ok (.iload_n 0, 1) := by decide +kernel
theorem dX9_stand_20 : decode cX9_stand 20 = .ok (.bipush 60, 2) := by decide +kernel
theorem dX9_stand_22 : decode cX9_stand 22 = .ok (.if_icmp .ne 16, 3) := by decide +kernel
theorem dX9_stand_25 : decode cX9_stand 25 = .ok (.iload_n 1, 1) := by decide +kernel
theorem dX9_stand_26 : decode cX9_stand 26 = .ok (.iload_n 2, 1) := by decide +kernel
theorem dX9_stand_27 : decode cX9_stand 27 = .ok (.if_icmp .ge 7, 3) := by decide +kernel
theorem dX9_stand_30 : decode cX9_stand 30 = .ok (.iconst 1, 1) := by decide +kernel
theorem dX9_stand_31 : decode cX9_stand 31 = .ok (.goto 36, 3) := by decide +kernel
theorem dX9_stand_34 : decode cX9_stand 34 = .ok (.iconst 0, 1) := by decide +kernel
theorem dX9_stand_35 : decode cX9_stand 35 = .ok (.goto 32, 3) := by decide +kernel
theorem dX9_stand_38 : decode cX9_stand 38 = .ok (.iload_n 0, 1) := by decide +kernel
theorem dX9_stand_39 : decode cX9_stand 39 = .ok (.bipush 62, 2) := by decide +kernel
theorem dX9_stand_41 : decode cX9_stand 41 = .ok (.if_icmp .ne 16, 3) := by decide +kernel
theorem dX9_stand_44 : decode cX9_stand 44 = .ok (.iload_n 1, 1) := by decide +kernel
theorem dX9_stand_45 : decode cX9_stand 45 = .ok (.iload_n 2, 1) := by decide +kernel
theorem dX9_stand_46 : decode cX9_stand 46 = .ok (.if_icmp .le 7, 3) := by decide +kernel
theorem dX9_stand_49 : decode cX9_stand 49 = .ok (.iconst 1, 1) := by decide +kernel
theorem dX9_stand_50 : decode cX9_stand 50 = .ok (.goto 17, 3) := by decide +kernel
theorem dX9_stand_53 : decode cX9_stand 53 = .ok (.iconst 0, 1) := by decide +kernel
theorem dX9_stand_54 : decode cX9_stand 54 = .ok (.goto 13, 3) := by decide +kernel
theorem dX9_stand_57 : decode cX9_stand 57 = .ok (.iload_n 1, 1) := by decide +kernel
theorem dX9_stand_58 : decode cX9_stand 58 = .ok (.iload_n 2, 1) := by decide +kernel
theorem dX9_stand_59 : decode cX9_stand 59 = .ok (.if_icmp .eq 7, 3) := by decide +kernel
theorem dX9_stand_62 : decode cX9_stand 62 = .ok (.iconst 1, 1) := by decide +kernel
theorem dX9_stand_63 : decode cX9_stand 63 = .ok (.goto 4, 3) := by decide +kernel
theorem dX9_stand_66 : decode cX9_stand 66 = .ok (.iconst 0, 1) := by decide +kernel
theorem dX9_stand_67 : decode cX9_stand 67 = .ok (.ireturn, 1) := by decide +kernel
theorem dX9_markOf_0 : decode cX9_markOf 0 = .ok (.bipush 40, 2) := by decide +kernel
theorem dX9_markOf_2 : decode cX9_markOf 2 = .ok (.iload_n 1, 1) := by decide +kernel
theorem dX9_markOf_3 : decode cX9_markOf 3 = .ok (.imul, 1) := by decide +kernel
theorem dX9_markOf_4 : decode cX9_markOf 4 = .ok (.istore_n 2, 1) := by decide +kernel
theorem dX9_markOf_5 : decode cX9_markOf 5 = .ok (.aload_n 0, 1) := by decide +kernel
theorem dX9_markOf_6 : decode cX9_markOf 6 = .ok (.getfield 50, 3) := by decide +kernel
theorem dX9_markOf_9 : decode cX9_markOf 9 = .ok (.iload_n 2, 1) := by decide +kernel
theorem dX9_markOf_10 : decode cX9_markOf 10 = .ok (.iaload, 1) := by decide +kernel
theorem dX9_markOf_11 : decode cX9_markOf 11 = .ok (.bipush 58, 2) := by decide +kernel
theorem dX9_markOf_13 : decode cX9_markOf 13 = .ok (.if_icmp .eq 9, 3) := by decide +kernel
theorem dX9_markOf_16 : decode cX9_markOf 16 = .ok (.iinc 2 1, 3) := by decide +kernel
theorem dX9_markOf_19 : decode cX9_markOf 19 = .ok (.goto (-14), 3) := by decide +kernel
theorem dX9_markOf_22 : decode cX9_markOf 22 = .ok (.iload_n 2, 1) := by decide +kernel
theorem dX9_markOf_23 : decode cX9_markOf 23 = .ok (.iconst 1, 1) := by decide +kernel
theorem dX9_markOf_24 : decode cX9_markOf 24 = .ok (.iadd, 1) := by decide +kernel
theorem dX9_markOf_25 : decode cX9_markOf 25 = .ok (.ireturn, 1) := by decide +kernel
theorem dX9_allStand_0 : decode cX9_allStand 0 = .ok (.iconst 1, 1) := by decide +kernel
theorem dX9_allStand_1 : decode cX9_allStand 1 = .ok (.istore 5, 2) := by decide +kernel
theorem dX9_allStand_3 : decode cX9_allStand 3 = .ok (.iload_n 1, 1) := by decide +kernel
theorem dX9_allStand_4 : decode cX9_allStand 4 = .ok (.istore 6, 2) := by decide +kernel
theorem dX9_allStand_6 : decode cX9_allStand 6 = .ok (.iload 6, 2) := by decide +kernel
theorem dX9_allStand_8 : decode cX9_allStand 8 = .ok (.iload_n 2, 1) := by decide +kernel
theorem dX9_allStand_9 : decode cX9_allStand 9 = .ok (.if_icmp .ge 78, 3) := by decide +kernel
theorem dX9_allStand_12 : decode cX9_allStand 12 = .ok (.iload 5, 2) := by decide +kernel
theorem dX9_allStand_14 : decode cX9_allStand 14 = .ok (.ifCond .eq 73, 3) := by decide +kernel
theorem dX9_allStand_17 : decode cX9_allStand 17 = .ok (.aload_n 0, 1) := by decide +kernel
theorem dX9_allStand_18 : decode cX9_allStand 18 = .ok (.getfield 50, 3) := by decide +kernel
theorem dX9_allStand_21 : decode cX9_allStand 21 = .ok (.iload 6, 2) := by decide +kernel
theorem dX9_allStand_23 : decode cX9_allStand 23 = .ok (.iaload, 1) := by decide +kernel
theorem dX9_allStand_24 : decode cX9_allStand 24 = .ok (.invokestatic 175, 3) := by decide +kernel
theorem dX9_allStand_27 : decode cX9_allStand 27 = .ok (.ifCond .eq 54, 3) := by decide +kernel
theorem dX9_allStand_30 : decode cX9_allStand 30 = .ok (.aload_n 0, 1) := by decide +kernel
theorem dX9_allStand_31 : decode cX9_allStand 31 = .ok (.getfield 50, 3) := by decide +kernel
theorem dX9_allStand_34 : decode cX9_allStand 34 = .ok (.iload 6, 2) := by decide +kernel
theorem dX9_allStand_36 : decode cX9_allStand 36 = .ok (.iconst 1, 1) := by decide +kernel
theorem dX9_allStand_37 : decode cX9_allStand 37 = .ok (.iadd, 1) := by decide +kernel
theorem dX9_allStand_38 : decode cX9_allStand 38 = .ok (.iaload, 1) := by decide +kernel
theorem dX9_allStand_39 : decode cX9_allStand 39 = .ok (.iload_n 3, 1) := by decide +kernel
theorem dX9_allStand_40 : decode cX9_allStand 40 = .ok (.aload_n 0, 1) := by decide +kernel
theorem dX9_allStand_41 : decode cX9_allStand 41 = .ok (.getfield 50, 3) := by decide +kernel
theorem dX9_allStand_44 : decode cX9_allStand 44 = .ok (.iload 6, 2) := by decide +kernel
theorem dX9_allStand_46 : decode cX9_allStand 46 = .ok (.iaload, 1) := by decide +kernel
theorem dX9_allStand_47 : decode cX9_allStand 47 = .ok (.bipush 97, 2) := by decide +kernel
theorem dX9_allStand_49 : decode cX9_allStand 49 = .ok (.isub, 1) := by decide +kernel
theorem dX9_allStand_50 : decode cX9_allStand 50 = .ok (.invokestatic 128, 3) := by decide +kernel
theorem dX9_allStand_53 : decode cX9_allStand 53 = .ok (.iload 4, 2) := by decide +kernel
theorem dX9_allStand_55 : decode cX9_allStand 55 = .ok (.aload_n 0, 1) := by decide +kernel
theorem dX9_allStand_56 : decode cX9_allStand 56 = .ok (.getfield 50, 3) := by decide +kernel
theorem dX9_allStand_59 : decode cX9_allStand 59 = .ok (.iload 6, 2) := by decide +kernel
theorem dX9_allStand_61 : decode cX9_allStand 61 = .ok (.iconst 2, 1) := by decide +kernel
theorem dX9_allStand_62 : decode cX9_allStand 62 = .ok (.iadd, 1) := by decide +kernel
theorem dX9_allStand_63 : decode cX9_allStand 63 = .ok (.iaload, 1) := by decide +kernel
theorem dX9_allStand_64 : decode cX9_allStand 64 = .ok (.bipush 97, 2) := by decide +kernel
theorem dX9_allStand_66 : decode cX9_allStand 66 = .ok (.isub, 1) := by decide +kernel
theorem dX9_allStand_67 : decode cX9_allStand 67 = .ok (.invokestatic 128, 3) := by decide +kernel
theorem dX9_allStand_70 : decode cX9_allStand 70 = .ok (.invokestatic 195, 3) := by decide +kernel
theorem dX9_allStand_73 : decode cX9_allStand 73 = .ok (.istore 5, 2) := by decide +kernel
theorem dX9_allStand_75 : decode cX9_allStand 75 = .ok (.iinc 6 4, 3) := by decide +kernel
theorem dX9_allStand_78 : decode cX9_allStand 78 = .ok (.goto (-72), 3) := by decide +kernel
theorem dX9_allStand_81 : decode cX9_allStand 81 = .ok (.iinc 6 2, 3) := by decide +kernel
theorem dX9_allStand_84 : decode cX9_allStand 84 = .ok (.goto (-78), 3) := by decide +kernel
theorem dX9_allStand_87 : decode cX9_allStand 87 = .ok (.iload 5, 2) := by decide +kernel
theorem dX9_allStand_89 : decode cX9_allStand 89 = .ok (.ireturn, 1) := by decide +kernel
theorem dX9_isMeant_0 : decode cX9_isMeant 0 = .ok (.aload_n 0, 1) := by decide +kernel
theorem dX9_isMeant_1 : decode cX9_isMeant 1 = .ok (.bipush 40, 2) := by decide +kernel
theorem dX9_isMeant_3 : decode cX9_isMeant 3 = .ok (.iload_n 1, 1) := by decide +kernel
theorem dX9_isMeant_4 : decode cX9_isMeant 4 = .ok (.imul, 1) := by decide +kernel
theorem dX9_isMeant_5 : decode cX9_isMeant 5 = .ok (.aload_n 0, 1) := by decide +kernel
theorem dX9_isMeant_6 : decode cX9_isMeant 6 = .ok (.iload_n 1, 1) := by decide +kernel
theorem dX9_isMeant_7 : decode cX9_isMeant 7 = .ok (.invokevirtual 199, 3) := by decide +kernel
theorem dX9_isMeant_10 : decode cX9_isMeant 10 = .ok (.iconst 1, 1) := by decide +kernel
theorem dX9_isMeant_11 : decode cX9_isMeant 11 = .ok (.isub, 1) := by decide +kernel
theorem dX9_isMeant_12 : decode cX9_isMeant 12 = .ok (.iload_n 2, 1) := by decide +kernel
theorem dX9_isMeant_13 : decode cX9_isMeant 13 = .ok (.iload_n 3, 1) := by decide +kernel
theorem dX9_isMeant_14 : decode cX9_isMeant 14 = .ok (.invokevirtual 203, 3) := by decide +kernel
theorem dX9_isMeant_17 : decode cX9_isMeant 17 = .ok (.ireturn, 1) := by decide +kernel
theorem dX9_isAsSaid_0 : decode cX9_isAsSaid 0 = .ok (.aload_n 0, 1) := by decide +kernel
theorem dX9_isAsSaid_1 : decode cX9_isAsSaid 1 = .ok (.iload_n 1, 1) := by decide +kernel
theorem dX9_isAsSaid_2 : decode cX9_isAsSaid 2 = .ok (.invokevirtual 199, 3) := by decide +kernel
theorem dX9_isAsSaid_5 : decode cX9_isAsSaid 5 = .ok (.istore 4, 2) := by decide +kernel
theorem dX9_isAsSaid_7 : decode cX9_isAsSaid 7 = .ok (.bipush 40, 2) := by decide +kernel
theorem dX9_isAsSaid_9 : decode cX9_isAsSaid 9 = .ok (.iload_n 1, 1) := by decide +kernel
theorem dX9_isAsSaid_10 : decode cX9_isAsSaid 10 = .ok (.imul, 1) := by decide +kernel
theorem dX9_isAsSaid_11 : decode cX9_isAsSaid 11 = .ok (.aload_n 0, 1) := by decide +kernel
theorem dX9_isAsSaid_12 : decode cX9_isAsSaid 12 = .ok (.getfield 53, 3) := by decide +kernel
theorem dX9_isAsSaid_15 : decode cX9_isAsSaid 15 = .ok (.iload_n 1, 1) := by decide +kernel
theorem dX9_isAsSaid_16 : decode cX9_isAsSaid 16 = .ok (.iaload, 1) := by decide +kernel
theorem dX9_isAsSaid_17 : decode cX9_isAsSaid 17 = .ok (.iadd, 1) := by decide +kernel
theorem dX9_isAsSaid_18 : decode cX9_isAsSaid 18 = .ok (.istore 5, 2) := by decide +kernel
theorem dX9_isAsSaid_20 : decode cX9_isAsSaid 20 = .ok (.aload_n 0, 1) := by decide +kernel
theorem dX9_isAsSaid_21 : decode cX9_isAsSaid 21 = .ok (.iload 4, 2) := by decide +kernel
theorem dX9_isAsSaid_23 : decode cX9_isAsSaid 23 = .ok (.iload 5, 2) := by decide +kernel
theorem dX9_isAsSaid_25 : decode cX9_isAsSaid 25 = .ok (.aload_n 0, 1) := by decide +kernel
theorem dX9_isAsSaid_26 : decode cX9_isAsSaid 26 = .ok (.getfield 38, 3) := by decide +kernel
theorem dX9_isAsSaid_29 : decode cX9_isAsSaid 29 = .ok (.iload_n 2, 1) := by decide +kernel
theorem dX9_isAsSaid_30 : decode cX9_isAsSaid 30 = .ok (.iaload, 1) := by decide +kernel
theorem dX9_isAsSaid_31 : decode cX9_isAsSaid 31 = .ok (.aload_n 0, 1) := by decide +kernel
theorem dX9_isAsSaid_32 : decode cX9_isAsSaid 32 = .ok (.getfield 38, 3) := by decide +kernel
theorem dX9_isAsSaid_35 : decode cX9_isAsSaid 35 = .ok (.iload_n 3, 1) := by decide +kernel
theorem dX9_isAsSaid_36 : decode cX9_isAsSaid 36 = .ok (.iaload, 1) := by decide +kernel
theorem dX9_isAsSaid_37 : decode cX9_isAsSaid 37 = .ok (.invokevirtual 203, 3) := by decide +kernel
theorem dX9_isAsSaid_40 : decode cX9_isAsSaid 40 = .ok (.istore 6, 2) := by decide +kernel
theorem dX9_isAsSaid_42 : decode cX9_isAsSaid 42 = .ok (.iload 4, 2) := by decide +kernel
theorem dX9_isAsSaid_44 : decode cX9_isAsSaid 44 = .ok (.istore 7, 2) := by decide +kernel
theorem dX9_isAsSaid_46 : decode cX9_isAsSaid 46 = .ok (.iload 7, 2) := by decide +kernel
theorem dX9_isAsSaid_48 : decode cX9_isAsSaid 48 = .ok (.iload 5, 2) := by decide +kernel
theorem dX9_isAsSaid_50 : decode cX9_isAsSaid 50 = .ok (.if_icmp .ge 134, 3) := by decide +kernel
theorem dX9_isAsSaid_53 : decode cX9_isAsSaid 53 = .ok (.iload 6, 2) := by decide +kernel
theorem dX9_isAsSaid_55 : decode cX9_isAsSaid 55 = .ok (.ifCond .eq 129, 3) := by decide +kernel
theorem dX9_isAsSaid_58 : decode cX9_isAsSaid 58 = .ok (.aload_n 0, 1) := by decide +kernel
theorem dX9_isAsSaid_59 : decode cX9_isAsSaid 59 = .ok (.getfield 50, 3) := by decide +kernel
theorem dX9_isAsSaid_62 : decode cX9_isAsSaid 62 = .ok (.iload 7, 2) := by decide +kernel
theorem dX9_isAsSaid_64 : decode cX9_isAsSaid 64 = .ok (.iaload, 1) := by decide +kernel
theorem dX9_isAsSaid_65 : decode cX9_isAsSaid 65 = .ok (.istore 8, 2) := by decide +kernel
theorem dX9_isAsSaid_67 : decode cX9_isAsSaid 67 = .ok (.iload 8, 2) := by decide +kernel
theorem dX9_isAsSaid_69 : decode cX9_isAsSaid 69 = .ok (.invokestatic 175, 3) := by decide +kernel
theorem dX9_isAsSaid_72 : decode cX9_isAsSaid 72 = .ok (.ifCond .eq 9, 3) := by decide +kernel
theorem dX9_isAsSaid_75 : decode cX9_isAsSaid 75 = .ok (.iinc 7 4, 3) := by decide +kernel
theorem dX9_isAsSaid_78 : decode cX9_isAsSaid 78 = .ok (.goto 103, 3) := by decide +kernel
theorem dX9_isAsSaid_81 : decode cX9_isAsSaid 81 = .ok (.iload 8, 2) := by decide +kernel
theorem dX9_isAsSaid_83 : decode cX9_isAsSaid 83 = .ok (.bipush 101, 2) := by decide +kernel
theorem dX9_isAsSaid_85 : decode cX9_isAsSaid 85 = .ok (.if_icmp .ne 26, 3) := by decide +kernel
theorem dX9_isAsSaid_88 : decode cX9_isAsSaid 88 = .ok (.aload_n 0, 1) := by decide +kernel
theorem dX9_isAsSaid_89 : decode cX9_isAsSaid 89 = .ok (.getfield 35, 3) := by decide +kernel
theorem dX9_isAsSaid_92 : decode cX9_isAsSaid 92 = .ok (.iload_n 2, 1) := by decide +kernel
theorem dX9_isAsSaid_93 : decode cX9_isAsSaid 93 = .ok (.iaload, 1) := by decide +kernel
theorem dX9_isAsSaid_94 : decode cX9_isAsSaid 94 = .ok (.aload_n 0, 1) := by decide +kernel
theorem dX9_isAsSaid_95 : decode cX9_isAsSaid 95 = .ok (.getfield 35, 3) := by decide +kernel
theorem dX9_isAsSaid_98 : decode cX9_isAsSaid 98 = .ok (.iload_n 3, 1) := by decide +kernel
theorem dX9_isAsSaid_99 : decode cX9_isAsSaid 99 = .ok (.iaload, 1) := by decide +kernel
theorem dX9_isAsSaid_100 : decode cX9_isAsSaid 100 = .ok (.if_icmp .ne 7, 3) := by decide +kernel
theorem dX9_isAsSaid_103 : decode cX9_isAsSaid 103 = .ok (.iconst 1, 1) := by decide +kernel
theorem dX9_isAsSaid_104 : decode cX9_isAsSaid 104 = .ok (.goto 72, 3) := by decide +kernel
theorem dX9_isAsSaid_107 : decode cX9_isAsSaid 107 = .ok (.iconst 0, 1) := by decide +kernel
theorem dX9_isAsSaid_108 : decode cX9_isAsSaid 108 = .ok (.goto 68, 3) := by decide +kernel
theorem dX9_isAsSaid_111 : decode cX9_isAsSaid 111 = .ok (.iload 8, 2) := by decide +kernel
theorem dX9_isAsSaid_113 : decode cX9_isAsSaid 113 = .ok (.bipush 116, 2) := by decide +kernel
theorem dX9_isAsSaid_115 : decode cX9_isAsSaid 115 = .ok (.if_icmp .ne 26, 3) := by decide +kernel
theorem dX9_isAsSaid_118 : decode cX9_isAsSaid 118 = .ok (.aload_n 0, 1) := by decide +kernel
theorem dX9_isAsSaid_119 : decode cX9_isAsSaid 119 = .ok (.getfield 41, 3) := by decide +kernel
theorem dX9_isAsSaid_122 : decode cX9_isAsSaid 122 = .ok (.iload_n 2, 1) := by decide +kernel
theorem dX9_isAsSaid_123 : decode cX9_isAsSaid 123 = .ok (.iaload, 1) := by decide +kernel
theorem dX9_isAsSaid_124 : decode cX9_isAsSaid 124 = .ok (.aload_n 0, 1) := by decide +kernel
theorem dX9_isAsSaid_125 : decode cX9_isAsSaid 125 = .ok (.getfield 41, 3) := by decide +kernel
theorem dX9_isAsSaid_128 : decode cX9_isAsSaid 128 = .ok (.iload_n 3, 1) := by decide +kernel
theorem dX9_isAsSaid_129 : decode cX9_isAsSaid 129 = .ok (.iaload, 1) := by decide +kernel
theorem dX9_isAsSaid_130 : decode cX9_isAsSaid 130 = .ok (.if_icmp .ne 7, 3) := by decide +kernel
theorem dX9_isAsSaid_133 : decode cX9_isAsSaid 133 = .ok (.iconst 1, 1) := by decide +kernel
theorem dX9_isAsSaid_134 : decode cX9_isAsSaid 134 = .ok (.goto 42, 3) := by decide +kernel
theorem dX9_isAsSaid_137 : decode cX9_isAsSaid 137 = .ok (.iconst 0, 1) := by decide +kernel
theorem dX9_isAsSaid_138 : decode cX9_isAsSaid 138 = .ok (.goto 38, 3) := by decide +kernel
theorem dX9_isAsSaid_141 : decode cX9_isAsSaid 141 = .ok (.aload_n 0, 1) := by decide +kernel
theorem dX9_isAsSaid_142 : decode cX9_isAsSaid 142 = .ok (.getfield 44, 3) := by decide +kernel
theorem dX9_isAsSaid_145 : decode cX9_isAsSaid 145 = .ok (.iload_n 2, 1) := by decide +kernel
theorem dX9_isAsSaid_146 : decode cX9_isAsSaid 146 = .ok (.iaload, 1) := by decide +kernel
theorem dX9_isAsSaid_147 : decode cX9_isAsSaid 147 = .ok (.aload_n 0, 1) := by decide +kernel
theorem dX9_isAsSaid_148 : decode cX9_isAsSaid 148 = .ok (.getfield 44, 3) := by decide +kernel
theorem dX9_isAsSaid_151 : decode cX9_isAsSaid 151 = .ok (.iload_n 3, 1) := by decide +kernel
theorem dX9_isAsSaid_152 : decode cX9_isAsSaid 152 = .ok (.iaload, 1) := by decide +kernel
theorem dX9_isAsSaid_153 : decode cX9_isAsSaid 153 = .ok (.if_icmp .ne 22, 3) := by decide +kernel
theorem dX9_isAsSaid_156 : decode cX9_isAsSaid 156 = .ok (.aload_n 0, 1) := by decide +kernel
theorem dX9_isAsSaid_157 : decode cX9_isAsSaid 157 = .ok (.iload_n 2, 1) := by decide +kernel
theorem dX9_isAsSaid_158 : decode cX9_isAsSaid 158 = .ok (.iload_n 3, 1) := by decide +kernel
theorem dX9_isAsSaid_159 : decode cX9_isAsSaid 159 = .ok (.aload_n 0, 1) := by decide +kernel
theorem dX9_isAsSaid_160 : decode cX9_isAsSaid 160 = .ok (.getfield 44, 3) := by decide +kernel
theorem dX9_isAsSaid_163 : decode cX9_isAsSaid 163 = .ok (.iload_n 2, 1) := by decide +kernel
theorem dX9_isAsSaid_164 : decode cX9_isAsSaid 164 = .ok (.iaload, 1) := by decide +kernel
theorem dX9_isAsSaid_165 : decode cX9_isAsSaid 165 = .ok (.invokevirtual 206, 3) := by decide +kernel
theorem dX9_isAsSaid_168 : decode cX9_isAsSaid 168 = .ok (.ifCond .eq 7, 3) := by decide +kernel
theorem dX9_isAsSaid_171 : decode cX9_isAsSaid 171 = .ok (.iconst 1, 1) := by decide +kernel
theorem dX9_isAsSaid_172 : decode cX9_isAsSaid 172 = .ok (.goto 4, 3) := by decide +kernel
theorem dX9_isAsSaid_175 : decode cX9_isAsSaid 175 = .ok (.iconst 0, 1) := by decide +kernel
theorem dX9_isAsSaid_176 : decode cX9_isAsSaid 176 = .ok (.istore 6, 2) := by decide +kernel
theorem dX9_isAsSaid_178 : decode cX9_isAsSaid 178 = .ok (.iinc 7 2, 3) := by decide +kernel
theorem dX9_isAsSaid_181 : decode cX9_isAsSaid 181 = .ok (.goto (-135), 3) := by decide +kernel
theorem dX9_isAsSaid_184 : decode cX9_isAsSaid 184 = .ok (.iload 6, 2) := by decide +kernel
theorem dX9_isAsSaid_186 : decode cX9_isAsSaid 186 = .ok (.ireturn, 1) := by decide +kernel
theorem dX9_pair_0 : decode cX9_pair 0 = .ok (.aload_n 0, 1) := by decide +kernel
theorem dX9_pair_1 : decode cX9_pair 1 = .ok (.iload_n 1, 1) := by decide +kernel
theorem dX9_pair_2 : decode cX9_pair 2 = .ok (.invokevirtual 209, 3) := by decide +kernel
theorem dX9_pair_5 : decode cX9_pair 5 = .ok (.ifCond .eq 18, 3) := by decide +kernel
theorem dX9_pair_8 : decode cX9_pair 8 = .ok (.iload_n 2, 1) := by decide +kernel
theorem dX9_pair_9 : decode cX9_pair 9 = .ok (.invokestatic 111, 3) := by decide +kernel
theorem dX9_pair_12 : decode cX9_pair 12 = .ok (.ifCond .eq 11, 3) := by decide +kernel
theorem dX9_pair_15 : decode cX9_pair 15 = .ok (.iload 4, 2) := by decide +kernel
theorem dX9_pair_17 : decode cX9_pair 17 = .ok (.invokestatic 111, 3) := by decide +kernel
theorem dX9_pair_20 : decode cX9_pair 20 = .ok (.ifCond .ne 5, 3) := by decide +kernel
theorem dX9_pair_23 : decode cX9_pair 23 = .ok (.iconst (-1), 1) := by decide +kernel
theorem dX9_pair_24 : decode cX9_pair 24 = .ok (.ireturn, 1) := by decide +kernel
theorem dX9_pair_25 : decode cX9_pair 25 = .ok (.iload_n 3, 1) := by decide +kernel
theorem dX9_pair_26 : decode cX9_pair 26 = .ok (.invokestatic 162, 3) := by decide +kernel
theorem dX9_pair_29 : decode cX9_pair 29 = .ok (.ifCond .eq 22, 3) := by decide +kernel
theorem dX9_pair_32 : decode cX9_pair 32 = .ok (.iload 5, 2) := by decide +kernel
theorem dX9_pair_34 : decode cX9_pair 34 = .ok (.invokestatic 162, 3) := by decide +kernel
theorem dX9_pair_37 : decode cX9_pair 37 = .ok (.ifCond .eq 14, 3) := by decide +kernel
theorem dX9_pair_40 : decode cX9_pair 40 = .ok (.iload 6, 2) := by decide +kernel
theorem dX9_pair_42 : decode cX9_pair 42 = .ok (.i2l, 1) := by decide +kernel
theorem dX9_pair_43 : decode cX9_pair 43 = .ok (.lconst 0, 1) := by decide +kernel
theorem dX9_pair_44 : decode cX9_pair 44 = .ok (.lconst 1, 1) := by decide +kernel
theorem dX9_pair_45 : decode cX9_pair 45 = .ok (.invokestatic 101, 3) := by decide +kernel
theorem dX9_pair_48 : decode cX9_pair 48 = .ok (.ifCond .ne 6, 3) := by decide +kernel
theorem dX9_pair_51 : decode cX9_pair 51 = .ok (.bipush (-2), 2) := by decide +kernel
theorem dX9_pair_53 : decode cX9_pair 53 = .ok (.ireturn, 1) := by decide +kernel
theorem dX9_pair_54 : decode cX9_pair 54 = .ok (.aload_n 0, 1) := by decide +kernel
theorem dX9_pair_55 : decode cX9_pair 55 = .ok (.iload_n 1, 1) := by decide +kernel
theorem dX9_pair_56 : decode cX9_pair 56 = .ok (.iload_n 3, 1) := by decide +kernel
theorem dX9_pair_57 : decode cX9_pair 57 = .ok (.iload 5, 2) := by decide +kernel
theorem dX9_pair_59 : decode cX9_pair 59 = .ok (.invokevirtual 212, 3) := by decide +kernel
theorem dX9_pair_62 : decode cX9_pair 62 = .ok (.istore 7, 2) := by decide +kernel
theorem dX9_pair_64 : decode cX9_pair 64 = .ok (.iload 6, 2) := by decide +kernel
theorem dX9_pair_66 : decode cX9_pair 66 = .ok (.ifCond .eq 8, 3) := by decide +kernel
theorem dX9_pair_69 : decode cX9_pair 69 = .ok (.iload 7, 2) := by decide +kernel
theorem dX9_pair_71 : decode cX9_pair 71 = .ok (.ifCond .ne 14, 3) := by decide +kernel
theorem dX9_pair_74 : decode cX9_pair 74 = .ok (.iload 7, 2) := by decide +kernel
theorem dX9_pair_76 : decode cX9_pair 76 = .ok (.ifCond .eq 7, 3) := by decide +kernel
theorem dX9_pair_79 : decode cX9_pair 79 = .ok (.iconst 1, 1) := by decide +kernel
theorem dX9_pair_80 : decode cX9_pair 80 = .ok (.goto 4, 3) := by decide +kernel
theorem dX9_pair_83 : decode cX9_pair 83 = .ok (.iconst 0, 1) := by decide +kernel
theorem dX9_pair_84 : decode cX9_pair 84 = .ok (.ireturn, 1) := by decide +kernel
theorem dX9_pair_85 : decode cX9_pair 85 = .ok (.aload_n 0, 1) := by decide +kernel
theorem dX9_pair_86 : decode cX9_pair 86 = .ok (.iload_n 2, 1) := by decide +kernel
theorem dX9_pair_87 : decode cX9_pair 87 = .ok (.iload_n 3, 1) := by decide +kernel
theorem dX9_pair_88 : decode cX9_pair 88 = .ok (.iconst 0, 1) := by decide +kernel
theorem dX9_pair_89 : decode cX9_pair 89 = .ok (.invokevirtual 157, 3) := by decide +kernel
theorem dX9_pair_92 : decode cX9_pair 92 = .ok (.aload_n 0, 1) := by decide +kernel
theorem dX9_pair_93 : decode cX9_pair 93 = .ok (.iload 4, 2) := by decide +kernel
theorem dX9_pair_95 : decode cX9_pair 95 = .ok (.iload 5, 2) := by decide +kernel
theorem dX9_pair_97 : decode cX9_pair 97 = .ok (.iconst 1, 1) := by decide +kernel
theorem dX9_pair_98 : decode cX9_pair 98 = .ok (.invokevirtual 157, 3) := by decide +kernel
theorem dX9_pair_101 : decode cX9_pair 101 = .ok (.aload_n 0, 1) := by decide +kernel
theorem dX9_pair_102 : decode cX9_pair 102 = .ok (.iload_n 1, 1) := by decide +kernel
theorem dX9_pair_103 : decode cX9_pair 103 = .ok (.iconst 0, 1) := by decide +kernel
theorem dX9_pair_104 : decode cX9_pair 104 = .ok (.iconst 1, 1) := by decide +kernel
theorem dX9_pair_105 : decode cX9_pair 105 = .ok (.invokevirtual 215, 3) := by decide +kernel
theorem dX9_pair_108 : decode cX9_pair 108 = .ok (.ifCond .eq 7, 3) := by decide +kernel
theorem dX9_pair_111 : decode cX9_pair 111 = .ok (.iconst 0, 1) := by decide +kernel
theorem dX9_pair_112 : decode cX9_pair 112 = .ok (.goto 4, 3) := by decide +kernel
theorem dX9_pair_115 : decode cX9_pair 115 = .ok (.iconst 1, 1) := by decide +kernel
theorem dX9_pair_116 : decode cX9_pair 116 = .ok (.ireturn, 1) := by decide +kernel
theorem dX9_findPairs_0 : decode cX9_findPairs 0 = .ok (.aload_n 0, 1) := by decide +kernel
theorem dX9_findPairs_1 : decode cX9_findPairs 1 = .ok (.iconst 0, 1) := by decide +kernel
theorem dX9_findPairs_2 : decode cX9_findPairs 2 = .ok (.putfield 218, 3) := by decide +kernel
theorem dX9_findPairs_5 : decode cX9_findPairs 5 = .ok (.aload_n 0, 1) := by decide +kernel
theorem dX9_findPairs_6 : decode cX9_findPairs 6 = .ok (.bipush (-6), 2) := by decide +kernel
theorem dX9_findPairs_8 : decode cX9_findPairs 8 = .ok (.putfield 221, 3) := by decide +kernel
theorem dX9_findPairs_11 : decode cX9_findPairs 11 = .ok (.aload_n 0, 1) := by decide +kernel
theorem dX9_findPairs_12 : decode cX9_findPairs 12 = .ok (.iconst 0, 1) := by decide +kernel
theorem dX9_findPairs_13 : decode cX9_findPairs 13 = .ok (.putfield 224, 3) := by decide +kernel
theorem dX9_findPairs_16 : decode cX9_findPairs 16 = .ok (.aload_n 0, 1) := by decide +kernel
theorem dX9_findPairs_17 : decode cX9_findPairs 17 = .ok (.bipush (-6), 2) := by decide +kernel
theorem dX9_findPairs_19 : decode cX9_findPairs 19 = .ok (.putfield 227, 3) := by decide +kernel
theorem dX9_findPairs_22 : decode cX9_findPairs 22 = .ok (.iconst 0, 1) := by decide +kernel
theorem dX9_findPairs_23 : decode cX9_findPairs 23 = .ok (.istore_n 2, 1) := by decide +kernel
theorem dX9_findPairs_24 : decode cX9_findPairs 24 = .ok (.iload_n 2, 1) := by decide +kernel
theorem dX9_findPairs_25 : decode cX9_findPairs 25 = .ok (.sipush 256, 3) := by decide +kernel
theorem dX9_findPairs_28 : decode cX9_findPairs 28 = .ok (.if_icmp .ge 151, 3) := by decide +kernel
theorem dX9_findPairs_31 : decode cX9_findPairs 31 = .ok (.iconst 0, 1) := by decide +kernel
theorem dX9_findPairs_32 : decode cX9_findPairs 32 = .ok (.istore_n 3, 1) := by decide +kernel
theorem dX9_findPairs_33 : decode cX9_findPairs 33 = .ok (.iconst 0, 1) := by decide +kernel
theorem dX9_findPairs_34 : decode cX9_findPairs 34 = .ok (.istore 4, 2) := by decide +kernel
theorem dX9_findPairs_36 : decode cX9_findPairs 36 = .ok (.iload 4, 2) := by decide +kernel
theorem dX9_findPairs_38 : decode cX9_findPairs 38 = .ok (.sipush 256, 3) := by decide +kernel
theorem dX9_findPairs_41 : decode cX9_findPairs 41 = .ok (.if_icmp .ge 109, 3) := by decide +kernel
theorem dX9_findPairs_44 : decode cX9_findPairs 44 = .ok (.aload_n 0, 1) := by decide +kernel
theorem dX9_findPairs_45 : decode cX9_findPairs 45 = .ok (.iload_n 1, 1) := by decide +kernel
theorem dX9_findPairs_46 : decode cX9_findPairs 46 = .ok (.iload_n 2, 1) := by decide +kernel
theorem dX9_findPairs_47 : decode cX9_findPairs 47 = .ok (.iload 4, 2) := by decide +kernel
theorem dX9_findPairs_49 : decode cX9_findPairs 49 = .ok (.invokevirtual 212, 3) := by decide +kernel
theorem dX9_findPairs_52 : decode cX9_findPairs 52 = .ok (.ifCond .eq 92, 3) := by decide +kernel
theorem dX9_findPairs_55 : decode cX9_findPairs 55 = .ok (.aload_n 0, 1) := by decide +kernel
theorem dX9_findPairs_56 : decode cX9_findPairs 56 = .ok (.iload_n 1, 1) := by decide +kernel
theorem dX9_findPairs_57 : decode cX9_findPairs 57 = .ok (.iload_n 2, 1) := by decide +kernel
theorem dX9_findPairs_58 : decode cX9_findPairs 58 = .ok (.sipush 256, 3) := by decide +kernel
theorem dX9_findPairs_61 : decode cX9_findPairs 61 = .ok (.iload 4, 2) := by decide +kernel
theorem dX9_findPairs_63 : decode cX9_findPairs 63 = .ok (.iadd, 1) := by decide +kernel
theorem dX9_findPairs_64 : decode cX9_findPairs 64 = .ok (.invokevirtual 215, 3) := by decide +kernel
theorem dX9_findPairs_67 : decode cX9_findPairs 67 = .ok (.istore 5, 2) := by decide +kernel
theorem dX9_findPairs_69 : decode cX9_findPairs 69 = .ok (.aload_n 0, 1) := by decide +kernel
theorem dX9_findPairs_70 : decode cX9_findPairs 70 = .ok (.dup, 1) := by decide +kernel
theorem dX9_findPairs_71 : decode cX9_findPairs 71 = .ok (.getfield 224, 3) := by decide +kernel
theorem dX9_findPairs_74 : decode cX9_findPairs 74 = .ok (.iconst 1, 1) := by decide +kernel
theorem dX9_findPairs_75 : decode cX9_findPairs 75 = .ok (.iadd, 1) := by decide +kernel
theorem dX9_findPairs_76 : decode cX9_findPairs 76 = .ok (.putfield 224, 3) := by decide +kernel
theorem dX9_findPairs_79 : decode cX9_findPairs 79 = .ok (.iload_n 3, 1) := by decide +kernel
theorem dX9_findPairs_80 : decode cX9_findPairs 80 = .ok (.ifCond .ne 8, 3) := by decide +kernel
theorem dX9_findPairs_83 : decode cX9_findPairs 83 = .ok (.iload 5, 2) := by decide +kernel
theorem dX9_findPairs_85 : decode cX9_findPairs 85 = .ok (.ifCond .eq 7, 3) := by decide +kernel
theorem dX9_findPairs_88 : decode cX9_findPairs 88 = .ok (.iconst 1, 1) := by decide +kernel
theorem dX9_findPairs_89 : decode cX9_findPairs 89 = .ok (.goto 4, 3) := by decide +kernel
theorem dX9_findPairs_92 : decode cX9_findPairs 92 = .ok (.iconst 0, 1) := by decide +kernel
theorem dX9_findPairs_93 : decode cX9_findPairs 93 = .ok (.istore_n 3, 1) := by decide +kernel
theorem dX9_findPairs_94 : decode cX9_findPairs 94 = .ok (.aload_n 0, 1) := by decide +kernel
theorem dX9_findPairs_95 : decode cX9_findPairs 95 = .ok (.iload 5, 2) := by decide +kernel
theorem dX9_findPairs_97 : decode cX9_findPairs 97 = .ok (.ifCond .ne 21, 3) := by decide +kernel
theorem dX9_findPairs_100 : decode cX9_findPairs 100 = .ok (.aload_n 0, 1) := by decide +kernel
theorem dX9_findPairs_101 : decode cX9_findPairs 101 = .ok (.getfield 218, 3) := by decide +kernel
theorem dX9_findPairs_104 : decode cX9_findPairs 104 = .ok (.ifCond .ne 14, 3) := by decide +kernel
theorem dX9_findPairs_107 : decode cX9_findPairs 107 = .ok (.sipush 256, 3) := by decide +kernel
theorem dX9_findPairs_110 : decode cX9_findPairs 110 = .ok (.iload_n 2, 1) := by decide +kernel
theorem dX9_findPairs_111 : decode cX9_findPairs 111 = .ok (.imul, 1) := by decide +kernel
theorem dX9_findPairs_112 : decode cX9_findPairs 112 = .ok (.iload 4, 2) := by decide +kernel
theorem dX9_findPairs_114 : decode cX9_findPairs 114 = .ok (.iadd, 1) := by decide +kernel
theorem dX9_findPairs_115 : decode cX9_findPairs 115 = .ok (.goto 7, 3) := by decide +kernel
theorem dX9_findPairs_118 : decode cX9_findPairs 118 = .ok (.aload_n 0, 1) := by decide +kernel
theorem dX9_findPairs_119 : decode cX9_findPairs 119 = .ok (.getfield 221, 3) := by decide +kernel
theorem dX9_findPairs_122 : decode cX9_findPairs 122 = .ok (.putfield 221, 3) := by decide +kernel
theorem dX9_findPairs_125 : decode cX9_findPairs 125 = .ok (.aload_n 0, 1) := by decide +kernel
theorem dX9_findPairs_126 : decode cX9_findPairs 126 = .ok (.dup, 1) := by decide +kernel
theorem dX9_findPairs_127 : decode cX9_findPairs 127 = .ok (.getfield 218, 3) := by decide +kernel
theorem dX9_findPairs_130 : decode cX9_findPairs 130 = .ok (.iload 5, 2) := by decide +kernel
theorem dX9_findPairs_132 : decode cX9_findPairs 132 = .ok (.ifCond .eq 7, 3) := by decide +kernel
theorem dX9_findPairs_135 : decode cX9_findPairs 135 = .ok (.iconst 0, 1) := by decide +kernel
theorem dX9_findPairs_136 : decode cX9_findPairs 136 = .ok (.goto 4, 3) := by decide +kernel
theorem dX9_findPairs_139 : decode cX9_findPairs 139 = .ok (.iconst 1, 1) := by decide +kernel
theorem dX9_findPairs_140 : decode cX9_findPairs 140 = .ok (.iadd, 1) := by decide +kernel
theorem dX9_findPairs_141 : decode cX9_findPairs 141 = .ok (.putfield 218, 3) := by decide +kernel
theorem dX9_findPairs_144 : decode cX9_findPairs 144 = .ok (.iinc 4 1, 3) := by decide +kernel
theorem dX9_findPairs_147 : decode cX9_findPairs 147 = .ok (.goto (-111), 3) := by decide +kernel
theorem dX9_findPairs_150 : decode cX9_findPairs 150 = .ok (.aload_n 0, 1) := by decide +kernel
theorem dX9_findPairs_151 : decode cX9_findPairs 151 = .ok (.iload_n 3, 1) := by decide +kernel
theorem dX9_findPairs_152 : decode cX9_findPairs 152 = .ok (.ifCond .ne 10, 3) := by decide +kernel
theorem dX9_findPairs_155 : decode cX9_findPairs 155 = .ok (.aload_n 0, 1) := by decide +kernel
theorem dX9_findPairs_156 : decode cX9_findPairs 156 = .ok (.getfield 227, 3) := by decide +kernel
theorem dX9_findPairs_159 : decode cX9_findPairs 159 = .ok (.ifCond .lt 10, 3) := by decide +kernel
theorem dX9_findPairs_162 : decode cX9_findPairs 162 = .ok (.aload_n 0, 1) := by decide +kernel
theorem dX9_findPairs_163 : decode cX9_findPairs 163 = .ok (.getfield 227, 3) := by decide +kernel
theorem dX9_findPairs_166 : decode cX9_findPairs 166 = .ok (.goto 4, 3) := by decide +kernel
theorem dX9_findPairs_169 : decode cX9_findPairs 169 = .ok (.iload_n 2, 1) := by decide +kernel
theorem dX9_findPairs_170 : decode cX9_findPairs 170 = .ok (.putfield 227, 3) := by decide +kernel
theorem dX9_findPairs_173 : decode cX9_findPairs 173 = .ok (.iinc 2 1, 3) := by decide +kernel
theorem dX9_findPairs_176 : decode cX9_findPairs 176 = .ok (.goto (-152), 3) := by decide +kernel
theorem dX9_findPairs_179 : decode cX9_findPairs 179 = .ok (.return_, 1) := by decide +kernel
theorem dX9_holds_0 : decode cX9_holds 0 = .ok (.aload_n 0, 1) := by decide +kernel
theorem dX9_holds_1 : decode cX9_holds 1 = .ok (.iload_n 1, 1) := by decide +kernel
theorem dX9_holds_2 : decode cX9_holds 2 = .ok (.invokevirtual 209, 3) := by decide +kernel
theorem dX9_holds_5 : decode cX9_holds 5 = .ok (.ifCond .eq 17, 3) := by decide +kernel
theorem dX9_holds_8 : decode cX9_holds 8 = .ok (.iload_n 2, 1) := by decide +kernel
theorem dX9_holds_9 : decode cX9_holds 9 = .ok (.invokestatic 111, 3) := by decide +kernel
theorem dX9_holds_12 : decode cX9_holds 12 = .ok (.ifCond .eq 10, 3) := by decide +kernel
theorem dX9_holds_15 : decode cX9_holds 15 = .ok (.iload_n 3, 1) := by decide +kernel
theorem dX9_holds_16 : decode cX9_holds 16 = .ok (.invokestatic 111, 3) := by decide +kernel
theorem dX9_holds_19 : decode cX9_holds 19 = .ok (.ifCond .ne 5, 3) := by decide +kernel
theorem dX9_holds_22 : decode cX9_holds 22 = .ok (.iconst (-1), 1) := by decide +kernel
theorem dX9_holds_23 : decode cX9_holds 23 = .ok (.ireturn, 1) := by decide +kernel
theorem dX9_holds_24 : decode cX9_holds 24 = .ok (.iload 4, 2) := by decide +kernel
theorem dX9_holds_26 : decode cX9_holds 26 = .ok (.i2l, 1) := by decide +kernel
theorem dX9_holds_27 : decode cX9_holds 27 = .ok (.lconst 0, 1) := by decide +kernel
theorem dX9_holds_28 : decode cX9_holds 28 = .ok (.ldc2_w 99, 3) := by decide +kernel
theorem dX9_holds_31 : decode cX9_holds 31 = .ok (.invokestatic 101, 3) := by decide +kernel
theorem dX9_holds_34 : decode cX9_holds 34 = .ok (.ifCond .ne 6, 3) := by decide +kernel
theorem dX9_holds_37 : decode cX9_holds 37 = .ok (.bipush (-2), 2) := by decide +kernel
theorem dX9_holds_39 : decode cX9_holds 39 = .ok (.ireturn, 1) := by decide +kernel
theorem dX9_holds_40 : decode cX9_holds 40 = .ok (.bipush 16, 2) := by decide +kernel
theorem dX9_holds_42 : decode cX9_holds 42 = .ok (.iload_n 1, 1) := by decide +kernel
theorem dX9_holds_43 : decode cX9_holds 43 = .ok (.imul, 1) := by decide +kernel
theorem dX9_holds_44 : decode cX9_holds 44 = .ok (.iconst 4, 1) := by decide +kernel
theorem dX9_holds_45 : decode cX9_holds 45 = .ok (.iload_n 2, 1) := by decide +kernel
theorem dX9_holds_46 : decode cX9_holds 46 = .ok (.imul, 1) := by decide +kernel
theorem dX9_holds_47 : decode cX9_holds 47 = .ok (.iadd, 1) := by decide +kernel
theorem dX9_holds_48 : decode cX9_holds 48 = .ok (.iload_n 3, 1) := by decide +kernel
theorem dX9_holds_49 : decode cX9_holds 49 = .ok (.iadd, 1) := by decide +kernel
theorem dX9_holds_50 : decode cX9_holds 50 = .ok (.istore 5, 2) := by decide +kernel
theorem dX9_holds_52 : decode cX9_holds 52 = .ok (.aload_n 0, 1) := by decide +kernel
theorem dX9_holds_53 : decode cX9_holds 53 = .ok (.getfield 230, 3) := by decide +kernel
theorem dX9_holds_56 : decode cX9_holds 56 = .ok (.iload 5, 2) := by decide +kernel
theorem dX9_holds_58 : decode cX9_holds 58 = .ok (.if_icmp .ne 14, 3) := by decide +kernel
theorem dX9_holds_61 : decode cX9_holds 61 = .ok (.aload_n 0, 1) := by decide +kernel
theorem dX9_holds_62 : decode cX9_holds 62 = .ok (.getfield 56, 3) := by decide +kernel
theorem dX9_holds_65 : decode cX9_holds 65 = .ok (.aload_n 0, 1) := by decide +kernel
theorem dX9_holds_66 : decode cX9_holds 66 = .ok (.getfield 93, 3) := by decide +kernel
theorem dX9_holds_69 : decode cX9_holds 69 = .ok (.if_icmp .eq 28, 3) := by decide +kernel
theorem dX9_holds_72 : decode cX9_holds 72 = .ok (.aload_n 0, 1) := by decide +kernel
theorem dX9_holds_73 : decode cX9_holds 73 = .ok (.iload_n 2, 1) := by decide +kernel
theorem dX9_holds_74 : decode cX9_holds 74 = .ok (.iload_n 3, 1) := by decide +kernel
theorem dX9_holds_75 : decode cX9_holds 75 = .ok (.invokevirtual 233, 3) := by decide +kernel
theorem dX9_holds_78 : decode cX9_holds 78 = .ok (.aload_n 0, 1) := by decide +kernel
theorem dX9_holds_79 : decode cX9_holds 79 = .ok (.iload_n 1, 1) := by decide +kernel
theorem dX9_holds_80 : decode cX9_holds 80 = .ok (.invokevirtual 237, 3) := by decide +kernel
theorem dX9_holds_83 : decode cX9_holds 83 = .ok (.aload_n 0, 1) := by decide +kernel
theorem dX9_holds_84 : decode cX9_holds 84 = .ok (.iload 5, 2) := by decide +kernel
theorem dX9_holds_86 : decode cX9_holds 86 = .ok (.putfield 230, 3) := by decide +kernel
theorem dX9_holds_89 : decode cX9_holds 89 = .ok (.aload_n 0, 1) := by decide +kernel
theorem dX9_holds_90 : decode cX9_holds 90 = .ok (.aload_n 0, 1) := by decide +kernel
theorem dX9_holds_91 : decode cX9_holds 91 = .ok (.getfield 93, 3) := by decide +kernel
theorem dX9_holds_94 : decode cX9_holds 94 = .ok (.putfield 56, 3) := by decide +kernel
theorem dX9_holds_97 : decode cX9_holds 97 = .ok (.iload 4, 2) := by decide +kernel
theorem dX9_holds_99 : decode cX9_holds 99 = .ok (.ifCond .ne 10, 3) := by decide +kernel
theorem dX9_holds_102 : decode cX9_holds 102 = .ok (.aload_n 0, 1) := by decide +kernel
theorem dX9_holds_103 : decode cX9_holds 103 = .ok (.getfield 218, 3) := by decide +kernel
theorem dX9_holds_106 : decode cX9_holds 106 = .ok (.goto 33, 3) := by decide +kernel
theorem dX9_holds_109 : decode cX9_holds 109 = .ok (.iload 4, 2) := by decide +kernel
theorem dX9_holds_111 : decode cX9_holds 111 = .ok (.iconst 1, 1) := by decide +kernel
theorem dX9_holds_112 : decode cX9_holds 112 = .ok (.if_icmp .ne 10, 3) := by decide +kernel
theorem dX9_holds_115 : decode cX9_holds 115 = .ok (.aload_n 0, 1) := by decide +kernel
theorem dX9_holds_116 : decode cX9_holds 116 = .ok (.getfield 221, 3) := by decide +kernel
theorem dX9_holds_119 : decode cX9_holds 119 = .ok (.goto 20, 3) := by decide +kernel
theorem dX9_holds_122 : decode cX9_holds 122 = .ok (.iload 4, 2) := by decide +kernel
theorem dX9_holds_124 : decode cX9_holds 124 = .ok (.iconst 2, 1) := by decide +kernel
theorem dX9_holds_125 : decode cX9_holds 125 = .ok (.if_icmp .ne 10, 3) := by decide +kernel
theorem dX9_holds_128 : decode cX9_holds 128 = .ok (.aload_n 0, 1) := by decide +kernel
theorem dX9_holds_129 : decode cX9_holds 129 = .ok (.getfield 224, 3) := by decide +kernel
theorem dX9_holds_132 : decode cX9_holds 132 = .ok (.goto 7, 3) := by decide +kernel
theorem dX9_holds_135 : decode cX9_holds 135 = .ok (.aload_n 0, 1) := by decide +kernel
theorem dX9_holds_136 : decode cX9_holds 136 = .ok (.getfield 227, 3) := by decide +kernel
theorem dX9_holds_139 : decode cX9_holds 139 = .ok (.ireturn, 1) := by decide +kernel
theorem dX9_beginBoth_0 : decode cX9_beginBoth 0 = .ok (.aload_n 0, 1) := by decide +kernel
theorem dX9_beginBoth_1 : decode cX9_beginBoth 1 = .ok (.aload_n 0, 1) := by decide +kernel
theorem dX9_beginBoth_2 : decode cX9_beginBoth 2 = .ok (.iload_n 1, 1) := by decide +kernel
theorem dX9_beginBoth_3 : decode cX9_beginBoth 3 = .ok (.iconst 0, 1) := by decide +kernel
theorem dX9_beginBoth_4 : decode cX9_beginBoth 4 = .ok (.invokevirtual 134, 3) := by decide +kernel
theorem dX9_beginBoth_7 : decode cX9_beginBoth 7 = .ok (.putfield 240, 3) := by decide +kernel
theorem dX9_beginBoth_10 : decode cX9_beginBoth 10 = .ok (.aload_n 0, 1) := by decide +kernel
theorem dX9_beginBoth_11 : decode cX9_beginBoth 11 = .ok (.iload_n 2, 1) := by decide +kernel
theorem dX9_beginBoth_12 : decode cX9_beginBoth 12 = .ok (.putfield 243, 3) := by decide +kernel
theorem dX9_beginBoth_15 : decode cX9_beginBoth 15 = .ok (.aload_n 0, 1) := by decide +kernel
theorem dX9_beginBoth_16 : decode cX9_beginBoth 16 = .ok (.iconst 0, 1) := by decide +kernel
theorem dX9_beginBoth_17 : decode cX9_beginBoth 17 = .ok (.putfield 246, 3) := by decide +kernel
theorem dX9_beginBoth_20 : decode cX9_beginBoth 20 = .ok (.aload_n 0, 1) := by decide +kernel
theorem dX9_beginBoth_21 : decode cX9_beginBoth 21 = .ok (.aload_n 0, 1) := by decide +kernel
theorem dX9_beginBoth_22 : decode cX9_beginBoth 22 = .ok (.iload_n 3, 1) := by decide +kernel
theorem dX9_beginBoth_23 : decode cX9_beginBoth 23 = .ok (.iconst 0, 1) := by decide +kernel
theorem dX9_beginBoth_24 : decode cX9_beginBoth 24 = .ok (.invokevirtual 134, 3) := by decide +kernel
theorem dX9_beginBoth_27 : decode cX9_beginBoth 27 = .ok (.putfield 249, 3) := by decide +kernel
theorem dX9_beginBoth_30 : decode cX9_beginBoth 30 = .ok (.aload_n 0, 1) := by decide +kernel
theorem dX9_beginBoth_31 : decode cX9_beginBoth 31 = .ok (.iload 4, 2) := by decide +kernel
theorem dX9_beginBoth_33 : decode cX9_beginBoth 33 = .ok (.putfield 252, 3) := by decide +kernel
theorem dX9_beginBoth_36 : decode cX9_beginBoth 36 = .ok (.aload_n 0, 1) := by decide +kernel
theorem dX9_beginBoth_37 : decode cX9_beginBoth 37 = .ok (.iconst 0, 1) := by decide +kernel
theorem dX9_beginBoth_38 : decode cX9_beginBoth 38 = .ok (.putfield 255, 3) := by decide +kernel
theorem dX9_beginBoth_41 : decode cX9_beginBoth 41 = .ok (.return_, 1) := by decide +kernel
theorem dX9_stepFirst_0 : decode cX9_stepFirst 0 = .ok (.aload_n 0, 1) := by decide +kernel
theorem dX9_stepFirst_1 : decode cX9_stepFirst 1 = .ok (.iload_n 1, 1) := by decide +kernel
theorem dX9_stepFirst_2 : decode cX9_stepFirst 2 = .ok (.aload_n 0, 1) := by decide +kernel
theorem dX9_stepFirst_3 : decode cX9_stepFirst 3 = .ok (.getfield 240, 3) := by decide +kernel
theorem dX9_stepFirst_6 : decode cX9_stepFirst 6 = .ok (.aload_n 0, 1) := by decide +kernel
theorem dX9_stepFirst_7 : decode cX9_stepFirst 7 = .ok (.getfield 243, 3) := by decide +kernel
theorem dX9_stepFirst_10 : decode cX9_stepFirst 10 = .ok (.invokevirtual 154, 3) := by decide +kernel
theorem dX9_stepFirst_13 : decode cX9_stepFirst 13 = .ok (.aload_n 0, 1) := by decide +kernel
theorem dX9_stepFirst_14 : decode cX9_stepFirst 14 = .ok (.dup, 1) := by decide +kernel
theorem dX9_stepFirst_15 : decode cX9_stepFirst 15 = .ok (.getfield 246, 3) := by decide +kernel
theorem dX9_stepFirst_18 : decode cX9_stepFirst 18 = .ok (.iconst 1, 1) := by decide +kernel
theorem dX9_stepFirst_19 : decode cX9_stepFirst 19 = .ok (.iadd, 1) := by decide +kernel
theorem dX9_stepFirst_20 : decode cX9_stepFirst 20 = .ok (.putfield 246, 3) := by decide +kernel
theorem dX9_stepFirst_23 : decode cX9_stepFirst 23 = .ok (.aload_n 0, 1) := by decide +kernel
theorem dX9_stepFirst_24 : decode cX9_stepFirst 24 = .ok (.aload_n 0, 1) := by decide +kernel
theorem dX9_stepFirst_25 : decode cX9_stepFirst 25 = .ok (.getfield 246, 3) := by decide +kernel
theorem dX9_stepFirst_28 : decode cX9_stepFirst 28 = .ok (.bipush 24, 2) := by decide +kernel
theorem dX9_stepFirst_30 : decode cX9_stepFirst 30 = .ok (.if_icmp .ne 8, 3) := by decide +kernel
theorem dX9_stepFirst_33 : decode cX9_stepFirst 33 = .ok (.bipush 12, 2) := by decide +kernel
theorem dX9_stepFirst_35 : decode cX9_stepFirst 35 = .ok (.goto 7, 3) := by decide +kernel
theorem dX9_stepFirst_38 : decode cX9_stepFirst 38 = .ok (.aload_n 0, 1) := by decide +kernel
theorem dX9_stepFirst_39 : decode cX9_stepFirst 39 = .ok (.getfield 137, 3) := by decide +kernel
theorem dX9_stepFirst_42 : decode cX9_stepFirst 42 = .ok (.putfield 240, 3) := by decide +kernel
theorem dX9_stepFirst_45 : decode cX9_stepFirst 45 = .ok (.aload_n 0, 1) := by decide +kernel
theorem dX9_stepFirst_46 : decode cX9_stepFirst 46 = .ok (.aload_n 0, 1) := by decide +kernel
theorem dX9_stepFirst_47 : decode cX9_stepFirst 47 = .ok (.getfield 131, 3) := by decide +kernel
theorem dX9_stepFirst_50 : decode cX9_stepFirst 50 = .ok (.putfield 243, 3) := by decide +kernel
theorem dX9_stepFirst_53 : decode cX9_stepFirst 53 = .ok (.return_, 1) := by decide +kernel
theorem dX9_stepSecond_0 : decode cX9_stepSecond 0 = .ok (.aload_n 0, 1) := by decide +kernel
theorem dX9_stepSecond_1 : decode cX9_stepSecond 1 = .ok (.iload_n 1, 1) := by decide +kernel
theorem dX9_stepSecond_2 : decode cX9_stepSecond 2 = .ok (.aload_n 0, 1) := by decide +kernel
theorem dX9_stepSecond_3 : decode cX9_stepSecond 3 = .ok (.getfield 249, 3) := by decide +kernel
theorem dX9_stepSecond_6 : decode cX9_stepSecond 6 = .ok (.aload_n 0, 1) := by decide +kernel
theorem dX9_stepSecond_7 : decode cX9_stepSecond 7 = .ok (.getfield 252, 3) := by decide +kernel
theorem dX9_stepSecond_10 : decode cX9_stepSecond 10 = .ok (.invokevirtual 154, 3) := by decide +kernel
theorem dX9_stepSecond_13 : decode cX9_stepSecond 13 = .ok (.aload_n 0, 1) := by decide +kernel
theorem dX9_stepSecond_14 : decode cX9_stepSecond 14 = .ok (.dup, 1) := by decide +kernel
theorem dX9_stepSecond_15 : decode cX9_stepSecond 15 = .ok (.getfield 255, 3) := by decide +kernel
theorem dX9_stepSecond_18 : decode cX9_stepSecond 18 = .ok (.iconst 1, 1) := by decide +kernel
theorem dX9_stepSecond_19 : decode cX9_stepSecond 19 = .ok (.iadd, 1) := by decide +kernel
theorem dX9_stepSecond_20 : decode cX9_stepSecond 20 = .ok (.putfield 255, 3) := by decide +kernel
theorem dX9_stepSecond_23 : decode cX9_stepSecond 23 = .ok (.aload_n 0, 1) := by decide +kernel
theorem dX9_stepSecond_24 : decode cX9_stepSecond 24 = .ok (.aload_n 0, 1) := by decide +kernel
theorem dX9_stepSecond_25 : decode cX9_stepSecond 25 = .ok (.getfield 255, 3) := by decide +kernel
theorem dX9_stepSecond_28 : decode cX9_stepSecond 28 = .ok (.bipush 24, 2) := by decide +kernel
theorem dX9_stepSecond_30 : decode cX9_stepSecond 30 = .ok (.if_icmp .ne 8, 3) := by decide +kernel
theorem dX9_stepSecond_33 : decode cX9_stepSecond 33 = .ok (.bipush 12, 2) := by decide +kernel
theorem dX9_stepSecond_35 : decode cX9_stepSecond 35 = .ok (.goto 7, 3) := by decide +kernel
theorem dX9_stepSecond_38 : decode cX9_stepSecond 38 = .ok (.aload_n 0, 1) := by decide +kernel
theorem dX9_stepSecond_39 : decode cX9_stepSecond 39 = .ok (.getfield 137, 3) := by decide +kernel
theorem dX9_stepSecond_42 : decode cX9_stepSecond 42 = .ok (.putfield 249, 3) := by decide +kernel
theorem dX9_stepSecond_45 : decode cX9_stepSecond 45 = .ok (.aload_n 0, 1) := by decide +kernel
theorem dX9_stepSecond_46 : decode cX9_stepSecond 46 = .ok (.aload_n 0, 1) := by decide +kernel
theorem dX9_stepSecond_47 : decode cX9_stepSecond 47 = .ok (.getfield 131, 3) := by decide +kernel
theorem dX9_stepSecond_50 : decode cX9_stepSecond 50 = .ok (.putfield 252, 3) := by decide +kernel
theorem dX9_stepSecond_53 : decode cX9_stepSecond 53 = .ok (.return_, 1) := by decide +kernel
theorem dX9_part_0 : decode cX9_part 0 = .ok (.iload_n 1, 1) := by decide +kernel
theorem dX9_part_1 : decode cX9_part 1 = .ok (.invokestatic 111, 3) := by decide +kernel
theorem dX9_part_4 : decode cX9_part 4 = .ok (.ifCond .eq 10, 3) := by decide +kernel
theorem dX9_part_7 : decode cX9_part 7 = .ok (.iload_n 3, 1) := by decide +kernel
theorem dX9_part_8 : decode cX9_part 8 = .ok (.invokestatic 111, 3) := by decide +kernel
theorem dX9_part_11 : decode cX9_part 11 = .ok (.ifCond .ne 5, 3) := by decide +kernel
theorem dX9_part_14 : decode cX9_part 14 = .ok (.iconst (-1), 1) := by decide +kernel
theorem dX9_part_15 : decode cX9_part 15 = .ok (.ireturn, 1) := by decide +kernel
theorem dX9_part_16 : decode cX9_part 16 = .ok (.iload_n 2, 1) := by decide +kernel
theorem dX9_part_17 : decode cX9_part 17 = .ok (.invokestatic 162, 3) := by decide +kernel
theorem dX9_part_20 : decode cX9_part 20 = .ok (.ifCond .eq 11, 3) := by decide +kernel
theorem dX9_part_23 : decode cX9_part 23 = .ok (.iload 4, 2) := by decide +kernel
theorem dX9_part_25 : decode cX9_part 25 = .ok (.invokestatic 162, 3) := by decide +kernel
theorem dX9_part_28 : decode cX9_part 28 = .ok (.ifCond .ne 6, 3) := by decide +kernel
theorem dX9_part_31 : decode cX9_part 31 = .ok (.bipush (-2), 2) := by decide +kernel
theorem dX9_part_33 : decode cX9_part 33 = .ok (.ireturn, 1) := by decide +kernel
theorem dX9_part_34 : decode cX9_part 34 = .ok (.aload_n 0, 1) := by decide +kernel
theorem dX9_part_35 : decode cX9_part 35 = .ok (.iload_n 1, 1) := by decide +kernel
theorem dX9_part_36 : decode cX9_part 36 = .ok (.invokevirtual 151, 3) := by decide +kernel
theorem dX9_part_39 : decode cX9_part 39 = .ok (.aload_n 0, 1) := by decide +kernel
theorem dX9_part_40 : decode cX9_part 40 = .ok (.iload_n 3, 1) := by decide +kernel
theorem dX9_part_41 : decode cX9_part 41 = .ok (.invokevirtual 151, 3) := by decide +kernel
theorem dX9_part_44 : decode cX9_part 44 = .ok (.aload_n 0, 1) := by decide +kernel
theorem dX9_part_45 : decode cX9_part 45 = .ok (.iload_n 1, 1) := by decide +kernel
theorem dX9_part_46 : decode cX9_part 46 = .ok (.iload_n 2, 1) := by decide +kernel
theorem dX9_part_47 : decode cX9_part 47 = .ok (.iload_n 3, 1) := by decide +kernel
theorem dX9_part_48 : decode cX9_part 48 = .ok (.iload 4, 2) := by decide +kernel
theorem dX9_part_50 : decode cX9_part 50 = .ok (.invokevirtual 258, 3) := by decide +kernel
theorem dX9_part_53 : decode cX9_part 53 = .ok (.iconst 0, 1) := by decide +kernel
theorem dX9_part_54 : decode cX9_part 54 = .ok (.istore 5, 2) := by decide +kernel
theorem dX9_part_56 : decode cX9_part 56 = .ok (.aload_n 0, 1) := by decide +kernel
theorem dX9_part_57 : decode cX9_part 57 = .ok (.getfield 240, 3) := by decide +kernel
theorem dX9_part_60 : decode cX9_part 60 = .ok (.aload_n 0, 1) := by decide +kernel
theorem dX9_part_61 : decode cX9_part 61 = .ok (.getfield 249, 3) := by decide +kernel
theorem dX9_part_64 : decode cX9_part 64 = .ok (.if_icmp .ne 28, 3) := by decide +kernel
theorem dX9_part_67 : decode cX9_part 67 = .ok (.aload_n 0, 1) := by decide +kernel
theorem dX9_part_68 : decode cX9_part 68 = .ok (.getfield 240, 3) := by decide +kernel
theorem dX9_part_71 : decode cX9_part 71 = .ok (.bipush 12, 2) := by decide +kernel
theorem dX9_part_73 : decode cX9_part 73 = .ok (.if_icmp .ge 19, 3) := by decide +kernel
theorem dX9_part_76 : decode cX9_part 76 = .ok (.aload_n 0, 1) := by decide +kernel
theorem dX9_part_77 : decode cX9_part 77 = .ok (.iload_n 1, 1) := by decide +kernel
theorem dX9_part_78 : decode cX9_part 78 = .ok (.invokevirtual 262, 3) := by decide +kernel
theorem dX9_part_81 : decode cX9_part 81 = .ok (.aload_n 0, 1) := by decide +kernel
theorem dX9_part_82 : decode cX9_part 82 = .ok (.iload_n 3, 1) := by decide +kernel
theorem dX9_part_83 : decode cX9_part 83 = .ok (.invokevirtual 265, 3) := by decide +kernel
theorem dX9_part_86 : decode cX9_part 86 = .ok (.iinc 5 1, 3) := by decide +kernel
theorem dX9_part_89 : decode cX9_part 89 = .ok (.goto (-33), 3) := by decide +kernel
theorem dX9_part_92 : decode cX9_part 92 = .ok (.aload_n 0, 1) := by decide +kernel
theorem dX9_part_93 : decode cX9_part 93 = .ok (.getfield 240, 3) := by decide +kernel
theorem dX9_part_96 : decode cX9_part 96 = .ok (.aload_n 0, 1) := by decide +kernel
theorem dX9_part_97 : decode cX9_part 97 = .ok (.getfield 249, 3) := by decide +kernel
theorem dX9_part_100 : decode cX9_part 100 = .ok (.if_icmp .ne 8, 3) := by decide +kernel
theorem dX9_part_103 : decode cX9_part 103 = .ok (.bipush (-6), 2) := by decide +kernel
theorem dX9_part_105 : decode cX9_part 105 = .ok (.goto 5, 3) := by decide +kernel
theorem dX9_part_108 : decode cX9_part 108 = .ok (.iload 5, 2) := by decide +kernel
theorem dX9_part_110 : decode cX9_part 110 = .ok (.ireturn, 1) := by decide +kernel
theorem dX9_wait_0 : decode cX9_wait 0 = .ok (.iload_n 1, 1) := by decide +kernel
theorem dX9_wait_1 : decode cX9_wait 1 = .ok (.i2l, 1) := by decide +kernel
theorem dX9_wait_2 : decode cX9_wait 2 = .ok (.lconst 0, 1) := by decide +kernel
theorem dX9_wait_3 : decode cX9_wait 3 = .ok (.ldc2_w 268, 3) := by decide +kernel
theorem dX9_wait_6 : decode cX9_wait 6 = .ok (.invokestatic 101, 3) := by decide +kernel
theorem dX9_wait_9 : decode cX9_wait 9 = .ok (.ifCond .eq 27, 3) := by decide +kernel
theorem dX9_wait_12 : decode cX9_wait 12 = .ok (.iload_n 2, 1) := by decide +kernel
theorem dX9_wait_13 : decode cX9_wait 13 = .ok (.i2l, 1) := by decide +kernel
theorem dX9_wait_14 : decode cX9_wait 14 = .ok (.lconst 0, 1) := by decide +kernel
theorem dX9_wait_15 : decode cX9_wait 15 = .ok (.ldc2_w 268, 3) := by decide +kernel
theorem dX9_wait_18 : decode cX9_wait 18 = .ok (.invokestatic 101, 3) := by decide +kernel
theorem dX9_wait_21 : decode cX9_wait 21 = .ok (.ifCond .eq 15, 3) := by decide +kernel
theorem dX9_wait_24 : decode cX9_wait 24 = .ok (.iload_n 3, 1) := by decide +kernel
theorem dX9_wait_25 : decode cX9_wait 25 = .ok (.i2l, 1) := by decide +kernel
theorem dX9_wait_26 : decode cX9_wait 26 = .ok (.lconst 0, 1) := by decide +kernel
theorem dX9_wait_27 : decode cX9_wait 27 = .ok (.ldc2_w 270, 3) := by decide +kernel
theorem dX9_wait_30 : decode cX9_wait 30 = .ok (.invokestatic 101, 3) := by decide +kernel
theorem dX9_wait_33 : decode cX9_wait 33 = .ok (.ifCond .ne 6, 3) := by decide +kernel
theorem dX9_wait_36 : decode cX9_wait 36 = .ok (.bipush (-2), 2) := by decide +kernel
theorem dX9_wait_38 : decode cX9_wait 38 = .ok (.ireturn, 1) := by decide +kernel
theorem dX9_wait_39 : decode cX9_wait 39 = .ok (.aload_n 0, 1) := by decide +kernel
theorem dX9_wait_40 : decode cX9_wait 40 = .ok (.getfield 60, 3) := by decide +kernel
theorem dX9_wait_43 : decode cX9_wait 43 = .ok (.bipush 12, 2) := by decide +kernel
theorem dX9_wait_45 : decode cX9_wait 45 = .ok (.iload_n 1, 1) := by decide +kernel
theorem dX9_wait_46 : decode cX9_wait 46 = .ok (.imul, 1) := by decide +kernel
theorem dX9_wait_47 : decode cX9_wait 47 = .ok (.iload_n 2, 1) := by decide +kernel
theorem dX9_wait_48 : decode cX9_wait 48 = .ok (.iadd, 1) := by decide +kernel
theorem dX9_wait_49 : decode cX9_wait 49 = .ok (.iaload, 1) := by decide +kernel
theorem dX9_wait_50 : decode cX9_wait 50 = .ok (.istore 4, 2) := by decide +kernel
theorem dX9_wait_52 : decode cX9_wait 52 = .ok (.aload_n 0, 1) := by decide +kernel
theorem dX9_wait_53 : decode cX9_wait 53 = .ok (.getfield 60, 3) := by decide +kernel
theorem dX9_wait_56 : decode cX9_wait 56 = .ok (.bipush 12, 2) := by decide +kernel
theorem dX9_wait_58 : decode cX9_wait 58 = .ok (.iload_n 1, 1) := by decide +kernel
theorem dX9_wait_59 : decode cX9_wait 59 = .ok (.imul, 1) := by decide +kernel
theorem dX9_wait_60 : decode cX9_wait 60 = .ok (.iload_n 2, 1) := by decide +kernel
theorem dX9_wait_61 : decode cX9_wait 61 = .ok (.iadd, 1) := by decide +kernel
theorem dX9_wait_62 : decode cX9_wait 62 = .ok (.iload_n 3, 1) := by decide +kernel
theorem dX9_wait_63 : decode cX9_wait 63 = .ok (.iastore, 1) := by decide +kernel
theorem dX9_wait_64 : decode cX9_wait 64 = .ok (.aload_n 0, 1) := by decide +kernel
theorem dX9_wait_65 : decode cX9_wait 65 = .ok (.dup, 1) := by decide +kernel
theorem dX9_wait_66 : decode cX9_wait 66 = .ok (.getfield 96, 3) := by decide +kernel
theorem dX9_wait_69 : decode cX9_wait 69 = .ok (.iconst 1, 1) := by decide +kernel
theorem dX9_wait_70 : decode cX9_wait 70 = .ok (.iadd, 1) := by decide +kernel
theorem dX9_wait_71 : decode cX9_wait 71 = .ok (.putfield 96, 3) := by decide +kernel
theorem dX9_wait_74 : decode cX9_wait 74 = .ok (.iload 4, 2) := by decide +kernel
theorem dX9_wait_76 : decode cX9_wait 76 = .ok (.ireturn, 1) := by decide +kernel
theorem dX9_moverAt_0 : decode cX9_moverAt 0 = .ok (.iload_n 1, 1) := by decide +kernel
theorem dX9_moverAt_1 : decode cX9_moverAt 1 = .ok (.bipush 12, 2) := by decide +kernel
theorem dX9_moverAt_3 : decode cX9_moverAt 3 = .ok (.if_icmp .eq 9, 3) := by decide +kernel
theorem dX9_moverAt_6 : decode cX9_moverAt 6 = .ok (.iload_n 2, 1) := by decide +kernel
theorem dX9_moverAt_7 : decode cX9_moverAt 7 = .ok (.bipush 12, 2) := by decide +kernel
theorem dX9_moverAt_9 : decode cX9_moverAt 9 = .ok (.if_icmp .ne 24, 3) := by decide +kernel
theorem dX9_moverAt_12 : decode cX9_moverAt 12 = .ok (.iload_n 1, 1) := by decide +kernel
theorem dX9_moverAt_13 : decode cX9_moverAt 13 = .ok (.iload_n 2, 1) := by decide +kernel
theorem dX9_moverAt_14 : decode cX9_moverAt 14 = .ok (.if_icmp .ne 7, 3) := by decide +kernel
theorem dX9_moverAt_17 : decode cX9_moverAt 17 = .ok (.iconst 3, 1) := by decide +kernel
theorem dX9_moverAt_18 : decode cX9_moverAt 18 = .ok (.goto 14, 3) := by decide +kernel
theorem dX9_moverAt_21 : decode cX9_moverAt 21 = .ok (.iload_n 1, 1) := by decide +kernel
theorem dX9_moverAt_22 : decode cX9_moverAt 22 = .ok (.bipush 12, 2) := by decide +kernel
theorem dX9_moverAt_24 : decode cX9_moverAt 24 = .ok (.if_icmp .ne 7, 3) := by decide +kernel
theorem dX9_moverAt_27 : decode cX9_moverAt 27 = .ok (.iconst 2, 1) := by decide +kernel
theorem dX9_moverAt_28 : decode cX9_moverAt 28 = .ok (.goto 4, 3) := by decide +kernel
theorem dX9_moverAt_31 : decode cX9_moverAt 31 = .ok (.iconst 1, 1) := by decide +kernel
theorem dX9_moverAt_32 : decode cX9_moverAt 32 = .ok (.ireturn, 1) := by decide +kernel
theorem dX9_moverAt_33 : decode cX9_moverAt 33 = .ok (.aload_n 0, 1) := by decide +kernel
theorem dX9_moverAt_34 : decode cX9_moverAt 34 = .ok (.getfield 60, 3) := by decide +kernel
theorem dX9_moverAt_37 : decode cX9_moverAt 37 = .ok (.bipush 12, 2) := by decide +kernel
theorem dX9_moverAt_39 : decode cX9_moverAt 39 = .ok (.iload_n 1, 1) := by decide +kernel
theorem dX9_moverAt_40 : decode cX9_moverAt 40 = .ok (.imul, 1) := by decide +kernel
theorem dX9_moverAt_41 : decode cX9_moverAt 41 = .ok (.iload_n 2, 1) := by decide +kernel
theorem dX9_moverAt_42 : decode cX9_moverAt 42 = .ok (.iadd, 1) := by decide +kernel
theorem dX9_moverAt_43 : decode cX9_moverAt 43 = .ok (.iaload, 1) := by decide +kernel
theorem dX9_moverAt_44 : decode cX9_moverAt 44 = .ok (.ireturn, 1) := by decide +kernel
theorem dX9_saysOf_0 : decode cX9_saysOf 0 = .ok (.iconst 0, 1) := by decide +kernel
theorem dX9_saysOf_1 : decode cX9_saysOf 1 = .ok (.istore_n 2, 1) := by decide +kernel
theorem dX9_saysOf_2 : decode cX9_saysOf 2 = .ok (.iconst 0, 1) := by decide +kernel
theorem dX9_saysOf_3 : decode cX9_saysOf 3 = .ok (.istore_n 3, 1) := by decide +kernel
theorem dX9_saysOf_4 : decode cX9_saysOf 4 = .ok (.iload_n 3, 1) := by decide +kernel
theorem dX9_saysOf_5 : decode cX9_saysOf 5 = .ok (.iconst 4, 1) := by decide +kernel
theorem dX9_saysOf_6 : decode cX9_saysOf 6 = .ok (.if_icmp .ge 76, 3) := by decide +kernel
theorem dX9_saysOf_9 : decode cX9_saysOf 9 = .ok (.iload_n 0, 1) := by decide +kernel
theorem dX9_saysOf_10 : decode cX9_saysOf 10 = .ok (.iload_n 3, 1) := by decide +kernel
theorem dX9_saysOf_11 : decode cX9_saysOf 11 = .ok (.invokestatic 128, 3) := by decide +kernel
theorem dX9_saysOf_14 : decode cX9_saysOf 14 = .ok (.istore 4, 2) := by decide +kernel
theorem dX9_saysOf_16 : decode cX9_saysOf 16 = .ok (.iload_n 1, 1) := by decide +kernel
theorem dX9_saysOf_17 : decode cX9_saysOf 17 = .ok (.iload_n 3, 1) := by decide +kernel
theorem dX9_saysOf_18 : decode cX9_saysOf 18 = .ok (.invokestatic 128, 3) := by decide +kernel
theorem dX9_saysOf_21 : decode cX9_saysOf 21 = .ok (.istore 5, 2) := by decide +kernel
theorem dX9_saysOf_23 : decode cX9_saysOf 23 = .ok (.iload_n 2, 1) := by decide +kernel
theorem dX9_saysOf_24 : decode cX9_saysOf 24 = .ok (.iload 4, 2) := by decide +kernel
theorem dX9_saysOf_26 : decode cX9_saysOf 26 = .ok (.iload 5, 2) := by decide +kernel
theorem dX9_saysOf_28 : decode cX9_saysOf 28 = .ok (.if_icmp .ne 11, 3) := by decide +kernel
theorem dX9_saysOf_31 : decode cX9_saysOf 31 = .ok (.iconst 1, 1) := by decide +kernel
theorem dX9_saysOf_32 : decode cX9_saysOf 32 = .ok (.iconst 3, 1) := by decide +kernel
theorem dX9_saysOf_33 : decode cX9_saysOf 33 = .ok (.iload_n 3, 1) := by decide +kernel
theorem dX9_saysOf_34 : decode cX9_saysOf 34 = .ok (.imul, 1) := by decide +kernel
theorem dX9_saysOf_35 : decode cX9_saysOf 35 = .ok (.ishl, 1) := by decide +kernel
theorem dX9_saysOf_36 : decode cX9_saysOf 36 = .ok (.goto 4, 3) := by decide +kernel
theorem dX9_saysOf_39 : decode cX9_saysOf 39 = .ok (.iconst 0, 1) := by decide +kernel
theorem dX9_saysOf_40 : decode cX9_saysOf 40 = .ok (.iload 4, 2) := by decide +kernel
theorem dX9_saysOf_42 : decode cX9_saysOf 42 = .ok (.iload 5, 2) := by decide +kernel
theorem dX9_saysOf_44 : decode cX9_saysOf 44 = .ok (.if_icmp .lt 11, 3) := by decide +kernel
theorem dX9_saysOf_47 : decode cX9_saysOf 47 = .ok (.iconst 2, 1) := by decide +kernel
theorem dX9_saysOf_48 : decode cX9_saysOf 48 = .ok (.iconst 3, 1) := by decide +kernel
theorem dX9_saysOf_49 : decode cX9_saysOf 49 = .ok (.iload_n 3, 1) := by decide +kernel
theorem dX9_saysOf_50 : decode cX9_saysOf 50 = .ok (.imul, 1) := by decide +kernel
theorem dX9_saysOf_51 : decode cX9_saysOf 51 = .ok (.ishl, 1) := by decide +kernel
theorem dX9_saysOf_52 : decode cX9_saysOf 52 = .ok (.goto 4, 3) := by decide +kernel
theorem dX9_saysOf_55 : decode cX9_saysOf 55 = .ok (.iconst 0, 1) := by decide +kernel
theorem dX9_saysOf_56 : decode cX9_saysOf 56 = .ok (.ior, 1) := by decide +kernel
theorem dX9_saysOf_57 : decode cX9_saysOf 57 = .ok (.iload 4, 2) := by decide +kernel
theorem dX9_saysOf_59 : decode cX9_saysOf 59 = .ok (.iload 5, 2) := by decide +kernel
theorem dX9_saysOf_61 : decode cX9_saysOf 61 = .ok (.if_icmp .gt 11, 3) := by decide +kernel
theorem dX9_saysOf_64 : decode cX9_saysOf 64 = .ok (.iconst 4, 1) := by decide +kernel
theorem dX9_saysOf_65 : decode cX9_saysOf 65 = .ok (.iconst 3, 1) := by decide +kernel
theorem dX9_saysOf_66 : decode cX9_saysOf 66 = .ok (.iload_n 3, 1) := by decide +kernel
theorem dX9_saysOf_67 : decode cX9_saysOf 67 = .ok (.imul, 1) := by decide +kernel
theorem dX9_saysOf_68 : decode cX9_saysOf 68 = .ok (.ishl, 1) := by decide +kernel
theorem dX9_saysOf_69 : decode cX9_saysOf 69 = .ok (.goto 4, 3) := by decide +kernel
theorem dX9_saysOf_72 : decode cX9_saysOf 72 = .ok (.iconst 0, 1) := by decide +kernel
theorem dX9_saysOf_73 : decode cX9_saysOf 73 = .ok (.ior, 1) := by decide +kernel
theorem dX9_saysOf_74 : decode cX9_saysOf 74 = .ok (.ior, 1) := by decide +kernel
theorem dX9_saysOf_75 : decode cX9_saysOf 75 = .ok (.istore_n 2, 1) := by decide +kernel
theorem dX9_saysOf_76 : decode cX9_saysOf 76 = .ok (.iinc 3 1, 3) := by decide +kernel
theorem dX9_saysOf_79 : decode cX9_saysOf 79 = .ok (.goto (-75), 3) := by decide +kernel
theorem dX9_saysOf_82 : decode cX9_saysOf 82 = .ok (.iload_n 2, 1) := by decide +kernel
theorem dX9_saysOf_83 : decode cX9_saysOf 83 = .ok (.ireturn, 1) := by decide +kernel
theorem dX9_standThere_0 : decode cX9_standThere 0 = .ok (.bipush 13, 2) := by decide +kernel
theorem dX9_standThere_2 : decode cX9_standThere 2 = .ok (.aload_n 0, 1) := by decide +kernel
theorem dX9_standThere_3 : decode cX9_standThere 3 = .ok (.getfield 240, 3) := by decide +kernel
theorem dX9_standThere_6 : decode cX9_standThere 6 = .ok (.imul, 1) := by decide +kernel
theorem dX9_standThere_7 : decode cX9_standThere 7 = .ok (.aload_n 0, 1) := by decide +kernel
theorem dX9_standThere_8 : decode cX9_standThere 8 = .ok (.getfield 249, 3) := by decide +kernel
theorem dX9_standThere_11 : decode cX9_standThere 11 = .ok (.iadd, 1) := by decide +kernel
theorem dX9_standThere_12 : decode cX9_standThere 12 = .ok (.istore_n 1, 1) := by decide +kernel
theorem dX9_standThere_13 : decode cX9_standThere 13 = .ok (.aload_n 0, 1) := by decide +kernel
theorem dX9_standThere_14 : decode cX9_standThere 14 = .ok (.getfield 69, 3) := by decide +kernel
theorem dX9_standThere_17 : decode cX9_standThere 17 = .ok (.iload_n 1, 1) := by decide +kernel
theorem dX9_standThere_18 : decode cX9_standThere 18 = .ok (.iconst 1, 1) := by decide +kernel
theorem dX9_standThere_19 : decode cX9_standThere 19 = .ok (.bastore, 1) := by decide +kernel
theorem dX9_standThere_20 : decode cX9_standThere 20 = .ok (.aload_n 0, 1) := by decide +kernel
theorem dX9_standThere_21 : decode cX9_standThere 21 = .ok (.getfield 66, 3) := by decide +kernel
theorem dX9_standThere_24 : decode cX9_standThere 24 = .ok (.iload_n 1, 1) := by decide +kernel
theorem dX9_standThere_25 : decode cX9_standThere 25 = .ok (.dup2, 1) := by decide +kernel
theorem dX9_standThere_26 : decode cX9_standThere 26 = .ok (.iaload, 1) := by decide +kernel
theorem dX9_standThere_27 : decode cX9_standThere 27 = .ok (.aload_n 0, 1) := by decide +kernel
theorem dX9_standThere_28 : decode cX9_standThere 28 = .ok (.getfield 73, 3) := by decide +kernel
theorem dX9_standThere_31 : decode cX9_standThere 31 = .ok (.sipush 256, 3) := by decide +kernel
theorem dX9_standThere_34 : decode cX9_standThere 34 = .ok (.aload_n 0, 1) := by decide +kernel
theorem dX9_standThere_35 : decode cX9_standThere 35 = .ok (.getfield 243, 3) := by decide +kernel
theorem dX9_standThere_38 : decode cX9_standThere 38 = .ok (.imul, 1) := by decide +kernel
theorem dX9_standThere_39 : decode cX9_standThere 39 = .ok (.aload_n 0, 1) := by decide +kernel
theorem dX9_standThere_40 : decode cX9_standThere 40 = .ok (.getfield 252, 3) := by decide +kernel
theorem dX9_standThere_43 : decode cX9_standThere 43 = .ok (.iadd, 1) := by decide +kernel
theorem dX9_standThere_44 : decode cX9_standThere 44 = .ok (.iaload, 1) := by decide +kernel
theorem dX9_standThere_45 : decode cX9_standThere 45 = .ok (.iand, 1) := by decide +kernel
theorem dX9_standThere_46 : decode cX9_standThere 46 = .ok (.iastore, 1) := by decide +kernel
theorem dX9_standThere_47 : decode cX9_standThere 47 = .ok (.return_, 1) := by decide +kernel
theorem dX9_walkOne_0 : decode cX9_walkOne 0 = .ok (.iconst 0, 1) := by decide +kernel
theorem dX9_walkOne_1 : decode cX9_walkOne 1 = .ok (.istore_n 3, 1) := by decide +kernel
theorem dX9_walkOne_2 : decode cX9_walkOne 2 = .ok (.aload_n 0, 1) := by decide +kernel
theorem dX9_walkOne_3 : decode cX9_walkOne 3 = .ok (.invokevirtual 272, 3) := by decide +kernel
theorem dX9_walkOne_6 : decode cX9_walkOne 6 = .ok (.aload_n 0, 1) := by decide +kernel
theorem dX9_walkOne_7 : decode cX9_walkOne 7 = .ok (.aload_n 0, 1) := by decide +kernel
theorem dX9_walkOne_8 : decode cX9_walkOne 8 = .ok (.getfield 240, 3) := by decide +kernel
theorem dX9_walkOne_11 : decode cX9_walkOne 11 = .ok (.aload_n 0, 1) := by decide +kernel
theorem dX9_walkOne_12 : decode cX9_walkOne 12 = .ok (.getfield 249, 3) := by decide +kernel
theorem dX9_walkOne_15 : decode cX9_walkOne 15 = .ok (.invokevirtual 275, 3) := by decide +kernel
theorem dX9_walkOne_18 : decode cX9_walkOne 18 = .ok (.istore 4, 2) := by decide +kernel
theorem dX9_walkOne_20 : decode cX9_walkOne 20 = .ok (.iload 4, 2) := by decide +kernel
theorem dX9_walkOne_22 : decode cX9_walkOne 22 = .ok (.iconst 3, 1) := by decide +kernel
theorem dX9_walkOne_23 : decode cX9_walkOne 23 = .ok (.if_icmp .ge 49, 3) := by decide +kernel
theorem dX9_walkOne_26 : decode cX9_walkOne 26 = .ok (.iload 4, 2) := by decide +kernel
theorem dX9_walkOne_28 : decode cX9_walkOne 28 = .ok (.iconst 2, 1) := by decide +kernel
theorem dX9_walkOne_29 : decode cX9_walkOne 29 = .ok (.if_icmp .eq 8, 3) := by decide +kernel
theorem dX9_walkOne_32 : decode cX9_walkOne 32 = .ok (.aload_n 0, 1) := by decide +kernel
theorem dX9_walkOne_33 : decode cX9_walkOne 33 = .ok (.iload_n 1, 1) := by decide +kernel
theorem dX9_walkOne_34 : decode cX9_walkOne 34 = .ok (.invokevirtual 262, 3) := by decide +kernel
theorem dX9_walkOne_37 : decode cX9_walkOne 37 = .ok (.iload 4, 2) := by decide +kernel
theorem dX9_walkOne_39 : decode cX9_walkOne 39 = .ok (.iconst 1, 1) := by decide +kernel
theorem dX9_walkOne_40 : decode cX9_walkOne 40 = .ok (.if_icmp .eq 8, 3) := by decide +kernel
theorem dX9_walkOne_43 : decode cX9_walkOne 43 = .ok (.aload_n 0, 1) := by decide +kernel
theorem dX9_walkOne_44 : decode cX9_walkOne 44 = .ok (.iload_n 2, 1) := by decide +kernel
theorem dX9_walkOne_45 : decode cX9_walkOne 45 = .ok (.invokevirtual 265, 3) := by decide +kernel
theorem dX9_walkOne_48 : decode cX9_walkOne 48 = .ok (.iinc 3 1, 3) := by decide +kernel
theorem dX9_walkOne_51 : decode cX9_walkOne 51 = .ok (.aload_n 0, 1) := by decide +kernel
theorem dX9_walkOne_52 : decode cX9_walkOne 52 = .ok (.invokevirtual 272, 3) := by decide +kernel
theorem dX9_walkOne_55 : decode cX9_walkOne 55 = .ok (.aload_n 0, 1) := by decide +kernel
theorem dX9_walkOne_56 : decode cX9_walkOne 56 = .ok (.aload_n 0, 1) := by decide +kernel
theorem dX9_walkOne_57 : decode cX9_walkOne 57 = .ok (.getfield 240, 3) := by decide +kernel
theorem dX9_walkOne_60 : decode cX9_walkOne 60 = .ok (.aload_n 0, 1) := by decide +kernel
theorem dX9_walkOne_61 : decode cX9_walkOne 61 = .ok (.getfield 249, 3) := by decide +kernel
theorem dX9_walkOne_64 : decode cX9_walkOne 64 = .ok (.invokevirtual 275, 3) := by decide +kernel
theorem dX9_walkOne_67 : decode cX9_walkOne 67 = .ok (.istore 4, 2) := by decide +kernel
theorem dX9_walkOne_69 : decode cX9_walkOne 69 = .ok (.goto (-49), 3) := by decide +kernel
theorem dX9_walkOne_72 : decode cX9_walkOne 72 = .ok (.aload_n 0, 1) := by decide +kernel
theorem dX9_walkOne_73 : decode cX9_walkOne 73 = .ok (.iload_n 3, 1) := by decide +kernel
theorem dX9_walkOne_74 : decode cX9_walkOne 74 = .ok (.aload_n 0, 1) := by decide +kernel
theorem dX9_walkOne_75 : decode cX9_walkOne 75 = .ok (.getfield 278, 3) := by decide +kernel
theorem dX9_walkOne_78 : decode cX9_walkOne 78 = .ok (.if_icmp .le 7, 3) := by decide +kernel
theorem dX9_walkOne_81 : decode cX9_walkOne 81 = .ok (.iload_n 3, 1) := by decide +kernel
theorem dX9_walkOne_82 : decode cX9_walkOne 82 = .ok (.goto 7, 3) := by decide +kernel
theorem dX9_walkOne_85 : decode cX9_walkOne 85 = .ok (.aload_n 0, 1) := by decide +kernel
theorem dX9_walkOne_86 : decode cX9_walkOne 86 = .ok (.getfield 278, 3) := by decide +kernel
theorem dX9_walkOne_89 : decode cX9_walkOne 89 = .ok (.putfield 278, 3) := by decide +kernel
theorem dX9_walkOne_92 : decode cX9_walkOne 92 = .ok (.return_, 1) := by decide +kernel
theorem dX9_walkAll_0 : decode cX9_walkAll 0 = .ok (.bipush 16, 2) := by decide +kernel
theorem dX9_walkAll_2 : decode cX9_walkAll 2 = .ok (.iload_n 1, 1) := by decide +kernel
theorem dX9_walkAll_3 : decode cX9_walkAll 3 = .ok (.imul, 1) := by decide +kernel
theorem dX9_walkAll_4 : decode cX9_walkAll 4 = .ok (.iconst 4, 1) := by decide +kernel
theorem dX9_walkAll_5 : decode cX9_walkAll 5 = .ok (.iload_n 2, 1) := by decide +kernel
theorem dX9_walkAll_6 : decode cX9_walkAll 6 = .ok (.imul, 1) := by decide +kernel
theorem dX9_walkAll_7 : decode cX9_walkAll 7 = .ok (.iadd, 1) := by decide +kernel
theorem dX9_walkAll_8 : decode cX9_walkAll 8 = .ok (.iload_n 3, 1) := by decide +kernel
theorem dX9_walkAll_9 : decode cX9_walkAll 9 = .ok (.iadd, 1) := by decide +kernel
theorem dX9_walkAll_10 : decode cX9_walkAll 10 = .ok (.istore 4, 2) := by decide +kernel
theorem dX9_walkAll_12 : decode cX9_walkAll 12 = .ok (.aload_n 0, 1) := by decide +kernel
theorem dX9_walkAll_13 : decode cX9_walkAll 13 = .ok (.getfield 281, 3) := by decide +kernel
theorem dX9_walkAll_16 : decode cX9_walkAll 16 = .ok (.iload 4, 2) := by decide +kernel
theorem dX9_walkAll_18 : decode cX9_walkAll 18 = .ok (.if_icmp .ne 15, 3) := by decide +kernel
theorem dX9_walkAll_21 : decode cX9_walkAll 21 = .ok (.aload_n 0, 1) := by decide +kernel
theorem dX9_walkAll_22 : decode cX9_walkAll 22 = .ok (.getfield 76, 3) := by decide +kernel
theorem dX9_walkAll_25 : decode cX9_walkAll 25 = .ok (.aload_n 0, 1) := by decide +kernel
theorem dX9_walkAll_26 : decode cX9_walkAll 26 = .ok (.getfield 96, 3) := by decide +kernel
theorem dX9_walkAll_29 : decode cX9_walkAll 29 = .ok (.if_icmp .ne 4, 3) := by decide +kernel
theorem dX9_walkAll_32 : decode cX9_walkAll 32 = .ok (.return_, 1) := by decide +kernel
theorem dX9_walkAll_33 : decode cX9_walkAll 33 = .ok (.aload_n 0, 1) := by decide +kernel
theorem dX9_walkAll_34 : decode cX9_walkAll 34 = .ok (.iload 4, 2) := by decide +kernel
theorem dX9_walkAll_36 : decode cX9_walkAll 36 = .ok (.putfield 281, 3) := by decide +kernel
theorem dX9_walkAll_39 : decode cX9_walkAll 39 = .ok (.aload_n 0, 1) := by decide +kernel
theorem dX9_walkAll_40 : decode cX9_walkAll 40 = .ok (.aload_n 0, 1) := by decide +kernel
theorem dX9_walkAll_41 : decode cX9_walkAll 41 = .ok (.getfield 96, 3) := by decide +kernel
theorem dX9_walkAll_44 : decode cX9_walkAll 44 = .ok (.putfield 76, 3) := by decide +kernel
theorem dX9_walkAll_47 : decode cX9_walkAll 47 = .ok (.aload_n 0, 1) := by decide +kernel
theorem dX9_walkAll_48 : decode cX9_walkAll 48 = .ok (.iload_n 2, 1) := by decide +kernel
theorem dX9_walkAll_49 : decode cX9_walkAll 49 = .ok (.invokevirtual 151, 3) := by decide +kernel
theorem dX9_walkAll_52 : decode cX9_walkAll 52 = .ok (.aload_n 0, 1) := by decide +kernel
theorem dX9_walkAll_53 : decode cX9_walkAll 53 = .ok (.iload_n 3, 1) := by decide +kernel
theorem dX9_walkAll_54 : decode cX9_walkAll 54 = .ok (.invokevirtual 151, 3) := by decide +kernel
theorem dX9_walkAll_57 : decode cX9_walkAll 57 = .ok (.iconst 0, 1) := by decide +kernel
theorem dX9_walkAll_58 : decode cX9_walkAll 58 = .ok (.istore 5, 2) := by decide +kernel
theorem dX9_walkAll_60 : decode cX9_walkAll 60 = .ok (.iload 5, 2) := by decide +kernel
theorem dX9_walkAll_62 : decode cX9_walkAll 62 = .ok (.sipush 169, 3) := by decide +kernel
theorem dX9_walkAll_65 : decode cX9_walkAll 65 = .ok (.if_icmp .ge 27, 3) := by decide +kernel
theorem dX9_walkAll_68 : decode cX9_walkAll 68 = .ok (.aload_n 0, 1) := by decide +kernel
theorem dX9_walkAll_69 : decode cX9_walkAll 69 = .ok (.getfield 69, 3) := by decide +kernel
theorem dX9_walkAll_72 : decode cX9_walkAll 72 = .ok (.iload 5, 2) := by decide +kernel
theorem dX9_walkAll_74 : decode cX9_walkAll 74 = .ok (.iconst 0, 1) := by decide +kernel
theorem dX9_walkAll_75 : decode cX9_walkAll 75 = .ok (.bastore, 1) := by decide +kernel
theorem dX9_walkAll_76 : decode cX9_walkAll 76 = .ok (.aload_n 0, 1) := by decide +kernel
theorem dX9_walkAll_77 : decode cX9_walkAll 77 = .ok (.getfield 66, 3) := by decide +kernel
theorem dX9_walkAll_80 : decode cX9_walkAll 80 = .ok (.iload 5, 2) := by decide +kernel
theorem dX9_walkAll_82 : decode cX9_walkAll 82 = .ok (.sipush 4095, 3) := by decide +kernel
theorem dX9_walkAll_85 : decode cX9_walkAll 85 = .ok (.iastore, 1) := by decide +kernel
theorem dX9_walkAll_86 : decode cX9_walkAll 86 = .ok (.iinc 5 1, 3) := by decide +kernel
theorem dX9_walkAll_89 : decode cX9_walkAll 89 = .ok (.goto (-29), 3) := by decide +kernel
theorem dX9_walkAll_92 : decode cX9_walkAll 92 = .ok (.aload_n 0, 1) := by decide +kernel
theorem dX9_walkAll_93 : decode cX9_walkAll 93 = .ok (.iconst 0, 1) := by decide +kernel
theorem dX9_walkAll_94 : decode cX9_walkAll 94 = .ok (.putfield 278, 3) := by decide +kernel
theorem dX9_walkAll_97 : decode cX9_walkAll 97 = .ok (.iconst 0, 1) := by decide +kernel
theorem dX9_walkAll_98 : decode cX9_walkAll 98 = .ok (.istore 5, 2) := by decide +kernel
theorem dX9_walkAll_100 : decode cX9_walkAll 100 = .ok (.iload 5, 2) := by decide +kernel
theorem dX9_walkAll_102 : decode cX9_walkAll 102 = .ok (.sipush 256, 3) := by decide +kernel
theorem dX9_walkAll_105 : decode cX9_walkAll 105 = .ok (.if_icmp .ge 54, 3) := by decide +kernel
theorem dX9_walkAll_108 : decode cX9_walkAll 108 = .ok (.iconst 0, 1) := by decide +kernel
theorem dX9_walkAll_109 : decode cX9_walkAll 109 = .ok (.istore 6, 2) := by decide +kernel
theorem dX9_walkAll_111 : decode cX9_walkAll 111 = .ok (.iload 6, 2) := by decide +kernel
theorem dX9_walkAll_113 : decode cX9_walkAll 113 = .ok (.sipush 256, 3) := by decide +kernel
theorem dX9_walkAll_116 : decode cX9_walkAll 116 = .ok (.if_icmp .ge 37, 3) := by decide +kernel
theorem dX9_walkAll_119 : decode cX9_walkAll 119 = .ok (.aload_n 0, 1) := by decide +kernel
theorem dX9_walkAll_120 : decode cX9_walkAll 120 = .ok (.iload_n 1, 1) := by decide +kernel
theorem dX9_walkAll_121 : decode cX9_walkAll 121 = .ok (.iload 5, 2) := by decide +kernel
theorem dX9_walkAll_123 : decode cX9_walkAll 123 = .ok (.iload 6, 2) := by decide +kernel
theorem dX9_walkAll_125 : decode cX9_walkAll 125 = .ok (.invokevirtual 212, 3) := by decide +kernel
theorem dX9_walkAll_128 : decode cX9_walkAll 128 = .ok (.ifCond .eq 19, 3) := by decide +kernel
theorem dX9_walkAll_131 : decode cX9_walkAll 131 = .ok (.aload_n 0, 1) := by decide +kernel
theorem dX9_walkAll_132 : decode cX9_walkAll 132 = .ok (.iload_n 2, 1) := by decide +kernel
theorem dX9_walkAll_133 : decode cX9_walkAll 133 = .ok (.iload 5, 2) := by decide +kernel
theorem dX9_walkAll_135 : decode cX9_walkAll 135 = .ok (.iload_n 3, 1) := by decide +kernel
theorem dX9_walkAll_136 : decode cX9_walkAll 136 = .ok (.iload 6, 2) := by decide +kernel
theorem dX9_walkAll_138 : decode cX9_walkAll 138 = .ok (.invokevirtual 258, 3) := by decide +kernel
theorem dX9_walkAll_141 : decode cX9_walkAll 141 = .ok (.aload_n 0, 1) := by decide +kernel
theorem dX9_walkAll_142 : decode cX9_walkAll 142 = .ok (.iload_n 2, 1) := by decide +kernel
theorem dX9_walkAll_143 : decode cX9_walkAll 143 = .ok (.iload_n 3, 1) := by decide +kernel
theorem dX9_walkAll_144 : decode cX9_walkAll 144 = .ok (.invokevirtual 284, 3) := by decide +kernel
theorem dX9_walkAll_147 : decode cX9_walkAll 147 = .ok (.iinc 6 1, 3) := by decide +kernel
theorem dX9_walkAll_150 : decode cX9_walkAll 150 = .ok (.goto (-39), 3) := by decide +kernel
theorem dX9_walkAll_153 : decode cX9_walkAll 153 = .ok (.iinc 5 1, 3) := by decide +kernel
theorem dX9_walkAll_156 : decode cX9_walkAll 156 = .ok (.goto (-56), 3) := by decide +kernel
theorem dX9_walkAll_159 : decode cX9_walkAll 159 = .ok (.return_, 1) := by decide +kernel
theorem dX9_walk_0 : decode cX9_walk 0 = .ok (.aload_n 0, 1) := by decide +kernel
theorem dX9_walk_1 : decode cX9_walk 1 = .ok (.iload_n 1, 1) := by decide +kernel
theorem dX9_walk_2 : decode cX9_walk 2 = .ok (.invokevirtual 209, 3) := by decide +kernel
theorem dX9_walk_5 : decode cX9_walk 5 = .ok (.ifCond .eq 17, 3) := by decide +kernel
theorem dX9_walk_8 : decode cX9_walk 8 = .ok (.iload_n 2, 1) := by decide +kernel
theorem dX9_walk_9 : decode cX9_walk 9 = .ok (.invokestatic 111, 3) := by decide +kernel
theorem dX9_walk_12 : decode cX9_walk 12 = .ok (.ifCond .eq 10, 3) := by decide +kernel
theorem dX9_walk_15 : decode cX9_walk 15 = .ok (.iload_n 3, 1) := by decide +kernel
theorem dX9_walk_16 : decode cX9_walk 16 = .ok (.invokestatic 111, 3) := by decide +kernel
theorem dX9_walk_19 : decode cX9_walk 19 = .ok (.ifCond .ne 5, 3) := by decide +kernel
theorem dX9_walk_22 : decode cX9_walk 22 = .ok (.iconst (-1), 1) := by decide +kernel
theorem dX9_walk_23 : decode cX9_walk 23 = .ok (.ireturn, 1) := by decide +kernel
theorem dX9_walk_24 : decode cX9_walk 24 = .ok (.iload 4, 2) := by decide +kernel
theorem dX9_walk_26 : decode cX9_walk 26 = .ok (.i2l, 1) := by decide +kernel
theorem dX9_walk_27 : decode cX9_walk 27 = .ok (.lconst 0, 1) := by decide +kernel
theorem dX9_walk_28 : decode cX9_walk 28 = .ok (.ldc2_w 270, 3) := by decide +kernel
theorem dX9_walk_31 : decode cX9_walk 31 = .ok (.invokestatic 101, 3) := by decide +kernel
theorem dX9_walk_34 : decode cX9_walk 34 = .ok (.ifCond .ne 6, 3) := by decide +kernel
theorem dX9_walk_37 : decode cX9_walk 37 = .ok (.bipush (-2), 2) := by decide +kernel
theorem dX9_walk_39 : decode cX9_walk 39 = .ok (.ireturn, 1) := by decide +kernel
theorem dX9_walk_40 : decode cX9_walk 40 = .ok (.aload_n 0, 1) := by decide +kernel
theorem dX9_walk_41 : decode cX9_walk 41 = .ok (.iload_n 1, 1) := by decide +kernel
theorem dX9_walk_42 : decode cX9_walk 42 = .ok (.iload_n 2, 1) := by decide +kernel
theorem dX9_walk_43 : decode cX9_walk 43 = .ok (.iload_n 3, 1) := by decide +kernel
theorem dX9_walk_44 : decode cX9_walk 44 = .ok (.invokevirtual 287, 3) := by decide +kernel
theorem dX9_walk_47 : decode cX9_walk 47 = .ok (.iload 4, 2) := by decide +kernel
theorem dX9_walk_49 : decode cX9_walk 49 = .ok (.iconst 2, 1) := by decide +kernel
theorem dX9_walk_50 : decode cX9_walk 50 = .ok (.if_icmp .ne 8, 3) := by decide +kernel
theorem dX9_walk_53 : decode cX9_walk 53 = .ok (.aload_n 0, 1) := by decide +kernel
theorem dX9_walk_54 : decode cX9_walk 54 = .ok (.getfield 278, 3) := by decide +kernel
theorem dX9_walk_57 : decode cX9_walk 57 = .ok (.ireturn, 1) := by decide +kernel
theorem dX9_walk_58 : decode cX9_walk 58 = .ok (.iconst 0, 1) := by decide +kernel
theorem dX9_walk_59 : decode cX9_walk 59 = .ok (.istore 5, 2) := by decide +kernel
theorem dX9_walk_61 : decode cX9_walk 61 = .ok (.iconst 0, 1) := by decide +kernel
theorem dX9_walk_62 : decode cX9_walk 62 = .ok (.istore 6, 2) := by decide +kernel
theorem dX9_walk_64 : decode cX9_walk 64 = .ok (.iload 6, 2) := by decide +kernel
theorem dX9_walk_66 : decode cX9_walk 66 = .ok (.sipush 169, 3) := by decide +kernel
theorem dX9_walk_69 : decode cX9_walk 69 = .ok (.if_icmp .ge 47, 3) := by decide +kernel
theorem dX9_walk_72 : decode cX9_walk 72 = .ok (.iload 5, 2) := by decide +kernel
theorem dX9_walk_74 : decode cX9_walk 74 = .ok (.aload_n 0, 1) := by decide +kernel
theorem dX9_walk_75 : decode cX9_walk 75 = .ok (.getfield 69, 3) := by decide +kernel
theorem dX9_walk_78 : decode cX9_walk 78 = .ok (.iload 6, 2) := by decide +kernel
theorem dX9_walk_80 : decode cX9_walk 80 = .ok (.baload, 1) := by decide +kernel
theorem dX9_walk_81 : decode cX9_walk 81 = .ok (.ifCond .eq 25, 3) := by decide +kernel
theorem dX9_walk_84 : decode cX9_walk 84 = .ok (.iload 4, 2) := by decide +kernel
theorem dX9_walk_86 : decode cX9_walk 86 = .ok (.ifCond .eq 16, 3) := by decide +kernel
theorem dX9_walk_89 : decode cX9_walk 89 = .ok (.iload 6, 2) := by decide +kernel
theorem dX9_walk_91 : decode cX9_walk 91 = .ok (.bipush 13, 2) := by decide +kernel
theorem dX9_walk_93 : decode cX9_walk 93 = .ok (.idiv, 1) := by decide +kernel
theorem dX9_walk_94 : decode cX9_walk 94 = .ok (.iload 6, 2) := by decide +kernel
theorem dX9_walk_96 : decode cX9_walk 96 = .ok (.bipush 13, 2) := by decide +kernel
theorem dX9_walk_98 : decode cX9_walk 98 = .ok (.irem, 1) := by decide +kernel
theorem dX9_walk_99 : decode cX9_walk 99 = .ok (.if_icmp .eq 7, 3) := by decide +kernel
theorem dX9_walk_102 : decode cX9_walk 102 = .ok (.iconst 1, 1) := by decide +kernel
theorem dX9_walk_103 : decode cX9_walk 103 = .ok (.goto 4, 3) := by decide +kernel
theorem dX9_walk_106 : decode cX9_walk 106 = .ok (.iconst 0, 1) := by decide +kernel
theorem dX9_walk_107 : decode cX9_walk 107 = .ok (.iadd, 1) := by decide +kernel
theorem dX9_walk_108 : decode cX9_walk 108 = .ok (.istore 5, 2) := by decide +kernel
theorem dX9_walk_110 : decode cX9_walk 110 = .ok (.iinc 6 1, 3) := by decide +kernel
theorem dX9_walk_113 : decode cX9_walk 113 = .ok (.goto (-49), 3) := by decide +kernel
theorem dX9_walk_116 : decode cX9_walk 116 = .ok (.iload 5, 2) := by decide +kernel
theorem dX9_walk_118 : decode cX9_walk 118 = .ok (.ireturn, 1) := by decide +kernel
theorem dX9_isPlace_0 : decode cX9_isPlace 0 = .ok (.iload_n 0, 1) := by decide +kernel
theorem dX9_isPlace_1 : decode cX9_isPlace 1 = .ok (.i2l, 1) := by decide +kernel
theorem dX9_isPlace_2 : decode cX9_isPlace 2 = .ok (.lconst 0, 1) := by decide +kernel
theorem dX9_isPlace_3 : decode cX9_isPlace 3 = .ok (.ldc2_w 109, 3) := by decide +kernel
theorem dX9_isPlace_6 : decode cX9_isPlace 6 = .ok (.invokestatic 101, 3) := by decide +kernel
theorem dX9_isPlace_9 : decode cX9_isPlace 9 = .ok (.ifCond .eq 19, 3) := by decide +kernel
theorem dX9_isPlace_12 : decode cX9_isPlace 12 = .ok (.iload_n 1, 1) := by decide +kernel
theorem dX9_isPlace_13 : decode cX9_isPlace 13 = .ok (.i2l, 1) := by decide +kernel
theorem dX9_isPlace_14 : decode cX9_isPlace 14 = .ok (.lconst 0, 1) := by decide +kernel
theorem dX9_isPlace_15 : decode cX9_isPlace 15 = .ok (.ldc2_w 109, 3) := by decide +kernel
theorem dX9_isPlace_18 : decode cX9_isPlace 18 = .ok (.invokestatic 101, 3) := by decide +kernel
theorem dX9_isPlace_21 : decode cX9_isPlace 21 = .ok (.ifCond .eq 7, 3) := by decide +kernel
theorem dX9_isPlace_24 : decode cX9_isPlace 24 = .ok (.iconst 1, 1) := by decide +kernel
theorem dX9_isPlace_25 : decode cX9_isPlace 25 = .ok (.goto 4, 3) := by decide +kernel
theorem dX9_isPlace_28 : decode cX9_isPlace 28 = .ok (.iconst 0, 1) := by decide +kernel
theorem dX9_isPlace_29 : decode cX9_isPlace 29 = .ok (.ireturn, 1) := by decide +kernel
theorem dX9_shape_0 : decode cX9_shape 0 = .ok (.aload_n 0, 1) := by decide +kernel
theorem dX9_shape_1 : decode cX9_shape 1 = .ok (.iload_n 1, 1) := by decide +kernel
theorem dX9_shape_2 : decode cX9_shape 2 = .ok (.invokevirtual 209, 3) := by decide +kernel
theorem dX9_shape_5 : decode cX9_shape 5 = .ok (.ifCond .eq 17, 3) := by decide +kernel
theorem dX9_shape_8 : decode cX9_shape 8 = .ok (.iload_n 2, 1) := by decide +kernel
theorem dX9_shape_9 : decode cX9_shape 9 = .ok (.invokestatic 111, 3) := by decide +kernel
theorem dX9_shape_12 : decode cX9_shape 12 = .ok (.ifCond .eq 10, 3) := by decide +kernel
theorem dX9_shape_15 : decode cX9_shape 15 = .ok (.iload_n 3, 1) := by decide +kernel
theorem dX9_shape_16 : decode cX9_shape 16 = .ok (.invokestatic 111, 3) := by decide +kernel
theorem dX9_shape_19 : decode cX9_shape 19 = .ok (.ifCond .ne 5, 3) := by decide +kernel
theorem dX9_shape_22 : decode cX9_shape 22 = .ok (.iconst (-1), 1) := by decide +kernel
theorem dX9_shape_23 : decode cX9_shape 23 = .ok (.ireturn, 1) := by decide +kernel
theorem dX9_shape_24 : decode cX9_shape 24 = .ok (.iload 4, 2) := by decide +kernel
theorem dX9_shape_26 : decode cX9_shape 26 = .ok (.iload 5, 2) := by decide +kernel
theorem dX9_shape_28 : decode cX9_shape 28 = .ok (.invokestatic 290, 3) := by decide +kernel
theorem dX9_shape_31 : decode cX9_shape 31 = .ok (.ifCond .ne 6, 3) := by decide +kernel
theorem dX9_shape_34 : decode cX9_shape 34 = .ok (.bipush (-2), 2) := by decide +kernel
theorem dX9_shape_36 : decode cX9_shape 36 = .ok (.ireturn, 1) := by decide +kernel
theorem dX9_shape_37 : decode cX9_shape 37 = .ok (.aload_n 0, 1) := by decide +kernel
theorem dX9_shape_38 : decode cX9_shape 38 = .ok (.iload_n 1, 1) := by decide +kernel
theorem dX9_shape_39 : decode cX9_shape 39 = .ok (.iload_n 2, 1) := by decide +kernel
theorem dX9_shape_40 : decode cX9_shape 40 = .ok (.iload_n 3, 1) := by decide +kernel
theorem dX9_shape_41 : decode cX9_shape 41 = .ok (.invokevirtual 287, 3) := by decide +kernel
theorem dX9_shape_44 : decode cX9_shape 44 = .ok (.aload_n 0, 1) := by decide +kernel
theorem dX9_shape_45 : decode cX9_shape 45 = .ok (.getfield 66, 3) := by decide +kernel
theorem dX9_shape_48 : decode cX9_shape 48 = .ok (.bipush 13, 2) := by decide +kernel
theorem dX9_shape_50 : decode cX9_shape 50 = .ok (.iload 4, 2) := by decide +kernel
theorem dX9_shape_52 : decode cX9_shape 52 = .ok (.imul, 1) := by decide +kernel
theorem dX9_shape_53 : decode cX9_shape 53 = .ok (.iload 5, 2) := by decide +kernel
theorem dX9_shape_55 : decode cX9_shape 55 = .ok (.iadd, 1) := by decide +kernel
theorem dX9_shape_56 : decode cX9_shape 56 = .ok (.iaload, 1) := by decide +kernel
theorem dX9_shape_57 : decode cX9_shape 57 = .ok (.ireturn, 1) := by decide +kernel
theorem dX9_tell_0 : decode cX9_tell 0 = .ok (.iload_n 1, 1) := by decide +kernel
theorem dX9_tell_1 : decode cX9_tell 1 = .ok (.iload_n 2, 1) := by decide +kernel
theorem dX9_tell_2 : decode cX9_tell 2 = .ok (.invokestatic 290, 3) := by decide +kernel
theorem dX9_tell_5 : decode cX9_tell 5 = .ok (.ifCond .eq 15, 3) := by decide +kernel
theorem dX9_tell_8 : decode cX9_tell 8 = .ok (.iload_n 3, 1) := by decide +kernel
theorem dX9_tell_9 : decode cX9_tell 9 = .ok (.i2l, 1) := by decide +kernel
theorem dX9_tell_10 : decode cX9_tell 10 = .ok (.lconst 0, 1) := by decide +kernel
theorem dX9_tell_11 : decode cX9_tell 11 = .ok (.ldc2_w 126, 3) := by decide +kernel
theorem dX9_tell_14 : decode cX9_tell 14 = .ok (.invokestatic 101, 3) := by decide +kernel
theorem dX9_tell_17 : decode cX9_tell 17 = .ok (.ifCond .ne 6, 3) := by decide +kernel
theorem dX9_tell_20 : decode cX9_tell 20 = .ok (.bipush (-2), 2) := by decide +kernel
theorem dX9_tell_22 : decode cX9_tell 22 = .ok (.ireturn, 1) := by decide +kernel
theorem dX9_tell_23 : decode cX9_tell 23 = .ok (.aload_n 0, 1) := by decide +kernel
theorem dX9_tell_24 : decode cX9_tell 24 = .ok (.getfield 63, 3) := by decide +kernel
theorem dX9_tell_27 : decode cX9_tell 27 = .ok (.bipush 13, 2) := by decide +kernel
theorem dX9_tell_29 : decode cX9_tell 29 = .ok (.iload_n 1, 1) := by decide +kernel
theorem dX9_tell_30 : decode cX9_tell 30 = .ok (.imul, 1) := by decide +kernel
theorem dX9_tell_31 : decode cX9_tell 31 = .ok (.iload_n 2, 1) := by decide +kernel
theorem dX9_tell_32 : decode cX9_tell 32 = .ok (.iadd, 1) := by decide +kernel
theorem dX9_tell_33 : decode cX9_tell 33 = .ok (.iaload, 1) := by decide +kernel
theorem dX9_tell_34 : decode cX9_tell 34 = .ok (.istore 4, 2) := by decide +kernel
theorem dX9_tell_36 : decode cX9_tell 36 = .ok (.aload_n 0, 1) := by decide +kernel
theorem dX9_tell_37 : decode cX9_tell 37 = .ok (.getfield 63, 3) := by decide +kernel
theorem dX9_tell_40 : decode cX9_tell 40 = .ok (.bipush 13, 2) := by decide +kernel
theorem dX9_tell_42 : decode cX9_tell 42 = .ok (.iload_n 1, 1) := by decide +kernel
theorem dX9_tell_43 : decode cX9_tell 43 = .ok (.imul, 1) := by decide +kernel
theorem dX9_tell_44 : decode cX9_tell 44 = .ok (.iload_n 2, 1) := by decide +kernel
theorem dX9_tell_45 : decode cX9_tell 45 = .ok (.iadd, 1) := by decide +kernel
theorem dX9_tell_46 : decode cX9_tell 46 = .ok (.iload_n 3, 1) := by decide +kernel
theorem dX9_tell_47 : decode cX9_tell 47 = .ok (.iastore, 1) := by decide +kernel
theorem dX9_tell_48 : decode cX9_tell 48 = .ok (.iload 4, 2) := by decide +kernel
theorem dX9_tell_50 : decode cX9_tell 50 = .ok (.ireturn, 1) := by decide +kernel
theorem dX9_isKept_0 : decode cX9_isKept 0 = .ok (.aload_n 0, 1) := by decide +kernel
theorem dX9_isKept_1 : decode cX9_isKept 1 = .ok (.getfield 63, 3) := by decide +kernel
theorem dX9_isKept_4 : decode cX9_isKept 4 = .ok (.bipush 13, 2) := by decide +kernel
theorem dX9_isKept_6 : decode cX9_isKept 6 = .ok (.iload_n 3, 1) := by decide +kernel
theorem dX9_isKept_7 : decode cX9_isKept 7 = .ok (.imul, 1) := by decide +kernel
theorem dX9_isKept_8 : decode cX9_isKept 8 = .ok (.iload 4, 2) := by decide +kernel
theorem dX9_isKept_10 : decode cX9_isKept 10 = .ok (.iadd, 1) := by decide +kernel
theorem dX9_isKept_11 : decode cX9_isKept 11 = .ok (.iaload, 1) := by decide +kernel
theorem dX9_isKept_12 : decode cX9_isKept 12 = .ok (.istore 5, 2) := by decide +kernel
theorem dX9_isKept_14 : decode cX9_isKept 14 = .ok (.aload_n 0, 1) := by decide +kernel
theorem dX9_isKept_15 : decode cX9_isKept 15 = .ok (.iload_n 3, 1) := by decide +kernel
theorem dX9_isKept_16 : decode cX9_isKept 16 = .ok (.iload 4, 2) := by decide +kernel
theorem dX9_isKept_18 : decode cX9_isKept 18 = .ok (.invokevirtual 275, 3) := by decide +kernel
theorem dX9_isKept_21 : decode cX9_isKept 21 = .ok (.istore 6, 2) := by decide +kernel
theorem dX9_isKept_23 : decode cX9_isKept 23 = .ok (.iconst 1, 1) := by decide +kernel
theorem dX9_isKept_24 : decode cX9_isKept 24 = .ok (.istore 7, 2) := by decide +kernel
theorem dX9_isKept_26 : decode cX9_isKept 26 = .ok (.iconst 0, 1) := by decide +kernel
theorem dX9_isKept_27 : decode cX9_isKept 27 = .ok (.istore 8, 2) := by decide +kernel
theorem dX9_isKept_29 : decode cX9_isKept 29 = .ok (.iload 8, 2) := by decide +kernel
theorem dX9_isKept_31 : decode cX9_isKept 31 = .ok (.sipush 256, 3) := by decide +kernel
theorem dX9_isKept_34 : decode cX9_isKept 34 = .ok (.if_icmp .ge 161, 3) := by decide +kernel
theorem dX9_isKept_37 : decode cX9_isKept 37 = .ok (.iload 7, 2) := by decide +kernel
theorem dX9_isKept_39 : decode cX9_isKept 39 = .ok (.ifCond .eq 156, 3) := by decide +kernel
theorem dX9_isKept_42 : decode cX9_isKept 42 = .ok (.iconst 0, 1) := by decide +kernel
theorem dX9_isKept_43 : decode cX9_isKept 43 = .ok (.istore 9, 2) := by decide +kernel
theorem dX9_isKept_45 : decode cX9_isKept 45 = .ok (.iload 9, 2) := by decide +kernel
theorem dX9_isKept_47 : decode cX9_isKept 47 = .ok (.sipush 256, 3) := by decide +kernel
theorem dX9_isKept_50 : decode cX9_isKept 50 = .ok (.if_icmp .ge 139, 3) := by decide +kernel
theorem dX9_isKept_53 : decode cX9_isKept 53 = .ok (.iload 7, 2) := by decide +kernel
theorem dX9_isKept_55 : decode cX9_isKept 55 = .ok (.ifCond .eq 134, 3) := by decide +kernel
theorem dX9_isKept_58 : decode cX9_isKept 58 = .ok (.iload 5, 2) := by decide +kernel
theorem dX9_isKept_60 : decode cX9_isKept 60 = .ok (.aload_n 0, 1) := by decide +kernel
theorem dX9_isKept_61 : decode cX9_isKept 61 = .ok (.getfield 73, 3) := by decide +kernel
theorem dX9_isKept_64 : decode cX9_isKept 64 = .ok (.sipush 256, 3) := by decide +kernel
theorem dX9_isKept_67 : decode cX9_isKept 67 = .ok (.iload 8, 2) := by decide +kernel
theorem dX9_isKept_69 : decode cX9_isKept 69 = .ok (.imul, 1) := by decide +kernel
theorem dX9_isKept_70 : decode cX9_isKept 70 = .ok (.iload 9, 2) := by decide +kernel
theorem dX9_isKept_72 : decode cX9_isKept 72 = .ok (.iadd, 1) := by decide +kernel
theorem dX9_isKept_73 : decode cX9_isKept 73 = .ok (.iaload, 1) := by decide +kernel
theorem dX9_isKept_74 : decode cX9_isKept 74 = .ok (.iconst (-1), 1) := by decide +kernel
theorem dX9_isKept_75 : decode cX9_isKept 75 = .ok (.ixor, 1) := by decide +kernel
theorem dX9_isKept_76 : decode cX9_isKept 76 = .ok (.iand, 1) := by decide +kernel
theorem dX9_isKept_77 : decode cX9_isKept 77 = .ok (.ifCond .ne 106, 3) := by decide +kernel
theorem dX9_isKept_80 : decode cX9_isKept 80 = .ok (.aload_n 0, 1) := by decide +kernel
theorem dX9_isKept_81 : decode cX9_isKept 81 = .ok (.iload_n 3, 1) := by decide +kernel
theorem dX9_isKept_82 : decode cX9_isKept 82 = .ok (.putfield 240, 3) := by decide +kernel
theorem dX9_isKept_85 : decode cX9_isKept 85 = .ok (.aload_n 0, 1) := by decide +kernel
theorem dX9_isKept_86 : decode cX9_isKept 86 = .ok (.iload 8, 2) := by decide +kernel
theorem dX9_isKept_88 : decode cX9_isKept 88 = .ok (.putfield 243, 3) := by decide +kernel
theorem dX9_isKept_91 : decode cX9_isKept 91 = .ok (.aload_n 0, 1) := by decide +kernel
theorem dX9_isKept_92 : decode cX9_isKept 92 = .ok (.iconst 0, 1) := by decide +kernel
theorem dX9_isKept_93 : decode cX9_isKept 93 = .ok (.putfield 246, 3) := by decide +kernel
theorem dX9_isKept_96 : decode cX9_isKept 96 = .ok (.aload_n 0, 1) := by decide +kernel
theorem dX9_isKept_97 : decode cX9_isKept 97 = .ok (.iload 4, 2) := by decide +kernel
theorem dX9_isKept_99 : decode cX9_isKept 99 = .ok (.putfield 249, 3) := by decide +kernel
theorem dX9_isKept_102 : decode cX9_isKept 102 = .ok (.aload_n 0, 1) := by decide +kernel
theorem dX9_isKept_103 : decode cX9_isKept 103 = .ok (.iload 9, 2) := by decide +kernel
theorem dX9_isKept_105 : decode cX9_isKept 105 = .ok (.putfield 252, 3) := by decide +kernel
theorem dX9_isKept_108 : decode cX9_isKept 108 = .ok (.aload_n 0, 1) := by decide +kernel
theorem dX9_isKept_109 : decode cX9_isKept 109 = .ok (.iconst 0, 1) := by decide +kernel
theorem dX9_isKept_110 : decode cX9_isKept 110 = .ok (.putfield 255, 3) := by decide +kernel
theorem dX9_isKept_113 : decode cX9_isKept 113 = .ok (.iload 6, 2) := by decide +kernel
theorem dX9_isKept_115 : decode cX9_isKept 115 = .ok (.iconst 2, 1) := by decide +kernel
theorem dX9_isKept_116 : decode cX9_isKept 116 = .ok (.if_icmp .eq 8, 3) := by decide +kernel
theorem dX9_isKept_119 : decode cX9_isKept 119 = .ok (.aload_n 0, 1) := by decide +kernel
theorem dX9_isKept_120 : decode cX9_isKept 120 = .ok (.iload_n 1, 1) := by decide +kernel
theorem dX9_isKept_121 : decode cX9_isKept 121 = .ok (.invokevirtual 262, 3) := by decide +kernel
theorem dX9_isKept_124 : decode cX9_isKept 124 = .ok (.iload 6, 2) := by decide +kernel
theorem dX9_isKept_126 : decode cX9_isKept 126 = .ok (.iconst 1, 1) := by decide +kernel
theorem dX9_isKept_127 : decode cX9_isKept 127 = .ok (.if_icmp .eq 8, 3) := by decide +kernel
theorem dX9_isKept_130 : decode cX9_isKept 130 = .ok (.aload_n 0, 1) := by decide +kernel
theorem dX9_isKept_131 : decode cX9_isKept 131 = .ok (.iload_n 2, 1) := by decide +kernel
theorem dX9_isKept_132 : decode cX9_isKept 132 = .ok (.invokevirtual 265, 3) := by decide +kernel
theorem dX9_isKept_135 : decode cX9_isKept 135 = .ok (.aload_n 0, 1) := by decide +kernel
theorem dX9_isKept_136 : decode cX9_isKept 136 = .ok (.getfield 63, 3) := by decide +kernel
theorem dX9_isKept_139 : decode cX9_isKept 139 = .ok (.bipush 13, 2) := by decide +kernel
theorem dX9_isKept_141 : decode cX9_isKept 141 = .ok (.aload_n 0, 1) := by decide +kernel
theorem dX9_isKept_142 : decode cX9_isKept 142 = .ok (.getfield 240, 3) := by decide +kernel
theorem dX9_isKept_145 : decode cX9_isKept 145 = .ok (.imul, 1) := by decide +kernel
theorem dX9_isKept_146 : decode cX9_isKept 146 = .ok (.aload_n 0, 1) := by decide +kernel
theorem dX9_isKept_147 : decode cX9_isKept 147 = .ok (.getfield 249, 3) := by decide +kernel
theorem dX9_isKept_150 : decode cX9_isKept 150 = .ok (.iadd, 1) := by decide +kernel
theorem dX9_isKept_151 : decode cX9_isKept 151 = .ok (.iaload, 1) := by decide +kernel
theorem dX9_isKept_152 : decode cX9_isKept 152 = .ok (.aload_n 0, 1) := by decide +kernel
theorem dX9_isKept_153 : decode cX9_isKept 153 = .ok (.getfield 73, 3) := by decide +kernel
theorem dX9_isKept_156 : decode cX9_isKept 156 = .ok (.sipush 256, 3) := by decide +kernel
theorem dX9_isKept_159 : decode cX9_isKept 159 = .ok (.aload_n 0, 1) := by decide +kernel
theorem dX9_isKept_160 : decode cX9_isKept 160 = .ok (.getfield 243, 3) := by decide +kernel
theorem dX9_isKept_163 : decode cX9_isKept 163 = .ok (.imul, 1) := by decide +kernel
theorem dX9_isKept_164 : decode cX9_isKept 164 = .ok (.aload_n 0, 1) := by decide +kernel
theorem dX9_isKept_165 : decode cX9_isKept 165 = .ok (.getfield 252, 3) := by decide +kernel
theorem dX9_isKept_168 : decode cX9_isKept 168 = .ok (.iadd, 1) := by decide +kernel
theorem dX9_isKept_169 : decode cX9_isKept 169 = .ok (.iaload, 1) := by decide +kernel
theorem dX9_isKept_170 : decode cX9_isKept 170 = .ok (.iconst (-1), 1) := by decide +kernel
theorem dX9_isKept_171 : decode cX9_isKept 171 = .ok (.ixor, 1) := by decide +kernel
theorem dX9_isKept_172 : decode cX9_isKept 172 = .ok (.iand, 1) := by decide +kernel
theorem dX9_isKept_173 : decode cX9_isKept 173 = .ok (.ifCond .ne 7, 3) := by decide +kernel
theorem dX9_isKept_176 : decode cX9_isKept 176 = .ok (.iconst 1, 1) := by decide +kernel
theorem dX9_isKept_177 : decode cX9_isKept 177 = .ok (.goto 4, 3) := by decide +kernel
theorem dX9_isKept_180 : decode cX9_isKept 180 = .ok (.iconst 0, 1) := by decide +kernel
theorem dX9_isKept_181 : decode cX9_isKept 181 = .ok (.istore 7, 2) := by decide +kernel
theorem dX9_isKept_183 : decode cX9_isKept 183 = .ok (.iinc 9 1, 3) := by decide +kernel
theorem dX9_isKept_186 : decode cX9_isKept 186 = .ok (.goto (-141), 3) := by decide +kernel
theorem dX9_isKept_189 : decode cX9_isKept 189 = .ok (.iinc 8 1, 3) := by decide +kernel
theorem dX9_isKept_192 : decode cX9_isKept 192 = .ok (.goto (-163), 3) := by decide +kernel
theorem dX9_isKept_195 : decode cX9_isKept 195 = .ok (.iload 7, 2) := by decide +kernel
theorem dX9_isKept_197 : decode cX9_isKept 197 = .ok (.ireturn, 1) := by decide +kernel
theorem dX9_fails_0 : decode cX9_fails 0 = .ok (.aload_n 0, 1) := by decide +kernel
theorem dX9_fails_1 : decode cX9_fails 1 = .ok (.iload_n 1, 1) := by decide +kernel
theorem dX9_fails_2 : decode cX9_fails 2 = .ok (.invokevirtual 209, 3) := by decide +kernel
theorem dX9_fails_5 : decode cX9_fails 5 = .ok (.ifCond .eq 17, 3) := by decide +kernel
theorem dX9_fails_8 : decode cX9_fails 8 = .ok (.iload_n 2, 1) := by decide +kernel
theorem dX9_fails_9 : decode cX9_fails 9 = .ok (.invokestatic 111, 3) := by decide +kernel
theorem dX9_fails_12 : decode cX9_fails 12 = .ok (.ifCond .eq 10, 3) := by decide +kernel
theorem dX9_fails_15 : decode cX9_fails 15 = .ok (.iload_n 3, 1) := by decide +kernel
theorem dX9_fails_16 : decode cX9_fails 16 = .ok (.invokestatic 111, 3) := by decide +kernel
theorem dX9_fails_19 : decode cX9_fails 19 = .ok (.ifCond .ne 5, 3) := by decide +kernel
theorem dX9_fails_22 : decode cX9_fails 22 = .ok (.iconst (-1), 1) := by decide +kernel
theorem dX9_fails_23 : decode cX9_fails 23 = .ok (.ireturn, 1) := by decide +kernel
theorem dX9_fails_24 : decode cX9_fails 24 = .ok (.aload_n 0, 1) := by decide +kernel
theorem dX9_fails_25 : decode cX9_fails 25 = .ok (.iload_n 1, 1) := by decide +kernel
theorem dX9_fails_26 : decode cX9_fails 26 = .ok (.iload_n 2, 1) := by decide +kernel
theorem dX9_fails_27 : decode cX9_fails 27 = .ok (.iload_n 3, 1) := by decide +kernel
theorem dX9_fails_28 : decode cX9_fails 28 = .ok (.invokevirtual 287, 3) := by decide +kernel
theorem dX9_fails_31 : decode cX9_fails 31 = .ok (.iconst 0, 1) := by decide +kernel
theorem dX9_fails_32 : decode cX9_fails 32 = .ok (.istore 4, 2) := by decide +kernel
theorem dX9_fails_34 : decode cX9_fails 34 = .ok (.iload 4, 2) := by decide +kernel
theorem dX9_fails_36 : decode cX9_fails 36 = .ok (.sipush 168, 3) := by decide +kernel
theorem dX9_fails_39 : decode cX9_fails 39 = .ok (.if_icmp .ge 53, 3) := by decide +kernel
theorem dX9_fails_42 : decode cX9_fails 42 = .ok (.aload_n 0, 1) := by decide +kernel
theorem dX9_fails_43 : decode cX9_fails 43 = .ok (.getfield 69, 3) := by decide +kernel
theorem dX9_fails_46 : decode cX9_fails 46 = .ok (.iload 4, 2) := by decide +kernel
theorem dX9_fails_48 : decode cX9_fails 48 = .ok (.baload, 1) := by decide +kernel
theorem dX9_fails_49 : decode cX9_fails 49 = .ok (.ifCond .eq 37, 3) := by decide +kernel
theorem dX9_fails_52 : decode cX9_fails 52 = .ok (.aload_n 0, 1) := by decide +kernel
theorem dX9_fails_53 : decode cX9_fails 53 = .ok (.iload_n 2, 1) := by decide +kernel
theorem dX9_fails_54 : decode cX9_fails 54 = .ok (.iload_n 3, 1) := by decide +kernel
theorem dX9_fails_55 : decode cX9_fails 55 = .ok (.iload 4, 2) := by decide +kernel
theorem dX9_fails_57 : decode cX9_fails 57 = .ok (.bipush 13, 2) := by decide +kernel
theorem dX9_fails_59 : decode cX9_fails 59 = .ok (.idiv, 1) := by decide +kernel
theorem dX9_fails_60 : decode cX9_fails 60 = .ok (.iload 4, 2) := by decide +kernel
theorem dX9_fails_62 : decode cX9_fails 62 = .ok (.bipush 13, 2) := by decide +kernel
theorem dX9_fails_64 : decode cX9_fails 64 = .ok (.irem, 1) := by decide +kernel
theorem dX9_fails_65 : decode cX9_fails 65 = .ok (.invokevirtual 294, 3) := by decide +kernel
theorem dX9_fails_68 : decode cX9_fails 68 = .ok (.ifCond .ne 18, 3) := by decide +kernel
theorem dX9_fails_71 : decode cX9_fails 71 = .ok (.bipush 100, 2) := by decide +kernel
theorem dX9_fails_73 : decode cX9_fails 73 = .ok (.iload 4, 2) := by decide +kernel
theorem dX9_fails_75 : decode cX9_fails 75 = .ok (.bipush 13, 2) := by decide +kernel
theorem dX9_fails_77 : decode cX9_fails 77 = .ok (.idiv, 1) := by decide +kernel
theorem dX9_fails_78 : decode cX9_fails 78 = .ok (.imul, 1) := by decide +kernel
theorem dX9_fails_79 : decode cX9_fails 79 = .ok (.iload 4, 2) := by decide +kernel
theorem dX9_fails_81 : decode cX9_fails 81 = .ok (.bipush 13, 2) := by decide +kernel
theorem dX9_fails_83 : decode cX9_fails 83 = .ok (.irem, 1) := by decide +kernel
theorem dX9_fails_84 : decode cX9_fails 84 = .ok (.iadd, 1) := by decide +kernel
theorem dX9_fails_85 : decode cX9_fails 85 = .ok (.ireturn, 1) := by decide +kernel
theorem dX9_fails_86 : decode cX9_fails 86 = .ok (.iinc 4 1, 3) := by decide +kernel
theorem dX9_fails_89 : decode cX9_fails 89 = .ok (.goto (-55), 3) := by decide +kernel
theorem dX9_fails_92 : decode cX9_fails 92 = .ok (.bipush (-6), 2) := by decide +kernel
theorem dX9_fails_94 : decode cX9_fails 94 = .ok (.ireturn, 1) := by decide +kernel
theorem dX9_so_0 : decode cX9_so 0 = .ok (.aload_n 0, 1) := by decide +kernel
theorem dX9_so_1 : decode cX9_so 1 = .ok (.iload_n 1, 1) := by decide +kernel
theorem dX9_so_2 : decode cX9_so 2 = .ok (.invokevirtual 209, 3) := by decide +kernel
theorem dX9_so_5 : decode cX9_so 5 = .ok (.ifCond .eq 10, 3) := by decide +kernel
theorem dX9_so_8 : decode cX9_so 8 = .ok (.iload_n 2, 1) := by decide +kernel
theorem dX9_so_9 : decode cX9_so 9 = .ok (.invokestatic 111, 3) := by decide +kernel
theorem dX9_so_12 : decode cX9_so 12 = .ok (.ifCond .ne 5, 3) := by decide +kernel
theorem dX9_so_15 : decode cX9_so 15 = .ok (.iconst (-1), 1) := by decide +kernel
theorem dX9_so_16 : decode cX9_so 16 = .ok (.ireturn, 1) := by decide +kernel
theorem dX9_so_17 : decode cX9_so 17 = .ok (.iload_n 3, 1) := by decide +kernel
theorem dX9_so_18 : decode cX9_so 18 = .ok (.i2l, 1) := by decide +kernel
theorem dX9_so_19 : decode cX9_so 19 = .ok (.lconst 0, 1) := by decide +kernel
theorem dX9_so_20 : decode cX9_so 20 = .ok (.lconst 1, 1) := by decide +kernel
theorem dX9_so_21 : decode cX9_so 21 = .ok (.invokestatic 101, 3) := by decide +kernel
theorem dX9_so_24 : decode cX9_so 24 = .ok (.ifCond .ne 6, 3) := by decide +kernel
theorem dX9_so_27 : decode cX9_so 27 = .ok (.bipush (-2), 2) := by decide +kernel
theorem dX9_so_29 : decode cX9_so 29 = .ok (.ireturn, 1) := by decide +kernel
theorem dX9_so_30 : decode cX9_so 30 = .ok (.iconst 0, 1) := by decide +kernel
theorem dX9_so_31 : decode cX9_so 31 = .ok (.istore 4, 2) := by decide +kernel
theorem dX9_so_33 : decode cX9_so 33 = .ok (.iconst 0, 1) := by decide +kernel
theorem dX9_so_34 : decode cX9_so 34 = .ok (.istore 5, 2) := by decide +kernel
theorem dX9_so_36 : decode cX9_so 36 = .ok (.iload 5, 2) := by decide +kernel
theorem dX9_so_38 : decode cX9_so 38 = .ok (.aload_n 0, 1) := by decide +kernel
theorem dX9_so_39 : decode cX9_so 39 = .ok (.getfield 22, 3) := by decide +kernel
theorem dX9_so_42 : decode cX9_so 42 = .ok (.iload_n 2, 1) := by decide +kernel
theorem dX9_so_43 : decode cX9_so 43 = .ok (.iaload, 1) := by decide +kernel
theorem dX9_so_44 : decode cX9_so 44 = .ok (.if_icmp .ge 65, 3) := by decide +kernel
theorem dX9_so_47 : decode cX9_so 47 = .ok (.aload_n 0, 1) := by decide +kernel
theorem dX9_so_48 : decode cX9_so 48 = .ok (.getfield 7, 3) := by decide +kernel
theorem dX9_so_51 : decode cX9_so 51 = .ok (.bipush 12, 2) := by decide +kernel
theorem dX9_so_53 : decode cX9_so 53 = .ok (.iload_n 2, 1) := by decide +kernel
theorem dX9_so_54 : decode cX9_so 54 = .ok (.imul, 1) := by decide +kernel
theorem dX9_so_55 : decode cX9_so 55 = .ok (.iload 5, 2) := by decide +kernel
theorem dX9_so_57 : decode cX9_so 57 = .ok (.iadd, 1) := by decide +kernel
theorem dX9_so_58 : decode cX9_so 58 = .ok (.iaload, 1) := by decide +kernel
theorem dX9_so_59 : decode cX9_so 59 = .ok (.bipush 6, 2) := by decide +kernel
theorem dX9_so_61 : decode cX9_so 61 = .ok (.if_icmp .ne 21, 3) := by decide +kernel
theorem dX9_so_64 : decode cX9_so 64 = .ok (.aload_n 0, 1) := by decide +kernel
theorem dX9_so_65 : decode cX9_so 65 = .ok (.getfield 25, 3) := by decide +kernel
theorem dX9_so_68 : decode cX9_so 68 = .ok (.iload_n 2, 1) := by decide +kernel
theorem dX9_so_69 : decode cX9_so 69 = .ok (.iaload, 1) := by decide +kernel
theorem dX9_so_70 : decode cX9_so 70 = .ok (.iload 5, 2) := by decide +kernel
theorem dX9_so_72 : decode cX9_so 72 = .ok (.ishr, 1) := by decide +kernel
theorem dX9_so_73 : decode cX9_so 73 = .ok (.iconst 1, 1) := by decide +kernel
theorem dX9_so_74 : decode cX9_so 74 = .ok (.iand, 1) := by decide +kernel
theorem dX9_so_75 : decode cX9_so 75 = .ok (.ifCond .ne 7, 3) := by decide +kernel
theorem dX9_so_78 : decode cX9_so 78 = .ok (.iconst 1, 1) := by decide +kernel
theorem dX9_so_79 : decode cX9_so 79 = .ok (.goto 4, 3) := by decide +kernel
theorem dX9_so_82 : decode cX9_so 82 = .ok (.iconst 0, 1) := by decide +kernel
theorem dX9_so_83 : decode cX9_so 83 = .ok (.istore 6, 2) := by decide +kernel
theorem dX9_so_85 : decode cX9_so 85 = .ok (.iload 4, 2) := by decide +kernel
theorem dX9_so_87 : decode cX9_so 87 = .ok (.iload 6, 2) := by decide +kernel
theorem dX9_so_89 : decode cX9_so 89 = .ok (.ifCond .eq 10, 3) := by decide +kernel
theorem dX9_so_92 : decode cX9_so 92 = .ok (.iconst 1, 1) := by decide +kernel
theorem dX9_so_93 : decode cX9_so 93 = .ok (.iload 5, 2) := by decide +kernel
theorem dX9_so_95 : decode cX9_so 95 = .ok (.ishl, 1) := by decide +kernel
theorem dX9_so_96 : decode cX9_so 96 = .ok (.goto 4, 3) := by decide +kernel
theorem dX9_so_99 : decode cX9_so 99 = .ok (.iconst 0, 1) := by decide +kernel
theorem dX9_so_100 : decode cX9_so 100 = .ok (.ior, 1) := by decide +kernel
theorem dX9_so_101 : decode cX9_so 101 = .ok (.istore 4, 2) := by decide +kernel
theorem dX9_so_103 : decode cX9_so 103 = .ok (.iinc 5 1, 3) := by decide +kernel
theorem dX9_so_106 : decode cX9_so 106 = .ok (.goto (-70), 3) := by decide +kernel
theorem dX9_so_109 : decode cX9_so 109 = .ok (.iload 4, 2) := by decide +kernel
theorem dX9_so_111 : decode cX9_so 111 = .ok (.invokestatic 297, 3) := by decide +kernel
theorem dX9_so_114 : decode cX9_so 114 = .ok (.bipush 6, 2) := by decide +kernel
theorem dX9_so_116 : decode cX9_so 116 = .ok (.if_icmp .le 6, 3) := by decide +kernel
theorem dX9_so_119 : decode cX9_so 119 = .ok (.bipush (-3), 2) := by decide +kernel
theorem dX9_so_121 : decode cX9_so 121 = .ok (.ireturn, 1) := by decide +kernel
theorem dX9_so_122 : decode cX9_so 122 = .ok (.iconst 4, 1) := by decide +kernel
theorem dX9_so_123 : decode cX9_so 123 = .ok (.iload_n 1, 1) := by decide +kernel
theorem dX9_so_124 : decode cX9_so 124 = .ok (.imul, 1) := by decide +kernel
theorem dX9_so_125 : decode cX9_so 125 = .ok (.iload_n 2, 1) := by decide +kernel
theorem dX9_so_126 : decode cX9_so 126 = .ok (.iadd, 1) := by decide +kernel
theorem dX9_so_127 : decode cX9_so 127 = .ok (.istore 5, 2) := by decide +kernel
theorem dX9_so_129 : decode cX9_so 129 = .ok (.aload_n 0, 1) := by decide +kernel
theorem dX9_so_130 : decode cX9_so 130 = .ok (.getfield 300, 3) := by decide +kernel
theorem dX9_so_133 : decode cX9_so 133 = .ok (.iload 5, 2) := by decide +kernel
theorem dX9_so_135 : decode cX9_so 135 = .ok (.if_icmp .ne 14, 3) := by decide +kernel
theorem dX9_so_138 : decode cX9_so 138 = .ok (.aload_n 0, 1) := by decide +kernel
theorem dX9_so_139 : decode cX9_so 139 = .ok (.getfield 79, 3) := by decide +kernel
theorem dX9_so_142 : decode cX9_so 142 = .ok (.aload_n 0, 1) := by decide +kernel
theorem dX9_so_143 : decode cX9_so 143 = .ok (.getfield 93, 3) := by decide +kernel
theorem dX9_so_146 : decode cX9_so 146 = .ok (.if_icmp .eq 35, 3) := by decide +kernel
theorem dX9_so_149 : decode cX9_so 149 = .ok (.aload_n 0, 1) := by decide +kernel
theorem dX9_so_150 : decode cX9_so 150 = .ok (.aload_n 0, 1) := by decide +kernel
theorem dX9_so_151 : decode cX9_so 151 = .ok (.iload_n 1, 1) := by decide +kernel
theorem dX9_so_152 : decode cX9_so 152 = .ok (.iload_n 2, 1) := by decide +kernel
theorem dX9_so_153 : decode cX9_so 153 = .ok (.iload 4, 2) := by decide +kernel
theorem dX9_so_155 : decode cX9_so 155 = .ok (.invokevirtual 303, 3) := by decide +kernel
theorem dX9_so_158 : decode cX9_so 158 = .ok (.putfield 306, 3) := by decide +kernel
theorem dX9_so_161 : decode cX9_so 161 = .ok (.aload_n 0, 1) := by decide +kernel
theorem dX9_so_162 : decode cX9_so 162 = .ok (.iload 5, 2) := by decide +kernel
theorem dX9_so_164 : decode cX9_so 164 = .ok (.putfield 300, 3) := by decide +kernel
theorem dX9_so_167 : decode cX9_so 167 = .ok (.aload_n 0, 1) := by decide +kernel
theorem dX9_so_168 : decode cX9_so 168 = .ok (.aload_n 0, 1) := by decide +kernel
theorem dX9_so_169 : decode cX9_so 169 = .ok (.getfield 93, 3) := by decide +kernel
theorem dX9_so_172 : decode cX9_so 172 = .ok (.putfield 79, 3) := by decide +kernel
theorem dX9_so_175 : decode cX9_so 175 = .ok (.aload_n 0, 1) := by decide +kernel
theorem dX9_so_176 : decode cX9_so 176 = .ok (.bipush (-6), 2) := by decide +kernel
theorem dX9_so_178 : decode cX9_so 178 = .ok (.putfield 56, 3) := by decide +kernel
theorem dX9_so_181 : decode cX9_so 181 = .ok (.aload_n 0, 1) := by decide +kernel
theorem dX9_so_182 : decode cX9_so 182 = .ok (.getfield 306, 3) := by decide +kernel
theorem dX9_so_185 : decode cX9_so 185 = .ok (.ifCond .ge 8, 3) := by decide +kernel
theorem dX9_so_188 : decode cX9_so 188 = .ok (.bipush (-5), 2) := by decide +kernel
theorem dX9_so_190 : decode cX9_so 190 = .ok (.goto 21, 3) := by decide +kernel
theorem dX9_so_193 : decode cX9_so 193 = .ok (.iload_n 3, 1) := by decide +kernel
theorem dX9_so_194 : decode cX9_so 194 = .ok (.ifCond .ne 10, 3) := by decide +kernel
theorem dX9_so_197 : decode cX9_so 197 = .ok (.aload_n 0, 1) := by decide +kernel
theorem dX9_so_198 : decode cX9_so 198 = .ok (.getfield 306, 3) := by decide +kernel
theorem dX9_so_201 : decode cX9_so 201 = .ok (.goto 10, 3) := by decide +kernel
theorem dX9_so_204 : decode cX9_so 204 = .ok (.aload_n 0, 1) := by decide +kernel
theorem dX9_so_205 : decode cX9_so 205 = .ok (.getfield 306, 3) := by decide +kernel
theorem dX9_so_208 : decode cX9_so 208 = .ok (.invokestatic 297, 3) := by decide +kernel
theorem dX9_so_211 : decode cX9_so 211 = .ok (.ireturn, 1) := by decide +kernel
theorem dX9_bestSilence_0 : decode cX9_bestSilence 0 = .ok (.aload_n 0, 1) := by decide +kernel
theorem dX9_bestSilence_1 : decode cX9_bestSilence 1 = .ok (.getfield 25, 3) := by decide +kernel
theorem dX9_bestSilence_4 : decode cX9_bestSilence 4 = .ok (.iload_n 2, 1) := by decide +kernel
theorem dX9_bestSilence_5 : decode cX9_bestSilence 5 = .ok (.iaload, 1) := by decide +kernel
theorem dX9_bestSilence_6 : decode cX9_bestSilence 6 = .ok (.istore 4, 2) := by decide +kernel
theorem dX9_bestSilence_8 : decode cX9_bestSilence 8 = .ok (.bipush (-6), 2) := by decide +kernel
theorem dX9_bestSilence_10 : decode cX9_bestSilence 10 = .ok (.istore 5, 2) := by decide +kernel
theorem dX9_bestSilence_12 : decode cX9_bestSilence 12 = .ok (.iconst 0, 1) := by decide +kernel
theorem dX9_bestSilence_13 : decode cX9_bestSilence 13 = .ok (.istore 6, 2) := by decide +kernel
theorem dX9_bestSilence_15 : decode cX9_bestSilence 15 = .ok (.iconst 1, 1) := by decide +kernel
theorem dX9_bestSilence_16 : decode cX9_bestSilence 16 = .ok (.istore 7, 2) := by decide +kernel
theorem dX9_bestSilence_18 : decode cX9_bestSilence 18 = .ok (.iload 7, 2) := by decide +kernel
theorem dX9_bestSilence_20 : decode cX9_bestSilence 20 = .ok (.ifCond .eq 78, 3) := by decide +kernel
theorem dX9_bestSilence_23 : decode cX9_bestSilence 23 = .ok (.iload 5, 2) := by decide +kernel
theorem dX9_bestSilence_25 : decode cX9_bestSilence 25 = .ok (.ifCond .lt 16, 3) := by decide +kernel
theorem dX9_bestSilence_28 : decode cX9_bestSilence 28 = .ok (.iload 6, 2) := by decide +kernel
theorem dX9_bestSilence_30 : decode cX9_bestSilence 30 = .ok (.invokestatic 297, 3) := by decide +kernel
theorem dX9_bestSilence_33 : decode cX9_bestSilence 33 = .ok (.iload 5, 2) := by decide +kernel
theorem dX9_bestSilence_35 : decode cX9_bestSilence 35 = .ok (.invokestatic 297, 3) := by decide +kernel
theorem dX9_bestSilence_38 : decode cX9_bestSilence 38 = .ok (.if_icmp .ge 37, 3) := by decide +kernel
theorem dX9_bestSilence_41 : decode cX9_bestSilence 41 = .ok (.aload_n 0, 1) := by decide +kernel
theorem dX9_bestSilence_42 : decode cX9_bestSilence 42 = .ok (.getfield 25, 3) := by decide +kernel
theorem dX9_bestSilence_45 : decode cX9_bestSilence 45 = .ok (.iload_n 2, 1) := by decide +kernel
theorem dX9_bestSilence_46 : decode cX9_bestSilence 46 = .ok (.iload 4, 2) := by decide +kernel
theorem dX9_bestSilence_48 : decode cX9_bestSilence 48 = .ok (.iload 6, 2) := by decide +kernel
theorem dX9_bestSilence_50 : decode cX9_bestSilence 50 = .ok (.ior, 1) := by decide +kernel
theorem dX9_bestSilence_51 : decode cX9_bestSilence 51 = .ok (.iastore, 1) := by decide +kernel
theorem dX9_bestSilence_52 : decode cX9_bestSilence 52 = .ok (.aload_n 0, 1) := by decide +kernel
theorem dX9_bestSilence_53 : decode cX9_bestSilence 53 = .ok (.iload_n 2, 1) := by decide +kernel
theorem dX9_bestSilence_54 : decode cX9_bestSilence 54 = .ok (.iload_n 2, 1) := by decide +kernel
theorem dX9_bestSilence_55 : decode cX9_bestSilence 55 = .ok (.invokevirtual 233, 3) := by decide +kernel
theorem dX9_bestSilence_58 : decode cX9_bestSilence 58 = .ok (.aload_n 0, 1) := by decide +kernel
theorem dX9_bestSilence_59 : decode cX9_bestSilence 59 = .ok (.iload_n 1, 1) := by decide +kernel
theorem dX9_bestSilence_60 : decode cX9_bestSilence 60 = .ok (.invokevirtual 309, 3) := by decide +kernel
theorem dX9_bestSilence_63 : decode cX9_bestSilence 63 = .ok (.ifCond .eq 8, 3) := by decide +kernel
theorem dX9_bestSilence_66 : decode cX9_bestSilence 66 = .ok (.iload 6, 2) := by decide +kernel
theorem dX9_bestSilence_68 : decode cX9_bestSilence 68 = .ok (.goto 5, 3) := by decide +kernel
theorem dX9_bestSilence_71 : decode cX9_bestSilence 71 = .ok (.iload 5, 2) := by decide +kernel
theorem dX9_bestSilence_73 : decode cX9_bestSilence 73 = .ok (.istore 5, 2) := by decide +kernel
theorem dX9_bestSilence_75 : decode cX9_bestSilence 75 = .ok (.iload 6, 2) := by decide +kernel
theorem dX9_bestSilence_77 : decode cX9_bestSilence 77 = .ok (.iload_n 3, 1) := by decide +kernel
theorem dX9_bestSilence_78 : decode cX9_bestSilence 78 = .ok (.isub, 1) := by decide +kernel
theorem dX9_bestSilence_79 : decode cX9_bestSilence 79 = .ok (.iload_n 3, 1) := by decide +kernel
theorem dX9_bestSilence_80 : decode cX9_bestSilence 80 = .ok (.iand, 1) := by decide +kernel
theorem dX9_bestSilence_81 : decode cX9_bestSilence 81 = .ok (.istore 6, 2) := by decide +kernel
theorem dX9_bestSilence_83 : decode cX9_bestSilence 83 = .ok (.iload 6, 2) := by decide +kernel
theorem dX9_bestSilence_85 : decode cX9_bestSilence 85 = .ok (.ifCond .eq 7, 3) := by decide +kernel
theorem dX9_bestSilence_88 : decode cX9_bestSilence 88 = .ok (.iconst 1, 1) := by decide +kernel
theorem dX9_bestSilence_89 : decode cX9_bestSilence 89 = .ok (.goto 4, 3) := by decide +kernel
theorem dX9_bestSilence_92 : decode cX9_bestSilence 92 = .ok (.iconst 0, 1) := by decide +kernel
theorem dX9_bestSilence_93 : decode cX9_bestSilence 93 = .ok (.istore 7, 2) := by decide +kernel
theorem dX9_bestSilence_95 : decode cX9_bestSilence 95 = .ok (.goto (-77), 3) := by decide +kernel
theorem dX9_bestSilence_98 : decode cX9_bestSilence 98 = .ok (.aload_n 0, 1) := by decide +kernel
theorem dX9_bestSilence_99 : decode cX9_bestSilence 99 = .ok (.getfield 25, 3) := by decide +kernel
theorem dX9_bestSilence_102 : decode cX9_bestSilence 102 = .ok (.iload_n 2, 1) := by decide +kernel
theorem dX9_bestSilence_103 : decode cX9_bestSilence 103 = .ok (.iload 4, 2) := by decide +kernel
theorem dX9_bestSilence_105 : decode cX9_bestSilence 105 = .ok (.iastore, 1) := by decide +kernel
theorem dX9_bestSilence_106 : decode cX9_bestSilence 106 = .ok (.iload 5, 2) := by decide +kernel
theorem dX9_bestSilence_108 : decode cX9_bestSilence 108 = .ok (.ireturn, 1) := by decide +kernel
theorem dX9_noneBroken_0 : decode cX9_noneBroken 0 = .ok (.iconst 1, 1) := by decide +kernel
theorem dX9_noneBroken_1 : decode cX9_noneBroken 1 = .ok (.istore_n 2, 1) := by decide +kernel
theorem dX9_noneBroken_2 : decode cX9_noneBroken 2 = .ok (.iconst 0, 1) := by decide +kernel
theorem dX9_noneBroken_3 : decode cX9_noneBroken 3 = .ok (.istore_n 3, 1) := by decide +kernel
theorem dX9_noneBroken_4 : decode cX9_noneBroken 4 = .ok (.iload_n 3, 1) := by decide +kernel
theorem dX9_noneBroken_5 : decode cX9_noneBroken 5 = .ok (.sipush 256, 3) := by decide +kernel
theorem dX9_noneBroken_8 : decode cX9_noneBroken 8 = .ok (.if_icmp .ge 66, 3) := by decide +kernel
theorem dX9_noneBroken_11 : decode cX9_noneBroken 11 = .ok (.iload_n 2, 1) := by decide +kernel
theorem dX9_noneBroken_12 : decode cX9_noneBroken 12 = .ok (.ifCond .eq 62, 3) := by decide +kernel
theorem dX9_noneBroken_15 : decode cX9_noneBroken 15 = .ok (.iconst 0, 1) := by decide +kernel
theorem dX9_noneBroken_16 : decode cX9_noneBroken 16 = .ok (.istore 4, 2) := by decide +kernel
theorem dX9_noneBroken_18 : decode cX9_noneBroken 18 = .ok (.iload 4, 2) := by decide +kernel
theorem dX9_noneBroken_20 : decode cX9_noneBroken 20 = .ok (.sipush 256, 3) := by decide +kernel
theorem dX9_noneBroken_23 : decode cX9_noneBroken 23 = .ok (.if_icmp .ge 45, 3) := by decide +kernel
theorem dX9_noneBroken_26 : decode cX9_noneBroken 26 = .ok (.iload_n 2, 1) := by decide +kernel
theorem dX9_noneBroken_27 : decode cX9_noneBroken 27 = .ok (.ifCond .eq 41, 3) := by decide +kernel
theorem dX9_noneBroken_30 : decode cX9_noneBroken 30 = .ok (.aload_n 0, 1) := by decide +kernel
theorem dX9_noneBroken_31 : decode cX9_noneBroken 31 = .ok (.iload_n 1, 1) := by decide +kernel
theorem dX9_noneBroken_32 : decode cX9_noneBroken 32 = .ok (.iload_n 3, 1) := by decide +kernel
theorem dX9_noneBroken_33 : decode cX9_noneBroken 33 = .ok (.iload 4, 2) := by decide +kernel
theorem dX9_noneBroken_35 : decode cX9_noneBroken 35 = .ok (.invokevirtual 212, 3) := by decide +kernel
theorem dX9_noneBroken_38 : decode cX9_noneBroken 38 = .ok (.ifCond .eq 18, 3) := by decide +kernel
theorem dX9_noneBroken_41 : decode cX9_noneBroken 41 = .ok (.aload_n 0, 1) := by decide +kernel
theorem dX9_noneBroken_42 : decode cX9_noneBroken 42 = .ok (.iload_n 1, 1) := by decide +kernel
theorem dX9_noneBroken_43 : decode cX9_noneBroken 43 = .ok (.iload_n 3, 1) := by decide +kernel
theorem dX9_noneBroken_44 : decode cX9_noneBroken 44 = .ok (.sipush 256, 3) := by decide +kernel
theorem dX9_noneBroken_47 : decode cX9_noneBroken 47 = .ok (.iload 4, 2) := by decide +kernel
theorem dX9_noneBroken_49 : decode cX9_noneBroken 49 = .ok (.iadd, 1) := by decide +kernel
theorem dX9_noneBroken_50 : decode cX9_noneBroken 50 = .ok (.invokevirtual 215, 3) := by decide +kernel
theorem dX9_noneBroken_53 : decode cX9_noneBroken 53 = .ok (.ifCond .eq 7, 3) := by decide +kernel
theorem dX9_noneBroken_56 : decode cX9_noneBroken 56 = .ok (.iconst 1, 1) := by decide +kernel
theorem dX9_noneBroken_57 : decode cX9_noneBroken 57 = .ok (.goto 4, 3) := by decide +kernel
theorem dX9_noneBroken_60 : decode cX9_noneBroken 60 = .ok (.iconst 0, 1) := by decide +kernel
theorem dX9_noneBroken_61 : decode cX9_noneBroken 61 = .ok (.istore_n 2, 1) := by decide +kernel
theorem dX9_noneBroken_62 : decode cX9_noneBroken 62 = .ok (.iinc 4 1, 3) := by decide +kernel
theorem dX9_noneBroken_65 : decode cX9_noneBroken 65 = .ok (.goto (-47), 3) := by decide +kernel
theorem dX9_noneBroken_68 : decode cX9_noneBroken 68 = .ok (.iinc 3 1, 3) := by decide +kernel
theorem dX9_noneBroken_71 : decode cX9_noneBroken 71 = .ok (.goto (-67), 3) := by decide +kernel
theorem dX9_noneBroken_74 : decode cX9_noneBroken 74 = .ok (.iload_n 2, 1) := by decide +kernel
theorem dX9_noneBroken_75 : decode cX9_noneBroken 75 = .ok (.ireturn, 1) := by decide +kernel
theorem dX9_areAlikeIn_0 : decode cX9_areAlikeIn 0 = .ok (.iconst 1, 1) := by decide +kernel
theorem dX9_areAlikeIn_1 : decode cX9_areAlikeIn 1 = .ok (.istore_n 3, 1) := by decide +kernel
theorem dX9_areAlikeIn_2 : decode cX9_areAlikeIn 2 = .ok (.iconst 0, 1) := by decide +kernel
theorem dX9_areAlikeIn_3 : decode cX9_areAlikeIn 3 = .ok (.istore 4, 2) := by decide +kernel
theorem dX9_areAlikeIn_5 : decode cX9_areAlikeIn 5 = .ok (.iload 4, 2) := by decide +kernel
theorem dX9_areAlikeIn_7 : decode cX9_areAlikeIn 7 = .ok (.iconst 4, 1) := by decide +kernel
theorem dX9_areAlikeIn_8 : decode cX9_areAlikeIn 8 = .ok (.if_icmp .ge 43, 3) := by decide +kernel
theorem dX9_areAlikeIn_11 : decode cX9_areAlikeIn 11 = .ok (.iload_n 3, 1) := by decide +kernel
theorem dX9_areAlikeIn_12 : decode cX9_areAlikeIn 12 = .ok (.ifCond .eq 31, 3) := by decide +kernel
theorem dX9_areAlikeIn_15 : decode cX9_areAlikeIn 15 = .ok (.iload_n 2, 1) := by decide +kernel
theorem dX9_areAlikeIn_16 : decode cX9_areAlikeIn 16 = .ok (.iload 4, 2) := by decide +kernel
theorem dX9_areAlikeIn_18 : decode cX9_areAlikeIn 18 = .ok (.ishr, 1) := by decide +kernel
theorem dX9_areAlikeIn_19 : decode cX9_areAlikeIn 19 = .ok (.iconst 1, 1) := by decide +kernel
theorem dX9_areAlikeIn_20 : decode cX9_areAlikeIn 20 = .ok (.iand, 1) := by decide +kernel
theorem dX9_areAlikeIn_21 : decode cX9_areAlikeIn 21 = .ok (.ifCond .eq 18, 3) := by decide +kernel
theorem dX9_areAlikeIn_24 : decode cX9_areAlikeIn 24 = .ok (.iload_n 0, 1) := by decide +kernel
theorem dX9_areAlikeIn_25 : decode cX9_areAlikeIn 25 = .ok (.iload 4, 2) := by decide +kernel
theorem dX9_areAlikeIn_27 : decode cX9_areAlikeIn 27 = .ok (.invokestatic 128, 3) := by decide +kernel
theorem dX9_areAlikeIn_30 : decode cX9_areAlikeIn 30 = .ok (.iload_n 1, 1) := by decide +kernel
theorem dX9_areAlikeIn_31 : decode cX9_areAlikeIn 31 = .ok (.iload 4, 2) := by decide +kernel
theorem dX9_areAlikeIn_33 : decode cX9_areAlikeIn 33 = .ok (.invokestatic 128, 3) := by decide +kernel
theorem dX9_areAlikeIn_36 : decode cX9_areAlikeIn 36 = .ok (.if_icmp .ne 7, 3) := by decide +kernel
theorem dX9_areAlikeIn_39 : decode cX9_areAlikeIn 39 = .ok (.iconst 1, 1) := by decide +kernel
theorem dX9_areAlikeIn_40 : decode cX9_areAlikeIn 40 = .ok (.goto 4, 3) := by decide +kernel
theorem dX9_areAlikeIn_43 : decode cX9_areAlikeIn 43 = .ok (.iconst 0, 1) := by decide +kernel
theorem dX9_areAlikeIn_44 : decode cX9_areAlikeIn 44 = .ok (.istore_n 3, 1) := by decide +kernel
theorem dX9_areAlikeIn_45 : decode cX9_areAlikeIn 45 = .ok (.iinc 4 1, 3) := by decide +kernel
theorem dX9_areAlikeIn_48 : decode cX9_areAlikeIn 48 = .ok (.goto (-43), 3) := by decide +kernel
theorem dX9_areAlikeIn_51 : decode cX9_areAlikeIn 51 = .ok (.iload_n 3, 1) := by decide +kernel
theorem dX9_areAlikeIn_52 : decode cX9_areAlikeIn 52 = .ok (.ireturn, 1) := by decide +kernel
theorem dX9_fit_0 : decode cX9_fit 0 = .ok (.iload_n 1, 1) := by decide +kernel
theorem dX9_fit_1 : decode cX9_fit 1 = .ok (.invokestatic 111, 3) := by decide +kernel
theorem dX9_fit_4 : decode cX9_fit 4 = .ok (.ifCond .ne 5, 3) := by decide +kernel
theorem dX9_fit_7 : decode cX9_fit 7 = .ok (.iconst (-1), 1) := by decide +kernel
theorem dX9_fit_8 : decode cX9_fit 8 = .ok (.ireturn, 1) := by decide +kernel
theorem dX9_fit_9 : decode cX9_fit 9 = .ok (.iload_n 2, 1) := by decide +kernel
theorem dX9_fit_10 : decode cX9_fit 10 = .ok (.invokestatic 162, 3) := by decide +kernel
theorem dX9_fit_13 : decode cX9_fit 13 = .ok (.ifCond .eq 39, 3) := by decide +kernel
theorem dX9_fit_16 : decode cX9_fit 16 = .ok (.iload_n 3, 1) := by decide +kernel
theorem dX9_fit_17 : decode cX9_fit 17 = .ok (.i2l, 1) := by decide +kernel
theorem dX9_fit_18 : decode cX9_fit 18 = .ok (.lconst 0, 1) := by decide +kernel
theorem dX9_fit_19 : decode cX9_fit 19 = .ok (.ldc2_w 312, 3) := by decide +kernel
theorem dX9_fit_22 : decode cX9_fit 22 = .ok (.invokestatic 101, 3) := by decide +kernel
theorem dX9_fit_25 : decode cX9_fit 25 = .ok (.ifCond .eq 27, 3) := by decide +kernel
theorem dX9_fit_28 : decode cX9_fit 28 = .ok (.iload 4, 2) := by decide +kernel
theorem dX9_fit_30 : decode cX9_fit 30 = .ok (.i2l, 1) := by decide +kernel
theorem dX9_fit_31 : decode cX9_fit 31 = .ok (.lconst 0, 1) := by decide +kernel
theorem dX9_fit_32 : decode cX9_fit 32 = .ok (.ldc2_w 314, 3) := by decide +kernel
theorem dX9_fit_35 : decode cX9_fit 35 = .ok (.invokestatic 101, 3) := by decide +kernel
theorem dX9_fit_38 : decode cX9_fit 38 = .ok (.ifCond .eq 14, 3) := by decide +kernel
theorem dX9_fit_41 : decode cX9_fit 41 = .ok (.iload 5, 2) := by decide +kernel
theorem dX9_fit_43 : decode cX9_fit 43 = .ok (.i2l, 1) := by decide +kernel
theorem dX9_fit_44 : decode cX9_fit 44 = .ok (.lconst 0, 1) := by decide +kernel
theorem dX9_fit_45 : decode cX9_fit 45 = .ok (.lconst 1, 1) := by decide +kernel
theorem dX9_fit_46 : decode cX9_fit 46 = .ok (.invokestatic 101, 3) := by decide +kernel
theorem dX9_fit_49 : decode cX9_fit 49 = .ok (.ifCond .ne 6, 3) := by decide +kernel
theorem dX9_fit_52 : decode cX9_fit 52 = .ok (.bipush (-2), 2) := by decide +kernel
theorem dX9_fit_54 : decode cX9_fit 54 = .ok (.ireturn, 1) := by decide +kernel
theorem dX9_fit_55 : decode cX9_fit 55 = .ok (.aload_n 0, 1) := by decide +kernel
theorem dX9_fit_56 : decode cX9_fit 56 = .ok (.iload_n 1, 1) := by decide +kernel
theorem dX9_fit_57 : decode cX9_fit 57 = .ok (.iload_n 2, 1) := by decide +kernel
theorem dX9_fit_58 : decode cX9_fit 58 = .ok (.iconst 0, 1) := by decide +kernel
theorem dX9_fit_59 : decode cX9_fit 59 = .ok (.invokevirtual 157, 3) := by decide +kernel
theorem dX9_fit_62 : decode cX9_fit 62 = .ok (.iconst 0, 1) := by decide +kernel
theorem dX9_fit_63 : decode cX9_fit 63 = .ok (.istore 6, 2) := by decide +kernel
theorem dX9_fit_65 : decode cX9_fit 65 = .ok (.bipush (-6), 2) := by decide +kernel
theorem dX9_fit_67 : decode cX9_fit 67 = .ok (.istore 7, 2) := by decide +kernel
theorem dX9_fit_69 : decode cX9_fit 69 = .ok (.iconst 0, 1) := by decide +kernel
theorem dX9_fit_70 : decode cX9_fit 70 = .ok (.istore 8, 2) := by decide +kernel
theorem dX9_fit_72 : decode cX9_fit 72 = .ok (.iload 8, 2) := by decide +kernel
theorem dX9_fit_74 : decode cX9_fit 74 = .ok (.sipush 256, 3) := by decide +kernel
theorem dX9_fit_77 : decode cX9_fit 77 = .ok (.if_icmp .ge 132, 3) := by decide +kernel
theorem dX9_fit_80 : decode cX9_fit 80 = .ok (.iload_n 2, 1) := by decide +kernel
theorem dX9_fit_81 : decode cX9_fit 81 = .ok (.iload 8, 2) := by decide +kernel
theorem dX9_fit_83 : decode cX9_fit 83 = .ok (.iload_n 3, 1) := by decide +kernel
theorem dX9_fit_84 : decode cX9_fit 84 = .ok (.invokestatic 316, 3) := by decide +kernel
theorem dX9_fit_87 : decode cX9_fit 87 = .ok (.ifCond .eq 116, 3) := by decide +kernel
theorem dX9_fit_90 : decode cX9_fit 90 = .ok (.aload_n 0, 1) := by decide +kernel
theorem dX9_fit_91 : decode cX9_fit 91 = .ok (.iload_n 1, 1) := by decide +kernel
theorem dX9_fit_92 : decode cX9_fit 92 = .ok (.iload 8, 2) := by decide +kernel
theorem dX9_fit_94 : decode cX9_fit 94 = .ok (.iconst 1, 1) := by decide +kernel
theorem dX9_fit_95 : decode cX9_fit 95 = .ok (.invokevirtual 157, 3) := by decide +kernel
theorem dX9_fit_98 : decode cX9_fit 98 = .ok (.aload_n 0, 1) := by decide +kernel
theorem dX9_fit_99 : decode cX9_fit 99 = .ok (.getfield 44, 3) := by decide +kernel
theorem dX9_fit_102 : decode cX9_fit 102 = .ok (.iconst 0, 1) := by decide +kernel
theorem dX9_fit_103 : decode cX9_fit 103 = .ok (.iaload, 1) := by decide +kernel
theorem dX9_fit_104 : decode cX9_fit 104 = .ok (.iload 4, 2) := by decide +kernel
theorem dX9_fit_106 : decode cX9_fit 106 = .ok (.if_icmp .lt 22, 3) := by decide +kernel
theorem dX9_fit_109 : decode cX9_fit 109 = .ok (.aload_n 0, 1) := by decide +kernel
theorem dX9_fit_110 : decode cX9_fit 110 = .ok (.getfield 44, 3) := by decide +kernel
theorem dX9_fit_113 : decode cX9_fit 113 = .ok (.iconst 1, 1) := by decide +kernel
theorem dX9_fit_114 : decode cX9_fit 114 = .ok (.iaload, 1) := by decide +kernel
theorem dX9_fit_115 : decode cX9_fit 115 = .ok (.iload 4, 2) := by decide +kernel
theorem dX9_fit_117 : decode cX9_fit 117 = .ok (.if_icmp .lt 7, 3) := by decide +kernel
theorem dX9_fit_120 : decode cX9_fit 120 = .ok (.iconst 1, 1) := by decide +kernel
theorem dX9_fit_121 : decode cX9_fit 121 = .ok (.goto 27, 3) := by decide +kernel
theorem dX9_fit_124 : decode cX9_fit 124 = .ok (.iconst 0, 1) := by decide +kernel
theorem dX9_fit_125 : decode cX9_fit 125 = .ok (.goto 23, 3) := by decide +kernel
theorem dX9_fit_128 : decode cX9_fit 128 = .ok (.aload_n 0, 1) := by decide +kernel
theorem dX9_fit_129 : decode cX9_fit 129 = .ok (.getfield 44, 3) := by decide +kernel
theorem dX9_fit_132 : decode cX9_fit 132 = .ok (.iconst 1, 1) := by decide +kernel
theorem dX9_fit_133 : decode cX9_fit 133 = .ok (.iaload, 1) := by decide +kernel
theorem dX9_fit_134 : decode cX9_fit 134 = .ok (.aload_n 0, 1) := by decide +kernel
theorem dX9_fit_135 : decode cX9_fit 135 = .ok (.getfield 44, 3) := by decide +kernel
theorem dX9_fit_138 : decode cX9_fit 138 = .ok (.iconst 0, 1) := by decide +kernel
theorem dX9_fit_139 : decode cX9_fit 139 = .ok (.iaload, 1) := by decide +kernel
theorem dX9_fit_140 : decode cX9_fit 140 = .ok (.if_icmp .ne 7, 3) := by decide +kernel
theorem dX9_fit_143 : decode cX9_fit 143 = .ok (.iconst 1, 1) := by decide +kernel
theorem dX9_fit_144 : decode cX9_fit 144 = .ok (.goto 4, 3) := by decide +kernel
theorem dX9_fit_147 : decode cX9_fit 147 = .ok (.iconst 0, 1) := by decide +kernel
theorem dX9_fit_148 : decode cX9_fit 148 = .ok (.istore 9, 2) := by decide +kernel
theorem dX9_fit_150 : decode cX9_fit 150 = .ok (.iload 9, 2) := by decide +kernel
theorem dX9_fit_152 : decode cX9_fit 152 = .ok (.ifCond .eq 51, 3) := by decide +kernel
theorem dX9_fit_155 : decode cX9_fit 155 = .ok (.aload_n 0, 1) := by decide +kernel
theorem dX9_fit_156 : decode cX9_fit 156 = .ok (.iconst 0, 1) := by decide +kernel
theorem dX9_fit_157 : decode cX9_fit 157 = .ok (.iconst 1, 1) := by decide +kernel
theorem dX9_fit_158 : decode cX9_fit 158 = .ok (.aload_n 0, 1) := by decide +kernel
theorem dX9_fit_159 : decode cX9_fit 159 = .ok (.getfield 44, 3) := by decide +kernel
theorem dX9_fit_162 : decode cX9_fit 162 = .ok (.iconst 0, 1) := by decide +kernel
theorem dX9_fit_163 : decode cX9_fit 163 = .ok (.iaload, 1) := by decide +kernel
theorem dX9_fit_164 : decode cX9_fit 164 = .ok (.iload 4, 2) := by decide +kernel
theorem dX9_fit_166 : decode cX9_fit 166 = .ok (.if_icmp .ge 12, 3) := by decide +kernel
theorem dX9_fit_169 : decode cX9_fit 169 = .ok (.aload_n 0, 1) := by decide +kernel
theorem dX9_fit_170 : decode cX9_fit 170 = .ok (.getfield 44, 3) := by decide +kernel
theorem dX9_fit_173 : decode cX9_fit 173 = .ok (.iconst 0, 1) := by decide +kernel
theorem dX9_fit_174 : decode cX9_fit 174 = .ok (.iaload, 1) := by decide +kernel
theorem dX9_fit_175 : decode cX9_fit 175 = .ok (.goto 5, 3) := by decide +kernel
theorem dX9_fit_178 : decode cX9_fit 178 = .ok (.iload 4, 2) := by decide +kernel
theorem dX9_fit_180 : decode cX9_fit 180 = .ok (.invokevirtual 206, 3) := by decide +kernel
theorem dX9_fit_183 : decode cX9_fit 183 = .ok (.ifCond .eq 20, 3) := by decide +kernel
theorem dX9_fit_186 : decode cX9_fit 186 = .ok (.iload 6, 2) := by decide +kernel
theorem dX9_fit_188 : decode cX9_fit 188 = .ok (.ifCond .ne 8, 3) := by decide +kernel
theorem dX9_fit_191 : decode cX9_fit 191 = .ok (.iload 8, 2) := by decide +kernel
theorem dX9_fit_193 : decode cX9_fit 193 = .ok (.goto 5, 3) := by decide +kernel
theorem dX9_fit_196 : decode cX9_fit 196 = .ok (.iload 7, 2) := by decide +kernel
theorem dX9_fit_198 : decode cX9_fit 198 = .ok (.istore 7, 2) := by decide +kernel
theorem dX9_fit_200 : decode cX9_fit 200 = .ok (.iinc 6 1, 3) := by decide +kernel
theorem dX9_fit_203 : decode cX9_fit 203 = .ok (.iinc 8 1, 3) := by decide +kernel
theorem dX9_fit_206 : decode cX9_fit 206 = .ok (.goto (-134), 3) := by decide +kernel
theorem dX9_fit_209 : decode cX9_fit 209 = .ok (.iload 5, 2) := by decide +kernel
theorem dX9_fit_211 : decode cX9_fit 211 = .ok (.ifCond .ne 8, 3) := by decide +kernel
theorem dX9_fit_214 : decode cX9_fit 214 = .ok (.iload 6, 2) := by decide +kernel
theorem dX9_fit_216 : decode cX9_fit 216 = .ok (.goto 5, 3) := by decide +kernel
theorem dX9_fit_219 : decode cX9_fit 219 = .ok (.iload 7, 2) := by decide +kernel
theorem dX9_fit_221 : decode cX9_fit 221 = .ok (.ireturn, 1) := by decide +kernel
theorem dX9_far_0 : decode cX9_far 0 = .ok (.iload_n 1, 1) := by decide +kernel
theorem dX9_far_1 : decode cX9_far 1 = .ok (.invokestatic 111, 3) := by decide +kernel
theorem dX9_far_4 : decode cX9_far 4 = .ok (.ifCond .ne 5, 3) := by decide +kernel
theorem dX9_far_7 : decode cX9_far 7 = .ok (.iconst (-1), 1) := by decide +kernel
theorem dX9_far_8 : decode cX9_far 8 = .ok (.ireturn, 1) := by decide +kernel
theorem dX9_far_9 : decode cX9_far 9 = .ok (.iload_n 2, 1) := by decide +kernel
theorem dX9_far_10 : decode cX9_far 10 = .ok (.invokestatic 105, 3) := by decide +kernel
theorem dX9_far_13 : decode cX9_far 13 = .ok (.ifCond .eq 23, 3) := by decide +kernel
theorem dX9_far_16 : decode cX9_far 16 = .ok (.iload_n 3, 1) := by decide +kernel
theorem dX9_far_17 : decode cX9_far 17 = .ok (.invokestatic 105, 3) := by decide +kernel
theorem dX9_far_20 : decode cX9_far 20 = .ok (.ifCond .eq 16, 3) := by decide +kernel
theorem dX9_far_23 : decode cX9_far 23 = .ok (.iload 4, 2) := by decide +kernel
theorem dX9_far_25 : decode cX9_far 25 = .ok (.i2l, 1) := by decide +kernel
theorem dX9_far_26 : decode cX9_far 26 = .ok (.lconst 1, 1) := by decide +kernel
theorem dX9_far_27 : decode cX9_far 27 = .ok (.ldc2_w 99, 3) := by decide +kernel
theorem dX9_far_30 : decode cX9_far 30 = .ok (.invokestatic 101, 3) := by decide +kernel
theorem dX9_far_33 : decode cX9_far 33 = .ok (.ifCond .ne 6, 3) := by decide +kernel
theorem dX9_far_36 : decode cX9_far 36 = .ok (.bipush (-2), 2) := by decide +kernel
theorem dX9_far_38 : decode cX9_far 38 = .ok (.ireturn, 1) := by decide +kernel
theorem dX9_far_39 : decode cX9_far 39 = .ok (.aload_n 0, 1) := by decide +kernel
theorem dX9_far_40 : decode cX9_far 40 = .ok (.iload_n 1, 1) := by decide +kernel
theorem dX9_far_41 : decode cX9_far 41 = .ok (.iload_n 1, 1) := by decide +kernel
theorem dX9_far_42 : decode cX9_far 42 = .ok (.invokevirtual 233, 3) := by decide +kernel
theorem dX9_far_45 : decode cX9_far 45 = .ok (.aload_n 0, 1) := by decide +kernel
